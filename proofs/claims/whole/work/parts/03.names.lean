/-! NAMES: classes, fields, methods, the words -/
def R_Display : String := "JobTerminal$Display"
def F_Display : u_T := fun k => match k with
  | 0 => ("JobTerminal$Display", "codes", "[I", true)
  | 1 => ("JobTerminal$Display", "next", "I", false)
  | _ => ("JobTerminal$Display", "total", "I", false)
def t_Display : Nat → FieldType := fun k => match k with
  | 0 => .array .int
  | 1 => .int
  | _ => .int
theorem n_Display : ∀ a, a < 3 → ∀ b, b < 3 → a ≠ b → (F_Display a).2.1 ≠ (F_Display b).2.1 := by decide +kernel
theorem t_Display_ok : ∀ k, k < 3 → parseFieldDescriptor (F_Display k).2.2.1 = some (t_Display k) := by decide +kernel
def R_Job : String := "JobTerminal$Job"
def F_Job : u_T := fun k => match k with
  | 0 => ("JobTerminal$Job", "number", "I", true)
  | 1 => ("JobTerminal$Job", "pipe", "LJobTerminal$NumberRow;", true)
  | 2 => ("JobTerminal$Job", "first", "LJobTerminal$JobProcess;", false)
  | 3 => ("JobTerminal$Job", "second", "LJobTerminal$JobProcess;", false)
  | 4 => ("JobTerminal$Job", "untold", "Z", false)
  | _ => ("JobTerminal$Job", "settledState", "I", false)
def t_Job : Nat → FieldType := fun k => match k with
  | 0 => .int
  | 1 => .object "JobTerminal$NumberRow"
  | 2 => .object "JobTerminal$JobProcess"
  | 3 => .object "JobTerminal$JobProcess"
  | 4 => .boolean
  | _ => .int
theorem n_Job : ∀ a, a < 6 → ∀ b, b < 6 → a ≠ b → (F_Job a).2.1 ≠ (F_Job b).2.1 := by decide +kernel
theorem t_Job_ok : ∀ k, k < 6 → parseFieldDescriptor (F_Job k).2.2.1 = some (t_Job k) := by decide +kernel
def R_JobProcess : String := "JobTerminal$JobProcess"
def F_JobProcess : u_T := fun k => match k with
  | 0 => ("JobTerminal$JobProcess", "owner", "LJobTerminal$Job;", false)
  | 1 => ("JobTerminal$JobProcess", "state", "I", false)
  | 2 => ("JobTerminal$JobProcess", "program", "I", false)
  | 3 => ("JobTerminal$JobProcess", "line", "I", false)
  | 4 => ("JobTerminal$JobProcess", "register", "I", false)
  | 5 => ("JobTerminal$JobProcess", "code", "I", false)
  | 6 => ("JobTerminal$JobProcess", "pending", "I", false)
  | 7 => ("JobTerminal$JobProcess", "blocked", "I", false)
  | 8 => ("JobTerminal$JobProcess", "ignored", "I", false)
  | _ => ("JobTerminal$JobProcess", "nap", "I", false)
def t_JobProcess : Nat → FieldType := fun k => match k with
  | 0 => .object "JobTerminal$Job"
  | 1 => .int
  | 2 => .int
  | 3 => .int
  | 4 => .int
  | 5 => .int
  | 6 => .int
  | 7 => .int
  | 8 => .int
  | _ => .int
theorem n_JobProcess : ∀ a, a < 10 → ∀ b, b < 10 → a ≠ b → (F_JobProcess a).2.1 ≠ (F_JobProcess b).2.1 := by decide +kernel
theorem t_JobProcess_ok : ∀ k, k < 10 → parseFieldDescriptor (F_JobProcess k).2.2.1 = some (t_JobProcess k) := by decide +kernel
def R_NumberRow : String := "JobTerminal$NumberRow"
def F_NumberRow : u_T := fun k => match k with
  | 0 => ("JobTerminal$NumberRow", "numbers", "[I", true)
  | 1 => ("JobTerminal$NumberRow", "oldest", "I", false)
  | _ => ("JobTerminal$NumberRow", "count", "I", false)
def t_NumberRow : Nat → FieldType := fun k => match k with
  | 0 => .array .int
  | 1 => .int
  | _ => .int
theorem n_NumberRow : ∀ a, a < 3 → ∀ b, b < 3 → a ≠ b → (F_NumberRow a).2.1 ≠ (F_NumberRow b).2.1 := by decide +kernel
theorem t_NumberRow_ok : ∀ k, k < 3 → parseFieldDescriptor (F_NumberRow k).2.2.1 = some (t_NumberRow k) := by decide +kernel
def R_Programs : String := "JobTerminal$Programs"
def F_Programs : u_T := fun k => match k with
  | 0 => ("JobTerminal$Programs", "ops", "[I", true)
  | _ => ("JobTerminal$Programs", "numbers", "[I", true)
def t_Programs : Nat → FieldType := fun k => match k with
  | 0 => .array .int
  | _ => .array .int
theorem n_Programs : ∀ a, a < 2 → ∀ b, b < 2 → a ≠ b → (F_Programs a).2.1 ≠ (F_Programs b).2.1 := by decide +kernel
theorem t_Programs_ok : ∀ k, k < 2 → parseFieldDescriptor (F_Programs k).2.2.1 = some (t_Programs k) := by decide +kernel
def R_Terminal : String := "JobTerminal$Terminal"
def F_Terminal : u_T := fun k => match k with
  | 0 => ("JobTerminal$Terminal", "edit", "LJobTerminal$NumberRow;", true)
  | 1 => ("JobTerminal$Terminal", "queue", "LJobTerminal$NumberRow;", true)
  | 2 => ("JobTerminal$Terminal", "display", "LJobTerminal$Display;", true)
  | 3 => ("JobTerminal$Terminal", "modes", "I", false)
  | _ => ("JobTerminal$Terminal", "hangs", "Z", false)
def t_Terminal : Nat → FieldType := fun k => match k with
  | 0 => .object "JobTerminal$NumberRow"
  | 1 => .object "JobTerminal$NumberRow"
  | 2 => .object "JobTerminal$Display"
  | 3 => .int
  | _ => .boolean
theorem n_Terminal : ∀ a, a < 5 → ∀ b, b < 5 → a ≠ b → (F_Terminal a).2.1 ≠ (F_Terminal b).2.1 := by decide +kernel
theorem t_Terminal_ok : ∀ k, k < 5 → parseFieldDescriptor (F_Terminal k).2.2.1 = some (t_Terminal k) := by decide +kernel
def R_JT : String := "JobTerminal"
def F_JT : u_T := fun k => match k with
  | 0 => ("JobTerminal", "programs", "LJobTerminal$Programs;", true)
  | 1 => ("JobTerminal", "processes", "[LJobTerminal$JobProcess;", true)
  | 2 => ("JobTerminal", "jobs", "[LJobTerminal$Job;", true)
  | 3 => ("JobTerminal", "terminal", "LJobTerminal$Terminal;", true)
  | 4 => ("JobTerminal", "foregroundJob", "LJobTerminal$Job;", false)
  | _ => ("JobTerminal", "latestSlot", "I", false)
def t_JT : Nat → FieldType := fun k => match k with
  | 0 => .object "JobTerminal$Programs"
  | 1 => .array (.object "JobTerminal$JobProcess")
  | 2 => .array (.object "JobTerminal$Job")
  | 3 => .object "JobTerminal$Terminal"
  | 4 => .object "JobTerminal$Job"
  | _ => .int
theorem n_JT : ∀ a, a < 6 → ∀ b, b < 6 → a ≠ b → (F_JT a).2.1 ≠ (F_JT b).2.1 := by decide +kernel
theorem t_JT_ok : ∀ k, k < 6 → parseFieldDescriptor (F_JT k).2.2.1 = some (t_JT k) := by decide +kernel
def R_Mo : String := "JobTerminalModel"
def F_Mo : u_T := fun k => match k with
  | 0 => ("JobTerminalModel", "ops", "[I", true)
  | 1 => ("JobTerminalModel", "numbers", "[I", true)
  | 2 => ("JobTerminalModel", "state", "[I", true)
  | 3 => ("JobTerminalModel", "jobOf", "[I", true)
  | 4 => ("JobTerminalModel", "programOf", "[I", true)
  | 5 => ("JobTerminalModel", "line", "[I", true)
  | 6 => ("JobTerminalModel", "register", "[I", true)
  | 7 => ("JobTerminalModel", "ends", "[I", true)
  | 8 => ("JobTerminalModel", "pending", "[I", true)
  | 9 => ("JobTerminalModel", "blocked", "[I", true)
  | 10 => ("JobTerminalModel", "ignored", "[I", true)
  | 11 => ("JobTerminalModel", "nap", "[I", true)
  | 12 => ("JobTerminalModel", "turn", "I", false)
  | 13 => ("JobTerminalModel", "there", "[Z", true)
  | 14 => ("JobTerminalModel", "first", "[I", true)
  | 15 => ("JobTerminalModel", "second", "[I", true)
  | 16 => ("JobTerminalModel", "was", "[I", true)
  | 17 => ("JobTerminalModel", "untold", "[Z", true)
  | 18 => ("JobTerminalModel", "piped", "[I", true)
  | 19 => ("JobTerminalModel", "pipe", "[I", true)
  | 20 => ("JobTerminalModel", "front", "I", false)
  | 21 => ("JobTerminalModel", "flag", "I", false)
  | 22 => ("JobTerminalModel", "hung", "Z", false)
  | 23 => ("JobTerminalModel", "edited", "I", false)
  | 24 => ("JobTerminalModel", "edit", "[I", true)
  | 25 => ("JobTerminalModel", "queued", "I", false)
  | 26 => ("JobTerminalModel", "queue", "[I", true)
  | 27 => ("JobTerminalModel", "shows", "I", false)
  | 28 => ("JobTerminalModel", "screen", "[I", true)
  | 29 => ("JobTerminalModel", "failed", "Z", false)
  | _ => ("JobTerminalModel", "code", "I", false)
def t_Mo : Nat → FieldType := fun k => match k with
  | 0 => .array .int
  | 1 => .array .int
  | 2 => .array .int
  | 3 => .array .int
  | 4 => .array .int
  | 5 => .array .int
  | 6 => .array .int
  | 7 => .array .int
  | 8 => .array .int
  | 9 => .array .int
  | 10 => .array .int
  | 11 => .array .int
  | 12 => .int
  | 13 => .array .boolean
  | 14 => .array .int
  | 15 => .array .int
  | 16 => .array .int
  | 17 => .array .boolean
  | 18 => .array .int
  | 19 => .array .int
  | 20 => .int
  | 21 => .int
  | 22 => .boolean
  | 23 => .int
  | 24 => .array .int
  | 25 => .int
  | 26 => .array .int
  | 27 => .int
  | 28 => .array .int
  | 29 => .boolean
  | _ => .int
theorem n_Mo : ∀ a, a < 31 → ∀ b, b < 31 → a ≠ b → (F_Mo a).2.1 ≠ (F_Mo b).2.1 := by decide +kernel
theorem t_Mo_ok : ∀ k, k < 31 → parseFieldDescriptor (F_Mo k).2.2.1 = some (t_Mo k) := by decide +kernel
abbrev vwCl : List vw_C := [(R_Display, F_Display, 3), (R_Job, F_Job, 6), (R_JobProcess, F_JobProcess, 10), (R_NumberRow, F_NumberRow, 3), (R_Programs, F_Programs, 2), (R_Terminal, F_Terminal, 5), (R_JT, F_JT, 6), (R_Mo, F_Mo, 31)]
def GW : List Cond := lw_tbl.filter goodWord
theorem q_mem {w : Cond} (i : Nat) (h : lw_tbl[i]? = some w) (hg : goodWord w = true) : w ∈ GW := List.mem_filter.mpr ⟨List.mem_of_getElem? h, hg⟩
theorem q_gw {w : Cond} (h : w ∈ GW) : w ∈ lw_tbl ∧ ((w.onTables && w.keeps) = true ∨ ∃ ty, w = .arrayClass ty) := ⟨(List.mem_filter.mp h).1, good_of_word (List.mem_filter.mp h).2⟩
theorem mw0 : (Jvm.Cond.laysFinal "JobTerminal$Display" "JobTerminal$Display" "codes" "[I") ∈ GW := q_mem 129 rfl rfl
theorem mw1 : (Jvm.Cond.lays "JobTerminal$Display" "JobTerminal$Display" "next" "I") ∈ GW := q_mem 131 rfl rfl
theorem mw2 : (Jvm.Cond.lays "JobTerminal$Display" "JobTerminal$Display" "total" "I") ∈ GW := q_mem 133 rfl rfl
theorem mw3 : (Jvm.Cond.laysFinal "JobTerminal$Job" "JobTerminal$Job" "number" "I") ∈ GW := q_mem 223 rfl rfl
theorem mw4 : (Jvm.Cond.laysFinal "JobTerminal$Job" "JobTerminal$Job" "pipe" "LJobTerminal$NumberRow;") ∈ GW := q_mem 225 rfl rfl
theorem mw5 : (Jvm.Cond.lays "JobTerminal$Job" "JobTerminal$Job" "first" "LJobTerminal$JobProcess;") ∈ GW := q_mem 227 rfl rfl
theorem mw6 : (Jvm.Cond.lays "JobTerminal$Job" "JobTerminal$Job" "second" "LJobTerminal$JobProcess;") ∈ GW := q_mem 229 rfl rfl
theorem mw7 : (Jvm.Cond.lays "JobTerminal$Job" "JobTerminal$Job" "untold" "Z") ∈ GW := q_mem 231 rfl rfl
theorem mw8 : (Jvm.Cond.lays "JobTerminal$Job" "JobTerminal$Job" "settledState" "I") ∈ GW := q_mem 233 rfl rfl
theorem mw9 : (Jvm.Cond.lays "JobTerminal$JobProcess" "JobTerminal$JobProcess" "owner" "LJobTerminal$Job;") ∈ GW := q_mem 181 rfl rfl
theorem mw10 : (Jvm.Cond.lays "JobTerminal$JobProcess" "JobTerminal$JobProcess" "state" "I") ∈ GW := q_mem 183 rfl rfl
theorem mw11 : (Jvm.Cond.lays "JobTerminal$JobProcess" "JobTerminal$JobProcess" "program" "I") ∈ GW := q_mem 185 rfl rfl
theorem mw12 : (Jvm.Cond.lays "JobTerminal$JobProcess" "JobTerminal$JobProcess" "line" "I") ∈ GW := q_mem 187 rfl rfl
theorem mw13 : (Jvm.Cond.lays "JobTerminal$JobProcess" "JobTerminal$JobProcess" "register" "I") ∈ GW := q_mem 189 rfl rfl
theorem mw14 : (Jvm.Cond.lays "JobTerminal$JobProcess" "JobTerminal$JobProcess" "code" "I") ∈ GW := q_mem 191 rfl rfl
theorem mw15 : (Jvm.Cond.lays "JobTerminal$JobProcess" "JobTerminal$JobProcess" "pending" "I") ∈ GW := q_mem 193 rfl rfl
theorem mw16 : (Jvm.Cond.lays "JobTerminal$JobProcess" "JobTerminal$JobProcess" "blocked" "I") ∈ GW := q_mem 195 rfl rfl
theorem mw17 : (Jvm.Cond.lays "JobTerminal$JobProcess" "JobTerminal$JobProcess" "ignored" "I") ∈ GW := q_mem 197 rfl rfl
theorem mw18 : (Jvm.Cond.lays "JobTerminal$JobProcess" "JobTerminal$JobProcess" "nap" "I") ∈ GW := q_mem 199 rfl rfl
theorem mw19 : (Jvm.Cond.laysFinal "JobTerminal$NumberRow" "JobTerminal$NumberRow" "numbers" "[I") ∈ GW := q_mem 112 rfl rfl
theorem mw20 : (Jvm.Cond.lays "JobTerminal$NumberRow" "JobTerminal$NumberRow" "oldest" "I") ∈ GW := q_mem 114 rfl rfl
theorem mw21 : (Jvm.Cond.lays "JobTerminal$NumberRow" "JobTerminal$NumberRow" "count" "I") ∈ GW := q_mem 116 rfl rfl
theorem mw22 : (Jvm.Cond.laysFinal "JobTerminal$Programs" "JobTerminal$Programs" "ops" "[I") ∈ GW := q_mem 86 rfl rfl
theorem mw23 : (Jvm.Cond.laysFinal "JobTerminal$Programs" "JobTerminal$Programs" "numbers" "[I") ∈ GW := q_mem 88 rfl rfl
theorem mw24 : (Jvm.Cond.laysFinal "JobTerminal$Terminal" "JobTerminal$Terminal" "edit" "LJobTerminal$NumberRow;") ∈ GW := q_mem 146 rfl rfl
theorem mw25 : (Jvm.Cond.laysFinal "JobTerminal$Terminal" "JobTerminal$Terminal" "queue" "LJobTerminal$NumberRow;") ∈ GW := q_mem 148 rfl rfl
theorem mw26 : (Jvm.Cond.laysFinal "JobTerminal$Terminal" "JobTerminal$Terminal" "display" "LJobTerminal$Display;") ∈ GW := q_mem 150 rfl rfl
theorem mw27 : (Jvm.Cond.lays "JobTerminal$Terminal" "JobTerminal$Terminal" "modes" "I") ∈ GW := q_mem 152 rfl rfl
theorem mw28 : (Jvm.Cond.lays "JobTerminal$Terminal" "JobTerminal$Terminal" "hangs" "Z") ∈ GW := q_mem 154 rfl rfl
theorem mw29 : (Jvm.Cond.laysFinal "JobTerminal" "JobTerminal" "programs" "LJobTerminal$Programs;") ∈ GW := q_mem 242 rfl rfl
theorem mw30 : (Jvm.Cond.laysFinal "JobTerminal" "JobTerminal" "processes" "[LJobTerminal$JobProcess;") ∈ GW := q_mem 244 rfl rfl
theorem mw31 : (Jvm.Cond.laysFinal "JobTerminal" "JobTerminal" "jobs" "[LJobTerminal$Job;") ∈ GW := q_mem 246 rfl rfl
theorem mw32 : (Jvm.Cond.laysFinal "JobTerminal" "JobTerminal" "terminal" "LJobTerminal$Terminal;") ∈ GW := q_mem 248 rfl rfl
theorem mw33 : (Jvm.Cond.lays "JobTerminal" "JobTerminal" "foregroundJob" "LJobTerminal$Job;") ∈ GW := q_mem 250 rfl rfl
theorem mw34 : (Jvm.Cond.lays "JobTerminal" "JobTerminal" "latestSlot" "I") ∈ GW := q_mem 252 rfl rfl
set_option maxRecDepth 20000 in
theorem mw35 : (Jvm.Cond.laysFinal "JobTerminalModel" "JobTerminalModel" "ops" "[I") ∈ GW := q_mem 732 rfl rfl
set_option maxRecDepth 20000 in
theorem mw36 : (Jvm.Cond.laysFinal "JobTerminalModel" "JobTerminalModel" "numbers" "[I") ∈ GW := q_mem 734 rfl rfl
set_option maxRecDepth 20000 in
theorem mw37 : (Jvm.Cond.laysFinal "JobTerminalModel" "JobTerminalModel" "state" "[I") ∈ GW := q_mem 736 rfl rfl
set_option maxRecDepth 20000 in
theorem mw38 : (Jvm.Cond.laysFinal "JobTerminalModel" "JobTerminalModel" "jobOf" "[I") ∈ GW := q_mem 738 rfl rfl
set_option maxRecDepth 20000 in
theorem mw39 : (Jvm.Cond.laysFinal "JobTerminalModel" "JobTerminalModel" "programOf" "[I") ∈ GW := q_mem 740 rfl rfl
set_option maxRecDepth 20000 in
theorem mw40 : (Jvm.Cond.laysFinal "JobTerminalModel" "JobTerminalModel" "line" "[I") ∈ GW := q_mem 742 rfl rfl
set_option maxRecDepth 20000 in
theorem mw41 : (Jvm.Cond.laysFinal "JobTerminalModel" "JobTerminalModel" "register" "[I") ∈ GW := q_mem 744 rfl rfl
set_option maxRecDepth 20000 in
theorem mw42 : (Jvm.Cond.laysFinal "JobTerminalModel" "JobTerminalModel" "ends" "[I") ∈ GW := q_mem 746 rfl rfl
set_option maxRecDepth 20000 in
theorem mw43 : (Jvm.Cond.laysFinal "JobTerminalModel" "JobTerminalModel" "pending" "[I") ∈ GW := q_mem 748 rfl rfl
set_option maxRecDepth 20000 in
theorem mw44 : (Jvm.Cond.laysFinal "JobTerminalModel" "JobTerminalModel" "blocked" "[I") ∈ GW := q_mem 750 rfl rfl
set_option maxRecDepth 20000 in
theorem mw45 : (Jvm.Cond.laysFinal "JobTerminalModel" "JobTerminalModel" "ignored" "[I") ∈ GW := q_mem 752 rfl rfl
set_option maxRecDepth 20000 in
theorem mw46 : (Jvm.Cond.laysFinal "JobTerminalModel" "JobTerminalModel" "nap" "[I") ∈ GW := q_mem 754 rfl rfl
set_option maxRecDepth 20000 in
theorem mw47 : (Jvm.Cond.lays "JobTerminalModel" "JobTerminalModel" "turn" "I") ∈ GW := q_mem 756 rfl rfl
set_option maxRecDepth 20000 in
theorem mw48 : (Jvm.Cond.laysFinal "JobTerminalModel" "JobTerminalModel" "there" "[Z") ∈ GW := q_mem 758 rfl rfl
set_option maxRecDepth 20000 in
theorem mw49 : (Jvm.Cond.laysFinal "JobTerminalModel" "JobTerminalModel" "first" "[I") ∈ GW := q_mem 760 rfl rfl
set_option maxRecDepth 20000 in
theorem mw50 : (Jvm.Cond.laysFinal "JobTerminalModel" "JobTerminalModel" "second" "[I") ∈ GW := q_mem 762 rfl rfl
set_option maxRecDepth 20000 in
theorem mw51 : (Jvm.Cond.laysFinal "JobTerminalModel" "JobTerminalModel" "was" "[I") ∈ GW := q_mem 764 rfl rfl
set_option maxRecDepth 20000 in
theorem mw52 : (Jvm.Cond.laysFinal "JobTerminalModel" "JobTerminalModel" "untold" "[Z") ∈ GW := q_mem 766 rfl rfl
set_option maxRecDepth 20000 in
theorem mw53 : (Jvm.Cond.laysFinal "JobTerminalModel" "JobTerminalModel" "piped" "[I") ∈ GW := q_mem 768 rfl rfl
set_option maxRecDepth 20000 in
theorem mw54 : (Jvm.Cond.laysFinal "JobTerminalModel" "JobTerminalModel" "pipe" "[I") ∈ GW := q_mem 770 rfl rfl
set_option maxRecDepth 20000 in
theorem mw55 : (Jvm.Cond.lays "JobTerminalModel" "JobTerminalModel" "front" "I") ∈ GW := q_mem 772 rfl rfl
set_option maxRecDepth 20000 in
theorem mw56 : (Jvm.Cond.lays "JobTerminalModel" "JobTerminalModel" "flag" "I") ∈ GW := q_mem 774 rfl rfl
set_option maxRecDepth 20000 in
theorem mw57 : (Jvm.Cond.lays "JobTerminalModel" "JobTerminalModel" "hung" "Z") ∈ GW := q_mem 776 rfl rfl
set_option maxRecDepth 20000 in
theorem mw58 : (Jvm.Cond.lays "JobTerminalModel" "JobTerminalModel" "edited" "I") ∈ GW := q_mem 778 rfl rfl
set_option maxRecDepth 20000 in
theorem mw59 : (Jvm.Cond.laysFinal "JobTerminalModel" "JobTerminalModel" "edit" "[I") ∈ GW := q_mem 780 rfl rfl
set_option maxRecDepth 20000 in
theorem mw60 : (Jvm.Cond.lays "JobTerminalModel" "JobTerminalModel" "queued" "I") ∈ GW := q_mem 782 rfl rfl
set_option maxRecDepth 20000 in
theorem mw61 : (Jvm.Cond.laysFinal "JobTerminalModel" "JobTerminalModel" "queue" "[I") ∈ GW := q_mem 784 rfl rfl
set_option maxRecDepth 20000 in
theorem mw62 : (Jvm.Cond.lays "JobTerminalModel" "JobTerminalModel" "shows" "I") ∈ GW := q_mem 786 rfl rfl
set_option maxRecDepth 20000 in
theorem mw63 : (Jvm.Cond.laysFinal "JobTerminalModel" "JobTerminalModel" "screen" "[I") ∈ GW := q_mem 788 rfl rfl
set_option maxRecDepth 20000 in
theorem mw64 : (Jvm.Cond.lays "JobTerminalModel" "JobTerminalModel" "failed" "Z") ∈ GW := q_mem 790 rfl rfl
set_option maxRecDepth 20000 in
theorem mw65 : (Jvm.Cond.lays "JobTerminalModel" "JobTerminalModel" "code" "I") ∈ GW := q_mem 792 rfl rfl
theorem mw66 : (Jvm.Cond.code ({ cls := "JobTerminal$Programs", name := "hasProgram", desc := "(I)Z" } : Jvm.MethodName) prog_6_method_2_code (1 : Nat) (Option.some Jvm.ClassFile.FieldType.boolean)) ∈ GW := q_mem 261 rfl rfl
theorem mw67 : (Jvm.Cond.methodLink "JobTerminal$Programs" (18 : Nat) ({ cls := "JobTerminal$Programs", name := "hasProgram", desc := "(I)Z" } : Jvm.MethodName)) ∈ GW := q_mem 269 rfl rfl
theorem mw68 : (Jvm.Cond.static ({ cls := "JobTerminal$Programs", name := "hasProgram", desc := "(I)Z" } : Jvm.MethodName)) ∈ GW := q_mem 260 rfl rfl
theorem mw69 : (Jvm.Cond.initialized "JobTerminal$Programs") ∈ GW := q_mem 57 rfl rfl
theorem mw70 : (Jvm.Cond.code ({ cls := "JobTerminal$Programs", name := "hasLine", desc := "(I)Z" } : Jvm.MethodName) prog_6_method_3_code (1 : Nat) (Option.some Jvm.ClassFile.FieldType.boolean)) ∈ GW := q_mem 264 rfl rfl
theorem mw71 : (Jvm.Cond.methodLink "JobTerminal$Programs" (22 : Nat) ({ cls := "JobTerminal$Programs", name := "hasLine", desc := "(I)Z" } : Jvm.MethodName)) ∈ GW := q_mem 270 rfl rfl
theorem mw72 : (Jvm.Cond.static ({ cls := "JobTerminal$Programs", name := "hasLine", desc := "(I)Z" } : Jvm.MethodName)) ∈ GW := q_mem 263 rfl rfl
theorem mw73 : (Jvm.Cond.methodLink "JobTerminal" (47 : Nat) ({ cls := "JobTerminal$Programs", name := "hasProgram", desc := "(I)Z" } : Jvm.MethodName)) ∈ GW := q_mem 259 rfl rfl
theorem mw74 : (Jvm.Cond.methodLink "JobTerminal" (51 : Nat) ({ cls := "JobTerminal$Programs", name := "hasLine", desc := "(I)Z" } : Jvm.MethodName)) ∈ GW := q_mem 262 rfl rfl
theorem mw75 : (Jvm.Cond.code ({ cls := "JobTerminal$Programs", name := "setLine", desc := "(IIII)V" } : Jvm.MethodName) prog_6_method_4_code (5 : Nat) (Option.none : Option Jvm.ClassFile.FieldType)) ∈ GW := q_mem 268 rfl rfl
theorem mw76 : (Jvm.Cond.methodLink "JobTerminal" (54 : Nat) ({ cls := "JobTerminal$Programs", name := "setLine", desc := "(IIII)V" } : Jvm.MethodName)) ∈ GW := q_mem 265 rfl rfl
theorem mw77 : (Jvm.Cond.instanceMethod ({ cls := "JobTerminal$Programs", name := "setLine", desc := "(IIII)V" } : Jvm.MethodName)) ∈ GW := q_mem 266 rfl rfl
theorem mw78 : (Jvm.Cond.selects "JobTerminal$Programs" ({ cls := "JobTerminal$Programs", name := "setLine", desc := "(IIII)V" } : Jvm.MethodName) ({ cls := "JobTerminal$Programs", name := "setLine", desc := "(IIII)V" } : Jvm.MethodName)) ∈ GW := q_mem 267 rfl rfl
theorem mw79 : (Jvm.Cond.code ({ cls := "JobTerminal$Terminal", name := "has", desc := "(I)Z" } : Jvm.MethodName) prog_7_method_2_code (2 : Nat) (Option.some Jvm.ClassFile.FieldType.boolean)) ∈ GW := q_mem 286 rfl rfl
theorem mw80 : (Jvm.Cond.methodLink "JobTerminal$Terminal" (41 : Nat) ({ cls := "JobTerminal$Terminal", name := "has", desc := "(I)Z" } : Jvm.MethodName)) ∈ GW := q_mem 283 rfl rfl
theorem mw81 : (Jvm.Cond.instanceMethod ({ cls := "JobTerminal$Terminal", name := "has", desc := "(I)Z" } : Jvm.MethodName)) ∈ GW := q_mem 284 rfl rfl
theorem mw82 : (Jvm.Cond.selects "JobTerminal$Terminal" ({ cls := "JobTerminal$Terminal", name := "has", desc := "(I)Z" } : Jvm.MethodName) ({ cls := "JobTerminal$Terminal", name := "has", desc := "(I)Z" } : Jvm.MethodName)) ∈ GW := q_mem 285 rfl rfl
theorem mw83 : (Jvm.Cond.initialized "JobTerminal$Terminal") ∈ GW := q_mem 58 rfl rfl
theorem mw84 : (Jvm.Cond.code ({ cls := "JobTerminal$NumberRow", name := "placeOf", desc := "(I)I" } : Jvm.MethodName) prog_5_method_9_code (3 : Nat) (Option.some Jvm.ClassFile.FieldType.int)) ∈ GW := q_mem 310 rfl rfl
theorem mw85 : (Jvm.Cond.methodLink "JobTerminal$NumberRow" (25 : Nat) ({ cls := "JobTerminal$NumberRow", name := "placeOf", desc := "(I)I" } : Jvm.MethodName)) ∈ GW := q_mem 307 rfl rfl
theorem mw86 : (Jvm.Cond.instanceMethod ({ cls := "JobTerminal$NumberRow", name := "placeOf", desc := "(I)I" } : Jvm.MethodName)) ∈ GW := q_mem 309 rfl rfl
theorem mw87 : (Jvm.Cond.selects "JobTerminal$NumberRow" ({ cls := "JobTerminal$NumberRow", name := "placeOf", desc := "(I)I" } : Jvm.MethodName) ({ cls := "JobTerminal$NumberRow", name := "placeOf", desc := "(I)I" } : Jvm.MethodName)) ∈ GW := q_mem 1 rfl rfl
theorem mw88 : (Jvm.Cond.initialized "JobTerminal$NumberRow") ∈ GW := q_mem 59 rfl rfl
theorem mw89 : (Jvm.Cond.code ({ cls := "JobTerminal$NumberRow", name := "isPlace", desc := "(I)Z" } : Jvm.MethodName) prog_5_method_8_code (2 : Nat) (Option.some Jvm.ClassFile.FieldType.boolean)) ∈ GW := q_mem 314 rfl rfl
theorem mw90 : (Jvm.Cond.methodLink "JobTerminal$NumberRow" (29 : Nat) ({ cls := "JobTerminal$NumberRow", name := "isPlace", desc := "(I)Z" } : Jvm.MethodName)) ∈ GW := q_mem 311 rfl rfl
theorem mw91 : (Jvm.Cond.instanceMethod ({ cls := "JobTerminal$NumberRow", name := "isPlace", desc := "(I)Z" } : Jvm.MethodName)) ∈ GW := q_mem 313 rfl rfl
theorem mw92 : (Jvm.Cond.selects "JobTerminal$NumberRow" ({ cls := "JobTerminal$NumberRow", name := "isPlace", desc := "(I)Z" } : Jvm.MethodName) ({ cls := "JobTerminal$NumberRow", name := "isPlace", desc := "(I)Z" } : Jvm.MethodName)) ∈ GW := q_mem 2 rfl rfl
theorem mw93 : (Jvm.Cond.code ({ cls := "JobTerminal$Display", name := "add", desc := "(I)V" } : Jvm.MethodName) prog_2_method_2_code (2 : Nat) (Option.none : Option Jvm.ClassFile.FieldType)) ∈ GW := q_mem 326 rfl rfl
theorem mw94 : (Jvm.Cond.methodLink "JobTerminal$Terminal" (89 : Nat) ({ cls := "JobTerminal$Display", name := "add", desc := "(I)V" } : Jvm.MethodName)) ∈ GW := q_mem 323 rfl rfl
theorem mw95 : (Jvm.Cond.instanceMethod ({ cls := "JobTerminal$Display", name := "add", desc := "(I)V" } : Jvm.MethodName)) ∈ GW := q_mem 324 rfl rfl
theorem mw96 : (Jvm.Cond.selects "JobTerminal$Display" ({ cls := "JobTerminal$Display", name := "add", desc := "(I)V" } : Jvm.MethodName) ({ cls := "JobTerminal$Display", name := "add", desc := "(I)V" } : Jvm.MethodName)) ∈ GW := q_mem 325 rfl rfl
theorem mw97 : (Jvm.Cond.initialized "JobTerminal$Display") ∈ GW := q_mem 61 rfl rfl
theorem mw98 : (Jvm.Cond.code ({ cls := "JobTerminal$Terminal", name := "show", desc := "(I)V" } : Jvm.MethodName) prog_7_method_16_code (2 : Nat) (Option.none : Option Jvm.ClassFile.FieldType)) ∈ GW := q_mem 322 rfl rfl
theorem mw99 : (Jvm.Cond.methodLink "JobTerminal$Terminal" (86 : Nat) ({ cls := "JobTerminal$Terminal", name := "show", desc := "(I)V" } : Jvm.MethodName)) ∈ GW := q_mem 319 rfl rfl
theorem mw100 : (Jvm.Cond.instanceMethod ({ cls := "JobTerminal$Terminal", name := "show", desc := "(I)V" } : Jvm.MethodName)) ∈ GW := q_mem 320 rfl rfl
theorem mw101 : (Jvm.Cond.selects "JobTerminal$Terminal" ({ cls := "JobTerminal$Terminal", name := "show", desc := "(I)V" } : Jvm.MethodName) ({ cls := "JobTerminal$Terminal", name := "show", desc := "(I)V" } : Jvm.MethodName)) ∈ GW := q_mem 321 rfl rfl
theorem mw102 : (Jvm.Cond.code ({ cls := "JobTerminal$NumberRow", name := "hasRoomFor", desc := "(I)Z" } : Jvm.MethodName) prog_5_method_2_code (2 : Nat) (Option.some Jvm.ClassFile.FieldType.boolean)) ∈ GW := q_mem 302 rfl rfl
theorem mw103 : (Jvm.Cond.methodLink "JobTerminal$Terminal" (64 : Nat) ({ cls := "JobTerminal$NumberRow", name := "hasRoomFor", desc := "(I)Z" } : Jvm.MethodName)) ∈ GW := q_mem 299 rfl rfl
theorem mw104 : (Jvm.Cond.instanceMethod ({ cls := "JobTerminal$NumberRow", name := "hasRoomFor", desc := "(I)Z" } : Jvm.MethodName)) ∈ GW := q_mem 300 rfl rfl
theorem mw105 : (Jvm.Cond.selects "JobTerminal$NumberRow" ({ cls := "JobTerminal$NumberRow", name := "hasRoomFor", desc := "(I)Z" } : Jvm.MethodName) ({ cls := "JobTerminal$NumberRow", name := "hasRoomFor", desc := "(I)Z" } : Jvm.MethodName)) ∈ GW := q_mem 301 rfl rfl
theorem mw106 : (Jvm.Cond.code ({ cls := "JobTerminal$NumberRow", name := "putLast", desc := "(I)V" } : Jvm.MethodName) prog_5_method_3_code (3 : Nat) (Option.none : Option Jvm.ClassFile.FieldType)) ∈ GW := q_mem 306 rfl rfl
theorem mw107 : (Jvm.Cond.methodLink "JobTerminal$Terminal" (67 : Nat) ({ cls := "JobTerminal$NumberRow", name := "putLast", desc := "(I)V" } : Jvm.MethodName)) ∈ GW := q_mem 303 rfl rfl
theorem mw108 : (Jvm.Cond.instanceMethod ({ cls := "JobTerminal$NumberRow", name := "putLast", desc := "(I)V" } : Jvm.MethodName)) ∈ GW := q_mem 304 rfl rfl
theorem mw109 : (Jvm.Cond.selects "JobTerminal$NumberRow" ({ cls := "JobTerminal$NumberRow", name := "putLast", desc := "(I)V" } : Jvm.MethodName) ({ cls := "JobTerminal$NumberRow", name := "putLast", desc := "(I)V" } : Jvm.MethodName)) ∈ GW := q_mem 305 rfl rfl
theorem mw110 : (Jvm.Cond.code ({ cls := "JobTerminal$Terminal", name := "echo", desc := "(I)V" } : Jvm.MethodName) prog_7_method_15_code (2 : Nat) (Option.none : Option Jvm.ClassFile.FieldType)) ∈ GW := q_mem 318 rfl rfl
theorem mw111 : (Jvm.Cond.methodLink "JobTerminal$Terminal" (45 : Nat) ({ cls := "JobTerminal$Terminal", name := "echo", desc := "(I)V" } : Jvm.MethodName)) ∈ GW := q_mem 315 rfl rfl
theorem mw112 : (Jvm.Cond.instanceMethod ({ cls := "JobTerminal$Terminal", name := "echo", desc := "(I)V" } : Jvm.MethodName)) ∈ GW := q_mem 317 rfl rfl
theorem mw113 : (Jvm.Cond.selects "JobTerminal$Terminal" ({ cls := "JobTerminal$Terminal", name := "echo", desc := "(I)V" } : Jvm.MethodName) ({ cls := "JobTerminal$Terminal", name := "echo", desc := "(I)V" } : Jvm.MethodName)) ∈ GW := q_mem 3 rfl rfl
theorem mw114 : (Jvm.Cond.code ({ cls := "JobTerminal$NumberRow", name := "numberAt", desc := "(I)I" } : Jvm.MethodName) prog_5_method_7_code (2 : Nat) (Option.some Jvm.ClassFile.FieldType.int)) ∈ GW := q_mem 338 rfl rfl
theorem mw115 : (Jvm.Cond.methodLink "JobTerminal$NumberRow" (36 : Nat) ({ cls := "JobTerminal$NumberRow", name := "numberAt", desc := "(I)I" } : Jvm.MethodName)) ∈ GW := q_mem 335 rfl rfl
theorem mw116 : (Jvm.Cond.instanceMethod ({ cls := "JobTerminal$NumberRow", name := "numberAt", desc := "(I)I" } : Jvm.MethodName)) ∈ GW := q_mem 337 rfl rfl
theorem mw117 : (Jvm.Cond.selects "JobTerminal$NumberRow" ({ cls := "JobTerminal$NumberRow", name := "numberAt", desc := "(I)I" } : Jvm.MethodName) ({ cls := "JobTerminal$NumberRow", name := "numberAt", desc := "(I)I" } : Jvm.MethodName)) ∈ GW := q_mem 5 rfl rfl
theorem mw118 : (Jvm.Cond.code ({ cls := "JobTerminal$NumberRow", name := "takeLatest", desc := "()I" } : Jvm.MethodName) prog_5_method_5_code (1 : Nat) (Option.some Jvm.ClassFile.FieldType.int)) ∈ GW := q_mem 334 rfl rfl
theorem mw119 : (Jvm.Cond.methodLink "JobTerminal$Terminal" (80 : Nat) ({ cls := "JobTerminal$NumberRow", name := "takeLatest", desc := "()I" } : Jvm.MethodName)) ∈ GW := q_mem 331 rfl rfl
theorem mw120 : (Jvm.Cond.instanceMethod ({ cls := "JobTerminal$NumberRow", name := "takeLatest", desc := "()I" } : Jvm.MethodName)) ∈ GW := q_mem 332 rfl rfl
theorem mw121 : (Jvm.Cond.selects "JobTerminal$NumberRow" ({ cls := "JobTerminal$NumberRow", name := "takeLatest", desc := "()I" } : Jvm.MethodName) ({ cls := "JobTerminal$NumberRow", name := "takeLatest", desc := "()I" } : Jvm.MethodName)) ∈ GW := q_mem 333 rfl rfl
theorem mw122 : (Jvm.Cond.code ({ cls := "JobTerminal$Terminal", name := "showRubbing", desc := "()V" } : Jvm.MethodName) prog_7_method_14_code (1 : Nat) (Option.none : Option Jvm.ClassFile.FieldType)) ∈ GW := q_mem 342 rfl rfl
theorem mw123 : (Jvm.Cond.methodLink "JobTerminal$Terminal" (83 : Nat) ({ cls := "JobTerminal$Terminal", name := "showRubbing", desc := "()V" } : Jvm.MethodName)) ∈ GW := q_mem 339 rfl rfl
theorem mw124 : (Jvm.Cond.instanceMethod ({ cls := "JobTerminal$Terminal", name := "showRubbing", desc := "()V" } : Jvm.MethodName)) ∈ GW := q_mem 341 rfl rfl
theorem mw125 : (Jvm.Cond.selects "JobTerminal$Terminal" ({ cls := "JobTerminal$Terminal", name := "showRubbing", desc := "()V" } : Jvm.MethodName) ({ cls := "JobTerminal$Terminal", name := "showRubbing", desc := "()V" } : Jvm.MethodName)) ∈ GW := q_mem 6 rfl rfl
theorem mw126 : (Jvm.Cond.code ({ cls := "JobTerminal$NumberRow", name := "takeOldest", desc := "()I" } : Jvm.MethodName) prog_5_method_4_code (2 : Nat) (Option.some Jvm.ClassFile.FieldType.int)) ∈ GW := q_mem 354 rfl rfl
theorem mw127 : (Jvm.Cond.methodLink "JobTerminal$Terminal" (76 : Nat) ({ cls := "JobTerminal$NumberRow", name := "takeOldest", desc := "()I" } : Jvm.MethodName)) ∈ GW := q_mem 351 rfl rfl
theorem mw128 : (Jvm.Cond.instanceMethod ({ cls := "JobTerminal$NumberRow", name := "takeOldest", desc := "()I" } : Jvm.MethodName)) ∈ GW := q_mem 352 rfl rfl
theorem mw129 : (Jvm.Cond.selects "JobTerminal$NumberRow" ({ cls := "JobTerminal$NumberRow", name := "takeOldest", desc := "()I" } : Jvm.MethodName) ({ cls := "JobTerminal$NumberRow", name := "takeOldest", desc := "()I" } : Jvm.MethodName)) ∈ GW := q_mem 353 rfl rfl
theorem mw130 : (Jvm.Cond.code ({ cls := "JobTerminal$Terminal", name := "queueEdit", desc := "(I)Z" } : Jvm.MethodName) prog_7_method_12_code (3 : Nat) (Option.some Jvm.ClassFile.FieldType.boolean)) ∈ GW := q_mem 350 rfl rfl
theorem mw131 : (Jvm.Cond.methodLink "JobTerminal$Terminal" (73 : Nat) ({ cls := "JobTerminal$Terminal", name := "queueEdit", desc := "(I)Z" } : Jvm.MethodName)) ∈ GW := q_mem 347 rfl rfl
theorem mw132 : (Jvm.Cond.instanceMethod ({ cls := "JobTerminal$Terminal", name := "queueEdit", desc := "(I)Z" } : Jvm.MethodName)) ∈ GW := q_mem 349 rfl rfl
theorem mw133 : (Jvm.Cond.selects "JobTerminal$Terminal" ({ cls := "JobTerminal$Terminal", name := "queueEdit", desc := "(I)Z" } : Jvm.MethodName) ({ cls := "JobTerminal$Terminal", name := "queueEdit", desc := "(I)Z" } : Jvm.MethodName)) ∈ GW := q_mem 8 rfl rfl
theorem mw134 : (Jvm.Cond.code ({ cls := "JobTerminal$Terminal", name := "endInput", desc := "()Z" } : Jvm.MethodName) prog_7_method_10_code (1 : Nat) (Option.some Jvm.ClassFile.FieldType.boolean)) ∈ GW := q_mem 346 rfl rfl
theorem mw135 : (Jvm.Cond.methodLink "JobTerminal$Terminal" (54 : Nat) ({ cls := "JobTerminal$Terminal", name := "endInput", desc := "()Z" } : Jvm.MethodName)) ∈ GW := q_mem 343 rfl rfl
theorem mw136 : (Jvm.Cond.instanceMethod ({ cls := "JobTerminal$Terminal", name := "endInput", desc := "()Z" } : Jvm.MethodName)) ∈ GW := q_mem 345 rfl rfl
theorem mw137 : (Jvm.Cond.selects "JobTerminal$Terminal" ({ cls := "JobTerminal$Terminal", name := "endInput", desc := "()Z" } : Jvm.MethodName) ({ cls := "JobTerminal$Terminal", name := "endInput", desc := "()Z" } : Jvm.MethodName)) ∈ GW := q_mem 7 rfl rfl
theorem mw138 : (Jvm.Cond.code ({ cls := "JobTerminal$Terminal", name := "endLine", desc := "()Z" } : Jvm.MethodName) prog_7_method_11_code (1 : Nat) (Option.some Jvm.ClassFile.FieldType.boolean)) ∈ GW := q_mem 358 rfl rfl
theorem mw139 : (Jvm.Cond.methodLink "JobTerminal$Terminal" (58 : Nat) ({ cls := "JobTerminal$Terminal", name := "endLine", desc := "()Z" } : Jvm.MethodName)) ∈ GW := q_mem 355 rfl rfl
theorem mw140 : (Jvm.Cond.instanceMethod ({ cls := "JobTerminal$Terminal", name := "endLine", desc := "()Z" } : Jvm.MethodName)) ∈ GW := q_mem 357 rfl rfl
theorem mw141 : (Jvm.Cond.selects "JobTerminal$Terminal" ({ cls := "JobTerminal$Terminal", name := "endLine", desc := "()Z" } : Jvm.MethodName) ({ cls := "JobTerminal$Terminal", name := "endLine", desc := "()Z" } : Jvm.MethodName)) ∈ GW := q_mem 9 rfl rfl
theorem mw142 : (Jvm.Cond.code ({ cls := "JobTerminal$Terminal", name := "rubOut", desc := "(I)V" } : Jvm.MethodName) prog_7_method_13_code (4 : Nat) (Option.none : Option Jvm.ClassFile.FieldType)) ∈ GW := q_mem 330 rfl rfl
theorem mw143 : (Jvm.Cond.methodLink "JobTerminal$Terminal" (51 : Nat) ({ cls := "JobTerminal$Terminal", name := "rubOut", desc := "(I)V" } : Jvm.MethodName)) ∈ GW := q_mem 327 rfl rfl
theorem mw144 : (Jvm.Cond.instanceMethod ({ cls := "JobTerminal$Terminal", name := "rubOut", desc := "(I)V" } : Jvm.MethodName)) ∈ GW := q_mem 329 rfl rfl
theorem mw145 : (Jvm.Cond.selects "JobTerminal$Terminal" ({ cls := "JobTerminal$Terminal", name := "rubOut", desc := "(I)V" } : Jvm.MethodName) ({ cls := "JobTerminal$Terminal", name := "rubOut", desc := "(I)V" } : Jvm.MethodName)) ∈ GW := q_mem 4 rfl rfl
theorem mw146 : (Jvm.Cond.code ({ cls := "JobTerminal$Terminal", name := "addToEdit", desc := "(I)Z" } : Jvm.MethodName) prog_7_method_9_code (2 : Nat) (Option.some Jvm.ClassFile.FieldType.boolean)) ∈ GW := q_mem 362 rfl rfl
theorem mw147 : (Jvm.Cond.methodLink "JobTerminal$Terminal" (61 : Nat) ({ cls := "JobTerminal$Terminal", name := "addToEdit", desc := "(I)Z" } : Jvm.MethodName)) ∈ GW := q_mem 359 rfl rfl
theorem mw148 : (Jvm.Cond.instanceMethod ({ cls := "JobTerminal$Terminal", name := "addToEdit", desc := "(I)Z" } : Jvm.MethodName)) ∈ GW := q_mem 361 rfl rfl
theorem mw149 : (Jvm.Cond.selects "JobTerminal$Terminal" ({ cls := "JobTerminal$Terminal", name := "addToEdit", desc := "(I)Z" } : Jvm.MethodName) ({ cls := "JobTerminal$Terminal", name := "addToEdit", desc := "(I)Z" } : Jvm.MethodName)) ∈ GW := q_mem 10 rfl rfl
theorem mw150 : (Jvm.Cond.code ({ cls := "JobTerminal$Terminal", name := "typeUnedited", desc := "(I)Z" } : Jvm.MethodName) prog_7_method_8_code (2 : Nat) (Option.some Jvm.ClassFile.FieldType.boolean)) ∈ GW := q_mem 298 rfl rfl
theorem mw151 : (Jvm.Cond.methodLink "JobTerminal$Terminal" (48 : Nat) ({ cls := "JobTerminal$Terminal", name := "typeUnedited", desc := "(I)Z" } : Jvm.MethodName)) ∈ GW := q_mem 295 rfl rfl
theorem mw152 : (Jvm.Cond.instanceMethod ({ cls := "JobTerminal$Terminal", name := "typeUnedited", desc := "(I)Z" } : Jvm.MethodName)) ∈ GW := q_mem 297 rfl rfl
theorem mw153 : (Jvm.Cond.selects "JobTerminal$Terminal" ({ cls := "JobTerminal$Terminal", name := "typeUnedited", desc := "(I)Z" } : Jvm.MethodName) ({ cls := "JobTerminal$Terminal", name := "typeUnedited", desc := "(I)Z" } : Jvm.MethodName)) ∈ GW := q_mem 0 rfl rfl
theorem mw154 : (Jvm.Cond.code ({ cls := "JobTerminal$JobProcess", name := "act", desc := "(I)V" } : Jvm.MethodName) prog_4_method_8_code (2 : Nat) (Option.none : Option Jvm.ClassFile.FieldType)) ∈ GW := q_mem 378 rfl rfl
theorem mw155 : (Jvm.Cond.methodLink "JobTerminal$JobProcess" (51 : Nat) ({ cls := "JobTerminal$JobProcess", name := "act", desc := "(I)V" } : Jvm.MethodName)) ∈ GW := q_mem 375 rfl rfl
theorem mw156 : (Jvm.Cond.instanceMethod ({ cls := "JobTerminal$JobProcess", name := "act", desc := "(I)V" } : Jvm.MethodName)) ∈ GW := q_mem 377 rfl rfl
theorem mw157 : (Jvm.Cond.selects "JobTerminal$JobProcess" ({ cls := "JobTerminal$JobProcess", name := "act", desc := "(I)V" } : Jvm.MethodName) ({ cls := "JobTerminal$JobProcess", name := "act", desc := "(I)V" } : Jvm.MethodName)) ∈ GW := q_mem 12 rfl rfl
theorem mw158 : (Jvm.Cond.initialized "JobTerminal$JobProcess") ∈ GW := q_mem 62 rfl rfl
theorem mw159 : (Jvm.Cond.code ({ cls := "JobTerminal$JobProcess", name := "actOnPending", desc := "()V" } : Jvm.MethodName) prog_4_method_7_code (2 : Nat) (Option.none : Option Jvm.ClassFile.FieldType)) ∈ GW := q_mem 374 rfl rfl
theorem mw160 : (Jvm.Cond.methodLink "JobTerminal$JobProcess" (48 : Nat) ({ cls := "JobTerminal$JobProcess", name := "actOnPending", desc := "()V" } : Jvm.MethodName)) ∈ GW := q_mem 371 rfl rfl
theorem mw161 : (Jvm.Cond.instanceMethod ({ cls := "JobTerminal$JobProcess", name := "actOnPending", desc := "()V" } : Jvm.MethodName)) ∈ GW := q_mem 373 rfl rfl
theorem mw162 : (Jvm.Cond.selects "JobTerminal$JobProcess" ({ cls := "JobTerminal$JobProcess", name := "actOnPending", desc := "()V" } : Jvm.MethodName) ({ cls := "JobTerminal$JobProcess", name := "actOnPending", desc := "()V" } : Jvm.MethodName)) ∈ GW := q_mem 11 rfl rfl
theorem mw163 : (Jvm.Cond.code ({ cls := "JobTerminal$JobProcess", name := "receive", desc := "(I)V" } : Jvm.MethodName) prog_4_method_6_code (3 : Nat) (Option.none : Option Jvm.ClassFile.FieldType)) ∈ GW := q_mem 370 rfl rfl
theorem mw164 : (Jvm.Cond.methodLink "JobTerminal$Job" (55 : Nat) ({ cls := "JobTerminal$JobProcess", name := "receive", desc := "(I)V" } : Jvm.MethodName)) ∈ GW := q_mem 367 rfl rfl
theorem mw165 : (Jvm.Cond.instanceMethod ({ cls := "JobTerminal$JobProcess", name := "receive", desc := "(I)V" } : Jvm.MethodName)) ∈ GW := q_mem 368 rfl rfl
theorem mw166 : (Jvm.Cond.selects "JobTerminal$JobProcess" ({ cls := "JobTerminal$JobProcess", name := "receive", desc := "(I)V" } : Jvm.MethodName) ({ cls := "JobTerminal$JobProcess", name := "receive", desc := "(I)V" } : Jvm.MethodName)) ∈ GW := q_mem 369 rfl rfl
theorem mw167 : (Jvm.Cond.code ({ cls := "JobTerminal$NumberRow", name := "clear", desc := "()V" } : Jvm.MethodName) prog_5_method_6_code (1 : Nat) (Option.none : Option Jvm.ClassFile.FieldType)) ∈ GW := q_mem 386 rfl rfl
theorem mw168 : (Jvm.Cond.methodLink "JobTerminal$Terminal" (38 : Nat) ({ cls := "JobTerminal$NumberRow", name := "clear", desc := "()V" } : Jvm.MethodName)) ∈ GW := q_mem 383 rfl rfl
theorem mw169 : (Jvm.Cond.instanceMethod ({ cls := "JobTerminal$NumberRow", name := "clear", desc := "()V" } : Jvm.MethodName)) ∈ GW := q_mem 384 rfl rfl
theorem mw170 : (Jvm.Cond.selects "JobTerminal$NumberRow" ({ cls := "JobTerminal$NumberRow", name := "clear", desc := "()V" } : Jvm.MethodName) ({ cls := "JobTerminal$NumberRow", name := "clear", desc := "()V" } : Jvm.MethodName)) ∈ GW := q_mem 385 rfl rfl
theorem mw171 : (Jvm.Cond.methodLink "JobTerminal$Job" (49 : Nat) ({ cls := "java/lang/Math", name := "min", desc := "(II)I" } : Jvm.MethodName)) ∈ GW := q_mem 399 rfl rfl
theorem mw172 : (Jvm.Cond.static ({ cls := "java/lang/Math", name := "min", desc := "(II)I" } : Jvm.MethodName)) ∈ GW := q_mem 400 rfl rfl
theorem mw173 : (Jvm.Cond.initialized "java/lang/Math") ∈ GW := q_mem 60 rfl rfl
set_option maxRecDepth 20000 in
theorem mw174 : (Jvm.Cond.code ({ cls := "java/lang/Math", name := "min", desc := "(II)I" } : Jvm.MethodName) prog_13_method_69_code (2 : Nat) (Option.some Jvm.ClassFile.FieldType.int)) ∈ GW := q_mem 401 rfl rfl
theorem mw175 : (Jvm.Cond.code ({ cls := "JobTerminal$Job", name := "state", desc := "()I" } : Jvm.MethodName) prog_3_method_5_code (1 : Nat) (Option.some Jvm.ClassFile.FieldType.int)) ∈ GW := q_mem 398 rfl rfl
theorem mw176 : (Jvm.Cond.methodLink "JobTerminal" (120 : Nat) ({ cls := "JobTerminal$Job", name := "state", desc := "()I" } : Jvm.MethodName)) ∈ GW := q_mem 395 rfl rfl
theorem mw177 : (Jvm.Cond.instanceMethod ({ cls := "JobTerminal$Job", name := "state", desc := "()I" } : Jvm.MethodName)) ∈ GW := q_mem 396 rfl rfl
theorem mw178 : (Jvm.Cond.selects "JobTerminal$Job" ({ cls := "JobTerminal$Job", name := "state", desc := "()I" } : Jvm.MethodName) ({ cls := "JobTerminal$Job", name := "state", desc := "()I" } : Jvm.MethodName)) ∈ GW := q_mem 397 rfl rfl
theorem mw179 : (Jvm.Cond.initialized "JobTerminal$Job") ∈ GW := q_mem 63 rfl rfl
theorem mw180 : (Jvm.Cond.code ({ cls := "JobTerminal", name := "settle", desc := "(LJobTerminal$Job;)V" } : Jvm.MethodName) prog_1_method_24_code (2 : Nat) (Option.none : Option Jvm.ClassFile.FieldType)) ∈ GW := q_mem 394 rfl rfl
theorem mw181 : (Jvm.Cond.methodLink "JobTerminal" (155 : Nat) ({ cls := "JobTerminal", name := "settle", desc := "(LJobTerminal$Job;)V" } : Jvm.MethodName)) ∈ GW := q_mem 391 rfl rfl
theorem mw182 : (Jvm.Cond.instanceMethod ({ cls := "JobTerminal", name := "settle", desc := "(LJobTerminal$Job;)V" } : Jvm.MethodName)) ∈ GW := q_mem 393 rfl rfl
theorem mw183 : (Jvm.Cond.selects "JobTerminal" ({ cls := "JobTerminal", name := "settle", desc := "(LJobTerminal$Job;)V" } : Jvm.MethodName) ({ cls := "JobTerminal", name := "settle", desc := "(LJobTerminal$Job;)V" } : Jvm.MethodName)) ∈ GW := q_mem 14 rfl rfl
theorem mw184 : (Jvm.Cond.initialized "JobTerminal") ∈ GW := q_mem 56 rfl rfl
theorem mw185 : (Jvm.Cond.code ({ cls := "JobTerminal$Terminal", name := "translate", desc := "(I)I" } : Jvm.MethodName) prog_7_method_4_code (2 : Nat) (Option.some Jvm.ClassFile.FieldType.int)) ∈ GW := q_mem 282 rfl rfl
theorem mw186 : (Jvm.Cond.methodLink "JobTerminal" (61 : Nat) ({ cls := "JobTerminal$Terminal", name := "translate", desc := "(I)I" } : Jvm.MethodName)) ∈ GW := q_mem 279 rfl rfl
theorem mw187 : (Jvm.Cond.instanceMethod ({ cls := "JobTerminal$Terminal", name := "translate", desc := "(I)I" } : Jvm.MethodName)) ∈ GW := q_mem 280 rfl rfl
theorem mw188 : (Jvm.Cond.selects "JobTerminal$Terminal" ({ cls := "JobTerminal$Terminal", name := "translate", desc := "(I)I" } : Jvm.MethodName) ({ cls := "JobTerminal$Terminal", name := "translate", desc := "(I)I" } : Jvm.MethodName)) ∈ GW := q_mem 281 rfl rfl
theorem mw189 : (Jvm.Cond.code ({ cls := "JobTerminal$Terminal", name := "signalFor", desc := "(I)I" } : Jvm.MethodName) prog_7_method_5_code (2 : Nat) (Option.some Jvm.ClassFile.FieldType.int)) ∈ GW := q_mem 290 rfl rfl
theorem mw190 : (Jvm.Cond.methodLink "JobTerminal" (65 : Nat) ({ cls := "JobTerminal$Terminal", name := "signalFor", desc := "(I)I" } : Jvm.MethodName)) ∈ GW := q_mem 287 rfl rfl
theorem mw191 : (Jvm.Cond.instanceMethod ({ cls := "JobTerminal$Terminal", name := "signalFor", desc := "(I)I" } : Jvm.MethodName)) ∈ GW := q_mem 288 rfl rfl
theorem mw192 : (Jvm.Cond.selects "JobTerminal$Terminal" ({ cls := "JobTerminal$Terminal", name := "signalFor", desc := "(I)I" } : Jvm.MethodName) ({ cls := "JobTerminal$Terminal", name := "signalFor", desc := "(I)I" } : Jvm.MethodName)) ∈ GW := q_mem 289 rfl rfl
theorem mw193 : (Jvm.Cond.code ({ cls := "JobTerminal$Job", name := "receive", desc := "(I)V" } : Jvm.MethodName) prog_3_method_10_code (2 : Nat) (Option.none : Option Jvm.ClassFile.FieldType)) ∈ GW := q_mem 366 rfl rfl
theorem mw194 : (Jvm.Cond.methodLink "JobTerminal" (71 : Nat) ({ cls := "JobTerminal$Job", name := "receive", desc := "(I)V" } : Jvm.MethodName)) ∈ GW := q_mem 363 rfl rfl
theorem mw195 : (Jvm.Cond.instanceMethod ({ cls := "JobTerminal$Job", name := "receive", desc := "(I)V" } : Jvm.MethodName)) ∈ GW := q_mem 364 rfl rfl
theorem mw196 : (Jvm.Cond.selects "JobTerminal$Job" ({ cls := "JobTerminal$Job", name := "receive", desc := "(I)V" } : Jvm.MethodName) ({ cls := "JobTerminal$Job", name := "receive", desc := "(I)V" } : Jvm.MethodName)) ∈ GW := q_mem 365 rfl rfl
theorem mw197 : (Jvm.Cond.code ({ cls := "JobTerminal$Terminal", name := "type", desc := "(I)Z" } : Jvm.MethodName) prog_7_method_7_code (2 : Nat) (Option.some Jvm.ClassFile.FieldType.boolean)) ∈ GW := q_mem 294 rfl rfl
theorem mw198 : (Jvm.Cond.methodLink "JobTerminal" (68 : Nat) ({ cls := "JobTerminal$Terminal", name := "type", desc := "(I)Z" } : Jvm.MethodName)) ∈ GW := q_mem 291 rfl rfl
theorem mw199 : (Jvm.Cond.instanceMethod ({ cls := "JobTerminal$Terminal", name := "type", desc := "(I)Z" } : Jvm.MethodName)) ∈ GW := q_mem 292 rfl rfl
theorem mw200 : (Jvm.Cond.selects "JobTerminal$Terminal" ({ cls := "JobTerminal$Terminal", name := "type", desc := "(I)Z" } : Jvm.MethodName) ({ cls := "JobTerminal$Terminal", name := "type", desc := "(I)Z" } : Jvm.MethodName)) ∈ GW := q_mem 293 rfl rfl
theorem mw201 : (Jvm.Cond.code ({ cls := "JobTerminal$Terminal", name := "dropEdit", desc := "(I)V" } : Jvm.MethodName) prog_7_method_6_code (2 : Nat) (Option.none : Option Jvm.ClassFile.FieldType)) ∈ GW := q_mem 382 rfl rfl
theorem mw202 : (Jvm.Cond.methodLink "JobTerminal" (74 : Nat) ({ cls := "JobTerminal$Terminal", name := "dropEdit", desc := "(I)V" } : Jvm.MethodName)) ∈ GW := q_mem 379 rfl rfl
theorem mw203 : (Jvm.Cond.instanceMethod ({ cls := "JobTerminal$Terminal", name := "dropEdit", desc := "(I)V" } : Jvm.MethodName)) ∈ GW := q_mem 380 rfl rfl
theorem mw204 : (Jvm.Cond.selects "JobTerminal$Terminal" ({ cls := "JobTerminal$Terminal", name := "dropEdit", desc := "(I)V" } : Jvm.MethodName) ({ cls := "JobTerminal$Terminal", name := "dropEdit", desc := "(I)V" } : Jvm.MethodName)) ∈ GW := q_mem 381 rfl rfl
theorem mw205 : (Jvm.Cond.code ({ cls := "JobTerminal", name := "settleAll", desc := "()V" } : Jvm.MethodName) prog_1_method_23_code (2 : Nat) (Option.none : Option Jvm.ClassFile.FieldType)) ∈ GW := q_mem 390 rfl rfl
theorem mw206 : (Jvm.Cond.methodLink "JobTerminal" (77 : Nat) ({ cls := "JobTerminal", name := "settleAll", desc := "()V" } : Jvm.MethodName)) ∈ GW := q_mem 387 rfl rfl
theorem mw207 : (Jvm.Cond.instanceMethod ({ cls := "JobTerminal", name := "settleAll", desc := "()V" } : Jvm.MethodName)) ∈ GW := q_mem 389 rfl rfl
theorem mw208 : (Jvm.Cond.selects "JobTerminal" ({ cls := "JobTerminal", name := "settleAll", desc := "()V" } : Jvm.MethodName) ({ cls := "JobTerminal", name := "settleAll", desc := "()V" } : Jvm.MethodName)) ∈ GW := q_mem 13 rfl rfl
set_option maxRecDepth 20000 in
theorem mw209 : (Jvm.Cond.code ({ cls := "JobTerminal$Job", name := "exists", desc := "()Z" } : Jvm.MethodName) prog_3_method_2_code (1 : Nat) (Option.some Jvm.ClassFile.FieldType.boolean)) ∈ GW := q_mem 409 rfl rfl
set_option maxRecDepth 20000 in
theorem mw210 : (Jvm.Cond.methodLink "JobTerminal" (132 : Nat) ({ cls := "JobTerminal$Job", name := "exists", desc := "()Z" } : Jvm.MethodName)) ∈ GW := q_mem 406 rfl rfl
set_option maxRecDepth 20000 in
theorem mw211 : (Jvm.Cond.instanceMethod ({ cls := "JobTerminal$Job", name := "exists", desc := "()Z" } : Jvm.MethodName)) ∈ GW := q_mem 407 rfl rfl
set_option maxRecDepth 20000 in
theorem mw212 : (Jvm.Cond.selects "JobTerminal$Job" ({ cls := "JobTerminal$Job", name := "exists", desc := "()Z" } : Jvm.MethodName) ({ cls := "JobTerminal$Job", name := "exists", desc := "()Z" } : Jvm.MethodName)) ∈ GW := q_mem 408 rfl rfl
set_option maxRecDepth 20000 in
theorem mw213 : (Jvm.Cond.methodLink "JobTerminal$Job" (34 : Nat) ({ cls := "JobTerminal$NumberRow", name := "clear", desc := "()V" } : Jvm.MethodName)) ∈ GW := q_mem 666 rfl rfl
set_option maxRecDepth 20000 in
theorem mw214 : (Jvm.Cond.code ({ cls := "JobTerminal", name := "findJob", desc := "(I)LJobTerminal$Job;" } : Jvm.MethodName) prog_1_method_19_code (3 : Nat) (Option.some (Jvm.ClassFile.FieldType.object "JobTerminal$Job"))) ∈ GW := q_mem 531 rfl rfl
set_option maxRecDepth 20000 in
theorem mw215 : (Jvm.Cond.methodLink "JobTerminal" (114 : Nat) ({ cls := "JobTerminal", name := "findJob", desc := "(I)LJobTerminal$Job;" } : Jvm.MethodName)) ∈ GW := q_mem 528 rfl rfl
set_option maxRecDepth 20000 in
theorem mw216 : (Jvm.Cond.instanceMethod ({ cls := "JobTerminal", name := "findJob", desc := "(I)LJobTerminal$Job;" } : Jvm.MethodName)) ∈ GW := q_mem 530 rfl rfl
theorem mw217 : (Jvm.Cond.selects "JobTerminal" ({ cls := "JobTerminal", name := "findJob", desc := "(I)LJobTerminal$Job;" } : Jvm.MethodName) ({ cls := "JobTerminal", name := "findJob", desc := "(I)LJobTerminal$Job;" } : Jvm.MethodName)) ∈ GW := q_mem 23 rfl rfl
set_option maxRecDepth 20000 in
theorem mw218 : (Jvm.Cond.code ({ cls := "JobTerminal", name := "sendAndSettle", desc := "(LJobTerminal$Job;I)I" } : Jvm.MethodName) prog_1_method_22_code (3 : Nat) (Option.some Jvm.ClassFile.FieldType.int)) ∈ GW := q_mem 679 rfl rfl
set_option maxRecDepth 20000 in
theorem mw219 : (Jvm.Cond.methodLink "JobTerminal" (126 : Nat) ({ cls := "JobTerminal", name := "sendAndSettle", desc := "(LJobTerminal$Job;I)I" } : Jvm.MethodName)) ∈ GW := q_mem 676 rfl rfl
set_option maxRecDepth 20000 in
theorem mw220 : (Jvm.Cond.instanceMethod ({ cls := "JobTerminal", name := "sendAndSettle", desc := "(LJobTerminal$Job;I)I" } : Jvm.MethodName)) ∈ GW := q_mem 678 rfl rfl
theorem mw221 : (Jvm.Cond.selects "JobTerminal" ({ cls := "JobTerminal", name := "sendAndSettle", desc := "(LJobTerminal$Job;I)I" } : Jvm.MethodName) ({ cls := "JobTerminal", name := "sendAndSettle", desc := "(LJobTerminal$Job;I)I" } : Jvm.MethodName)) ∈ GW := q_mem 27 rfl rfl
set_option maxRecDepth 20000 in
theorem mw222 : (Jvm.Cond.code ({ cls := "JobTerminal$JobProcess", name := "vanish", desc := "()V" } : Jvm.MethodName) prog_4_method_3_code (1 : Nat) (Option.none : Option Jvm.ClassFile.FieldType)) ∈ GW := q_mem 421 rfl rfl
set_option maxRecDepth 20000 in
theorem mw223 : (Jvm.Cond.methodLink "JobTerminal$Job" (41 : Nat) ({ cls := "JobTerminal$JobProcess", name := "vanish", desc := "()V" } : Jvm.MethodName)) ∈ GW := q_mem 418 rfl rfl
set_option maxRecDepth 20000 in
theorem mw224 : (Jvm.Cond.instanceMethod ({ cls := "JobTerminal$JobProcess", name := "vanish", desc := "()V" } : Jvm.MethodName)) ∈ GW := q_mem 419 rfl rfl
set_option maxRecDepth 20000 in
theorem mw225 : (Jvm.Cond.selects "JobTerminal$JobProcess" ({ cls := "JobTerminal$JobProcess", name := "vanish", desc := "()V" } : Jvm.MethodName) ({ cls := "JobTerminal$JobProcess", name := "vanish", desc := "()V" } : Jvm.MethodName)) ∈ GW := q_mem 420 rfl rfl
set_option maxRecDepth 20000 in
theorem mw226 : (Jvm.Cond.code ({ cls := "JobTerminal$Job", name := "vanish", desc := "()V" } : Jvm.MethodName) prog_3_method_4_code (1 : Nat) (Option.none : Option Jvm.ClassFile.FieldType)) ∈ GW := q_mem 417 rfl rfl
set_option maxRecDepth 20000 in
theorem mw227 : (Jvm.Cond.methodLink "JobTerminal" (210 : Nat) ({ cls := "JobTerminal$Job", name := "vanish", desc := "()V" } : Jvm.MethodName)) ∈ GW := q_mem 414 rfl rfl
set_option maxRecDepth 20000 in
theorem mw228 : (Jvm.Cond.instanceMethod ({ cls := "JobTerminal$Job", name := "vanish", desc := "()V" } : Jvm.MethodName)) ∈ GW := q_mem 415 rfl rfl
set_option maxRecDepth 20000 in
theorem mw229 : (Jvm.Cond.selects "JobTerminal$Job" ({ cls := "JobTerminal$Job", name := "vanish", desc := "()V" } : Jvm.MethodName) ({ cls := "JobTerminal$Job", name := "vanish", desc := "()V" } : Jvm.MethodName)) ∈ GW := q_mem 416 rfl rfl
set_option maxRecDepth 20000 in
theorem mw230 : (Jvm.Cond.code ({ cls := "JobTerminal", name := "tell", desc := "(LJobTerminal$Job;)I" } : Jvm.MethodName) prog_1_method_25_code (3 : Nat) (Option.some Jvm.ClassFile.FieldType.int)) ∈ GW := q_mem 413 rfl rfl
set_option maxRecDepth 20000 in
theorem mw231 : (Jvm.Cond.methodLink "JobTerminal" (140 : Nat) ({ cls := "JobTerminal", name := "tell", desc := "(LJobTerminal$Job;)I" } : Jvm.MethodName)) ∈ GW := q_mem 410 rfl rfl
set_option maxRecDepth 20000 in
theorem mw232 : (Jvm.Cond.instanceMethod ({ cls := "JobTerminal", name := "tell", desc := "(LJobTerminal$Job;)I" } : Jvm.MethodName)) ∈ GW := q_mem 412 rfl rfl
theorem mw233 : (Jvm.Cond.selects "JobTerminal" ({ cls := "JobTerminal", name := "tell", desc := "(LJobTerminal$Job;)I" } : Jvm.MethodName) ({ cls := "JobTerminal", name := "tell", desc := "(LJobTerminal$Job;)I" } : Jvm.MethodName)) ∈ GW := q_mem 15 rfl rfl
set_option maxRecDepth 20000 in
theorem mw234 : (Jvm.Cond.code ({ cls := "JobTerminal$Job", name := "readsFromPipe", desc := "(LJobTerminal$JobProcess;)Z" } : Jvm.MethodName) prog_3_method_6_code (2 : Nat) (Option.some Jvm.ClassFile.FieldType.boolean)) ∈ GW := q_mem 445 rfl rfl
set_option maxRecDepth 20000 in
theorem mw235 : (Jvm.Cond.methodLink "JobTerminal" (235 : Nat) ({ cls := "JobTerminal$Job", name := "readsFromPipe", desc := "(LJobTerminal$JobProcess;)Z" } : Jvm.MethodName)) ∈ GW := q_mem 442 rfl rfl
set_option maxRecDepth 20000 in
theorem mw236 : (Jvm.Cond.instanceMethod ({ cls := "JobTerminal$Job", name := "readsFromPipe", desc := "(LJobTerminal$JobProcess;)Z" } : Jvm.MethodName)) ∈ GW := q_mem 443 rfl rfl
set_option maxRecDepth 20000 in
theorem mw237 : (Jvm.Cond.selects "JobTerminal$Job" ({ cls := "JobTerminal$Job", name := "readsFromPipe", desc := "(LJobTerminal$JobProcess;)Z" } : Jvm.MethodName) ({ cls := "JobTerminal$Job", name := "readsFromPipe", desc := "(LJobTerminal$JobProcess;)Z" } : Jvm.MethodName)) ∈ GW := q_mem 444 rfl rfl
set_option maxRecDepth 20000 in
theorem mw238 : (Jvm.Cond.code ({ cls := "JobTerminal$Job", name := "firstHasEnded", desc := "()Z" } : Jvm.MethodName) prog_3_method_8_code (1 : Nat) (Option.some Jvm.ClassFile.FieldType.boolean)) ∈ GW := q_mem 449 rfl rfl
set_option maxRecDepth 20000 in
theorem mw239 : (Jvm.Cond.methodLink "JobTerminal" (238 : Nat) ({ cls := "JobTerminal$Job", name := "firstHasEnded", desc := "()Z" } : Jvm.MethodName)) ∈ GW := q_mem 446 rfl rfl
set_option maxRecDepth 20000 in
theorem mw240 : (Jvm.Cond.instanceMethod ({ cls := "JobTerminal$Job", name := "firstHasEnded", desc := "()Z" } : Jvm.MethodName)) ∈ GW := q_mem 447 rfl rfl
set_option maxRecDepth 20000 in
theorem mw241 : (Jvm.Cond.selects "JobTerminal$Job" ({ cls := "JobTerminal$Job", name := "firstHasEnded", desc := "()Z" } : Jvm.MethodName) ({ cls := "JobTerminal$Job", name := "firstHasEnded", desc := "()Z" } : Jvm.MethodName)) ∈ GW := q_mem 448 rfl rfl
set_option maxRecDepth 20000 in
theorem mw242 : (Jvm.Cond.code ({ cls := "JobTerminal$Job", name := "writesToPipe", desc := "(LJobTerminal$JobProcess;)Z" } : Jvm.MethodName) prog_3_method_7_code (2 : Nat) (Option.some Jvm.ClassFile.FieldType.boolean)) ∈ GW := q_mem 457 rfl rfl
set_option maxRecDepth 20000 in
theorem mw243 : (Jvm.Cond.methodLink "JobTerminal" (241 : Nat) ({ cls := "JobTerminal$Job", name := "writesToPipe", desc := "(LJobTerminal$JobProcess;)Z" } : Jvm.MethodName)) ∈ GW := q_mem 454 rfl rfl
set_option maxRecDepth 20000 in
theorem mw244 : (Jvm.Cond.instanceMethod ({ cls := "JobTerminal$Job", name := "writesToPipe", desc := "(LJobTerminal$JobProcess;)Z" } : Jvm.MethodName)) ∈ GW := q_mem 455 rfl rfl
set_option maxRecDepth 20000 in
theorem mw245 : (Jvm.Cond.selects "JobTerminal$Job" ({ cls := "JobTerminal$Job", name := "writesToPipe", desc := "(LJobTerminal$JobProcess;)Z" } : Jvm.MethodName) ({ cls := "JobTerminal$Job", name := "writesToPipe", desc := "(LJobTerminal$JobProcess;)Z" } : Jvm.MethodName)) ∈ GW := q_mem 456 rfl rfl
set_option maxRecDepth 20000 in
theorem mw246 : (Jvm.Cond.code ({ cls := "JobTerminal$Job", name := "secondHasEnded", desc := "()Z" } : Jvm.MethodName) prog_3_method_9_code (1 : Nat) (Option.some Jvm.ClassFile.FieldType.boolean)) ∈ GW := q_mem 461 rfl rfl
set_option maxRecDepth 20000 in
theorem mw247 : (Jvm.Cond.methodLink "JobTerminal" (244 : Nat) ({ cls := "JobTerminal$Job", name := "secondHasEnded", desc := "()Z" } : Jvm.MethodName)) ∈ GW := q_mem 458 rfl rfl
set_option maxRecDepth 20000 in
theorem mw248 : (Jvm.Cond.instanceMethod ({ cls := "JobTerminal$Job", name := "secondHasEnded", desc := "()Z" } : Jvm.MethodName)) ∈ GW := q_mem 459 rfl rfl
set_option maxRecDepth 20000 in
theorem mw249 : (Jvm.Cond.selects "JobTerminal$Job" ({ cls := "JobTerminal$Job", name := "secondHasEnded", desc := "()Z" } : Jvm.MethodName) ({ cls := "JobTerminal$Job", name := "secondHasEnded", desc := "()Z" } : Jvm.MethodName)) ∈ GW := q_mem 460 rfl rfl
set_option maxRecDepth 20000 in
theorem mw250 : (Jvm.Cond.methodLink "JobTerminal" (247 : Nat) ({ cls := "JobTerminal$NumberRow", name := "hasRoomFor", desc := "(I)Z" } : Jvm.MethodName)) ∈ GW := q_mem 462 rfl rfl
set_option maxRecDepth 20000 in
theorem mw251 : (Jvm.Cond.code ({ cls := "JobTerminal$Programs", name := "opAt", desc := "(II)I" } : Jvm.MethodName) prog_6_method_5_code (4 : Nat) (Option.some Jvm.ClassFile.FieldType.int)) ∈ GW := q_mem 437 rfl rfl
set_option maxRecDepth 20000 in
theorem mw252 : (Jvm.Cond.methodLink "JobTerminal" (222 : Nat) ({ cls := "JobTerminal$Programs", name := "opAt", desc := "(II)I" } : Jvm.MethodName)) ∈ GW := q_mem 434 rfl rfl
set_option maxRecDepth 20000 in
theorem mw253 : (Jvm.Cond.instanceMethod ({ cls := "JobTerminal$Programs", name := "opAt", desc := "(II)I" } : Jvm.MethodName)) ∈ GW := q_mem 435 rfl rfl
set_option maxRecDepth 20000 in
theorem mw254 : (Jvm.Cond.selects "JobTerminal$Programs" ({ cls := "JobTerminal$Programs", name := "opAt", desc := "(II)I" } : Jvm.MethodName) ({ cls := "JobTerminal$Programs", name := "opAt", desc := "(II)I" } : Jvm.MethodName)) ∈ GW := q_mem 436 rfl rfl
set_option maxRecDepth 20000 in
theorem mw255 : (Jvm.Cond.code ({ cls := "JobTerminal", name := "canWrite", desc := "(LJobTerminal$JobProcess;)Z" } : Jvm.MethodName) prog_1_method_29_code (3 : Nat) (Option.some Jvm.ClassFile.FieldType.boolean)) ∈ GW := q_mem 453 rfl rfl
set_option maxRecDepth 20000 in
theorem mw256 : (Jvm.Cond.methodLink "JobTerminal" (229 : Nat) ({ cls := "JobTerminal", name := "canWrite", desc := "(LJobTerminal$JobProcess;)Z" } : Jvm.MethodName)) ∈ GW := q_mem 450 rfl rfl
set_option maxRecDepth 20000 in
theorem mw257 : (Jvm.Cond.instanceMethod ({ cls := "JobTerminal", name := "canWrite", desc := "(LJobTerminal$JobProcess;)Z" } : Jvm.MethodName)) ∈ GW := q_mem 452 rfl rfl
theorem mw258 : (Jvm.Cond.selects "JobTerminal" ({ cls := "JobTerminal", name := "canWrite", desc := "(LJobTerminal$JobProcess;)Z" } : Jvm.MethodName) ({ cls := "JobTerminal", name := "canWrite", desc := "(LJobTerminal$JobProcess;)Z" } : Jvm.MethodName)) ∈ GW := q_mem 19 rfl rfl
set_option maxRecDepth 20000 in
theorem mw259 : (Jvm.Cond.code ({ cls := "JobTerminal", name := "canRead", desc := "(LJobTerminal$JobProcess;)Z" } : Jvm.MethodName) prog_1_method_28_code (3 : Nat) (Option.some Jvm.ClassFile.FieldType.boolean)) ∈ GW := q_mem 441 rfl rfl
set_option maxRecDepth 20000 in
theorem mw260 : (Jvm.Cond.methodLink "JobTerminal" (226 : Nat) ({ cls := "JobTerminal", name := "canRead", desc := "(LJobTerminal$JobProcess;)Z" } : Jvm.MethodName)) ∈ GW := q_mem 438 rfl rfl
set_option maxRecDepth 20000 in
theorem mw261 : (Jvm.Cond.instanceMethod ({ cls := "JobTerminal", name := "canRead", desc := "(LJobTerminal$JobProcess;)Z" } : Jvm.MethodName)) ∈ GW := q_mem 440 rfl rfl
theorem mw262 : (Jvm.Cond.selects "JobTerminal" ({ cls := "JobTerminal", name := "canRead", desc := "(LJobTerminal$JobProcess;)Z" } : Jvm.MethodName) ({ cls := "JobTerminal", name := "canRead", desc := "(LJobTerminal$JobProcess;)Z" } : Jvm.MethodName)) ∈ GW := q_mem 18 rfl rfl
set_option maxRecDepth 20000 in
theorem mw263 : (Jvm.Cond.code ({ cls := "JobTerminal", name := "canGoOn", desc := "(LJobTerminal$JobProcess;)Z" } : Jvm.MethodName) prog_1_method_27_code (2 : Nat) (Option.some Jvm.ClassFile.FieldType.boolean)) ∈ GW := q_mem 433 rfl rfl
set_option maxRecDepth 20000 in
theorem mw264 : (Jvm.Cond.methodLink "JobTerminal" (213 : Nat) ({ cls := "JobTerminal", name := "canGoOn", desc := "(LJobTerminal$JobProcess;)Z" } : Jvm.MethodName)) ∈ GW := q_mem 430 rfl rfl
set_option maxRecDepth 20000 in
theorem mw265 : (Jvm.Cond.instanceMethod ({ cls := "JobTerminal", name := "canGoOn", desc := "(LJobTerminal$JobProcess;)Z" } : Jvm.MethodName)) ∈ GW := q_mem 432 rfl rfl
theorem mw266 : (Jvm.Cond.selects "JobTerminal" ({ cls := "JobTerminal", name := "canGoOn", desc := "(LJobTerminal$JobProcess;)Z" } : Jvm.MethodName) ({ cls := "JobTerminal", name := "canGoOn", desc := "(LJobTerminal$JobProcess;)Z" } : Jvm.MethodName)) ∈ GW := q_mem 17 rfl rfl
set_option maxRecDepth 20000 in
theorem mw267 : (Jvm.Cond.methodLink "JobTerminal" (264 : Nat) ({ cls := "JobTerminal$NumberRow", name := "takeOldest", desc := "()I" } : Jvm.MethodName)) ∈ GW := q_mem 475 rfl rfl
set_option maxRecDepth 20000 in
theorem mw268 : (Jvm.Cond.code ({ cls := "JobTerminal$JobProcess", name := "take", desc := "(I)V" } : Jvm.MethodName) prog_4_method_9_code (2 : Nat) (Option.none : Option Jvm.ClassFile.FieldType)) ∈ GW := q_mem 479 rfl rfl
set_option maxRecDepth 20000 in
theorem mw269 : (Jvm.Cond.methodLink "JobTerminal" (267 : Nat) ({ cls := "JobTerminal$JobProcess", name := "take", desc := "(I)V" } : Jvm.MethodName)) ∈ GW := q_mem 476 rfl rfl
set_option maxRecDepth 20000 in
theorem mw270 : (Jvm.Cond.instanceMethod ({ cls := "JobTerminal$JobProcess", name := "take", desc := "(I)V" } : Jvm.MethodName)) ∈ GW := q_mem 477 rfl rfl
set_option maxRecDepth 20000 in
theorem mw271 : (Jvm.Cond.selects "JobTerminal$JobProcess" ({ cls := "JobTerminal$JobProcess", name := "take", desc := "(I)V" } : Jvm.MethodName) ({ cls := "JobTerminal$JobProcess", name := "take", desc := "(I)V" } : Jvm.MethodName)) ∈ GW := q_mem 478 rfl rfl
set_option maxRecDepth 20000 in
theorem mw272 : (Jvm.Cond.code ({ cls := "JobTerminal$JobProcess", name := "shuns", desc := "(I)Z" } : Jvm.MethodName) prog_4_method_5_code (2 : Nat) (Option.some Jvm.ClassFile.FieldType.boolean)) ∈ GW := q_mem 483 rfl rfl
set_option maxRecDepth 20000 in
theorem mw273 : (Jvm.Cond.methodLink "JobTerminal" (270 : Nat) ({ cls := "JobTerminal$JobProcess", name := "shuns", desc := "(I)Z" } : Jvm.MethodName)) ∈ GW := q_mem 480 rfl rfl
set_option maxRecDepth 20000 in
theorem mw274 : (Jvm.Cond.instanceMethod ({ cls := "JobTerminal$JobProcess", name := "shuns", desc := "(I)Z" } : Jvm.MethodName)) ∈ GW := q_mem 481 rfl rfl
set_option maxRecDepth 20000 in
theorem mw275 : (Jvm.Cond.selects "JobTerminal$JobProcess" ({ cls := "JobTerminal$JobProcess", name := "shuns", desc := "(I)Z" } : Jvm.MethodName) ({ cls := "JobTerminal$JobProcess", name := "shuns", desc := "(I)Z" } : Jvm.MethodName)) ∈ GW := q_mem 482 rfl rfl
set_option maxRecDepth 20000 in
theorem mw276 : (Jvm.Cond.code ({ cls := "JobTerminal$JobProcess", name := "fail", desc := "()V" } : Jvm.MethodName) prog_4_method_10_code (1 : Nat) (Option.none : Option Jvm.ClassFile.FieldType)) ∈ GW := q_mem 487 rfl rfl
set_option maxRecDepth 20000 in
theorem mw277 : (Jvm.Cond.methodLink "JobTerminal" (273 : Nat) ({ cls := "JobTerminal$JobProcess", name := "fail", desc := "()V" } : Jvm.MethodName)) ∈ GW := q_mem 484 rfl rfl
set_option maxRecDepth 20000 in
theorem mw278 : (Jvm.Cond.instanceMethod ({ cls := "JobTerminal$JobProcess", name := "fail", desc := "()V" } : Jvm.MethodName)) ∈ GW := q_mem 485 rfl rfl
set_option maxRecDepth 20000 in
theorem mw279 : (Jvm.Cond.selects "JobTerminal$JobProcess" ({ cls := "JobTerminal$JobProcess", name := "fail", desc := "()V" } : Jvm.MethodName) ({ cls := "JobTerminal$JobProcess", name := "fail", desc := "()V" } : Jvm.MethodName)) ∈ GW := q_mem 486 rfl rfl
set_option maxRecDepth 20000 in
theorem mw280 : (Jvm.Cond.methodLink "JobTerminal" (286 : Nat) ({ cls := "JobTerminal$NumberRow", name := "putLast", desc := "(I)V" } : Jvm.MethodName)) ∈ GW := q_mem 495 rfl rfl
set_option maxRecDepth 20000 in
theorem mw281 : (Jvm.Cond.code ({ cls := "JobTerminal", name := "writeToPipe", desc := "(LJobTerminal$Job;LJobTerminal$JobProcess;I)Z" } : Jvm.MethodName) prog_1_method_33_code (3 : Nat) (Option.some Jvm.ClassFile.FieldType.boolean)) ∈ GW := q_mem 494 rfl rfl
set_option maxRecDepth 20000 in
theorem mw282 : (Jvm.Cond.methodLink "JobTerminal" (276 : Nat) ({ cls := "JobTerminal", name := "writeToPipe", desc := "(LJobTerminal$Job;LJobTerminal$JobProcess;I)Z" } : Jvm.MethodName)) ∈ GW := q_mem 492 rfl rfl
set_option maxRecDepth 20000 in
theorem mw283 : (Jvm.Cond.static ({ cls := "JobTerminal", name := "writeToPipe", desc := "(LJobTerminal$Job;LJobTerminal$JobProcess;I)Z" } : Jvm.MethodName)) ∈ GW := q_mem 493 rfl rfl
set_option maxRecDepth 20000 in
theorem mw284 : (Jvm.Cond.methodLink "JobTerminal" (280 : Nat) ({ cls := "JobTerminal$Terminal", name := "has", desc := "(I)Z" } : Jvm.MethodName)) ∈ GW := q_mem 496 rfl rfl
set_option maxRecDepth 20000 in
theorem mw285 : (Jvm.Cond.methodLink "JobTerminal" (283 : Nat) ({ cls := "JobTerminal$Terminal", name := "show", desc := "(I)V" } : Jvm.MethodName)) ∈ GW := q_mem 497 rfl rfl
set_option maxRecDepth 20000 in
theorem mw286 : (Jvm.Cond.methodLink "JobTerminal$JobProcess" (55 : Nat) ({ cls := "JobTerminal$JobProcess", name := "receive", desc := "(I)V" } : Jvm.MethodName)) ∈ GW := q_mem 502 rfl rfl
set_option maxRecDepth 20000 in
theorem mw287 : (Jvm.Cond.code ({ cls := "JobTerminal$Programs", name := "numberAt", desc := "(II)I" } : Jvm.MethodName) prog_6_method_6_code (3 : Nat) (Option.some Jvm.ClassFile.FieldType.int)) ∈ GW := q_mem 470 rfl rfl
set_option maxRecDepth 20000 in
theorem mw288 : (Jvm.Cond.methodLink "JobTerminal" (250 : Nat) ({ cls := "JobTerminal$Programs", name := "numberAt", desc := "(II)I" } : Jvm.MethodName)) ∈ GW := q_mem 467 rfl rfl
set_option maxRecDepth 20000 in
theorem mw289 : (Jvm.Cond.instanceMethod ({ cls := "JobTerminal$Programs", name := "numberAt", desc := "(II)I" } : Jvm.MethodName)) ∈ GW := q_mem 468 rfl rfl
set_option maxRecDepth 20000 in
theorem mw290 : (Jvm.Cond.selects "JobTerminal$Programs" ({ cls := "JobTerminal$Programs", name := "numberAt", desc := "(II)I" } : Jvm.MethodName) ({ cls := "JobTerminal$Programs", name := "numberAt", desc := "(II)I" } : Jvm.MethodName)) ∈ GW := q_mem 469 rfl rfl
set_option maxRecDepth 20000 in
theorem mw291 : (Jvm.Cond.code ({ cls := "JobTerminal", name := "write", desc := "(LJobTerminal$JobProcess;I)Z" } : Jvm.MethodName) prog_1_method_32_code (4 : Nat) (Option.some Jvm.ClassFile.FieldType.boolean)) ∈ GW := q_mem 491 rfl rfl
set_option maxRecDepth 20000 in
theorem mw292 : (Jvm.Cond.methodLink "JobTerminal" (256 : Nat) ({ cls := "JobTerminal", name := "write", desc := "(LJobTerminal$JobProcess;I)Z" } : Jvm.MethodName)) ∈ GW := q_mem 488 rfl rfl
set_option maxRecDepth 20000 in
theorem mw293 : (Jvm.Cond.instanceMethod ({ cls := "JobTerminal", name := "write", desc := "(LJobTerminal$JobProcess;I)Z" } : Jvm.MethodName)) ∈ GW := q_mem 490 rfl rfl
theorem mw294 : (Jvm.Cond.selects "JobTerminal" ({ cls := "JobTerminal", name := "write", desc := "(LJobTerminal$JobProcess;I)Z" } : Jvm.MethodName) ({ cls := "JobTerminal", name := "write", desc := "(LJobTerminal$JobProcess;I)Z" } : Jvm.MethodName)) ∈ GW := q_mem 22 rfl rfl
set_option maxRecDepth 20000 in
theorem mw295 : (Jvm.Cond.code ({ cls := "JobTerminal", name := "read", desc := "(LJobTerminal$JobProcess;)Z" } : Jvm.MethodName) prog_1_method_31_code (3 : Nat) (Option.some Jvm.ClassFile.FieldType.boolean)) ∈ GW := q_mem 474 rfl rfl
set_option maxRecDepth 20000 in
theorem mw296 : (Jvm.Cond.methodLink "JobTerminal" (253 : Nat) ({ cls := "JobTerminal", name := "read", desc := "(LJobTerminal$JobProcess;)Z" } : Jvm.MethodName)) ∈ GW := q_mem 471 rfl rfl
set_option maxRecDepth 20000 in
theorem mw297 : (Jvm.Cond.instanceMethod ({ cls := "JobTerminal", name := "read", desc := "(LJobTerminal$JobProcess;)Z" } : Jvm.MethodName)) ∈ GW := q_mem 473 rfl rfl
theorem mw298 : (Jvm.Cond.selects "JobTerminal" ({ cls := "JobTerminal", name := "read", desc := "(LJobTerminal$JobProcess;)Z" } : Jvm.MethodName) ({ cls := "JobTerminal", name := "read", desc := "(LJobTerminal$JobProcess;)Z" } : Jvm.MethodName)) ∈ GW := q_mem 21 rfl rfl
set_option maxRecDepth 20000 in
theorem mw299 : (Jvm.Cond.code ({ cls := "JobTerminal$JobProcess", name := "runOwnOp", desc := "(II)V" } : Jvm.MethodName) prog_4_method_11_code (4 : Nat) (Option.none : Option Jvm.ClassFile.FieldType)) ∈ GW := q_mem 501 rfl rfl
set_option maxRecDepth 20000 in
theorem mw300 : (Jvm.Cond.methodLink "JobTerminal" (260 : Nat) ({ cls := "JobTerminal$JobProcess", name := "runOwnOp", desc := "(II)V" } : Jvm.MethodName)) ∈ GW := q_mem 498 rfl rfl
set_option maxRecDepth 20000 in
theorem mw301 : (Jvm.Cond.instanceMethod ({ cls := "JobTerminal$JobProcess", name := "runOwnOp", desc := "(II)V" } : Jvm.MethodName)) ∈ GW := q_mem 499 rfl rfl
set_option maxRecDepth 20000 in
theorem mw302 : (Jvm.Cond.selects "JobTerminal$JobProcess" ({ cls := "JobTerminal$JobProcess", name := "runOwnOp", desc := "(II)V" } : Jvm.MethodName) ({ cls := "JobTerminal$JobProcess", name := "runOwnOp", desc := "(II)V" } : Jvm.MethodName)) ∈ GW := q_mem 500 rfl rfl
set_option maxRecDepth 20000 in
theorem mw303 : (Jvm.Cond.code ({ cls := "JobTerminal", name := "nextToGo", desc := "()LJobTerminal$JobProcess;" } : Jvm.MethodName) prog_1_method_26_code (3 : Nat) (Option.some (Jvm.ClassFile.FieldType.object "JobTerminal$JobProcess"))) ∈ GW := q_mem 429 rfl rfl
set_option maxRecDepth 20000 in
theorem mw304 : (Jvm.Cond.methodLink "JobTerminal" (144 : Nat) ({ cls := "JobTerminal", name := "nextToGo", desc := "()LJobTerminal$JobProcess;" } : Jvm.MethodName)) ∈ GW := q_mem 426 rfl rfl
set_option maxRecDepth 20000 in
theorem mw305 : (Jvm.Cond.instanceMethod ({ cls := "JobTerminal", name := "nextToGo", desc := "()LJobTerminal$JobProcess;" } : Jvm.MethodName)) ∈ GW := q_mem 428 rfl rfl
theorem mw306 : (Jvm.Cond.selects "JobTerminal" ({ cls := "JobTerminal", name := "nextToGo", desc := "()LJobTerminal$JobProcess;" } : Jvm.MethodName) ({ cls := "JobTerminal", name := "nextToGo", desc := "()LJobTerminal$JobProcess;" } : Jvm.MethodName)) ∈ GW := q_mem 16 rfl rfl
set_option maxRecDepth 20000 in
theorem mw307 : (Jvm.Cond.code ({ cls := "JobTerminal", name := "runLine", desc := "(LJobTerminal$JobProcess;)Z" } : Jvm.MethodName) prog_1_method_30_code (4 : Nat) (Option.some Jvm.ClassFile.FieldType.boolean)) ∈ GW := q_mem 466 rfl rfl
set_option maxRecDepth 20000 in
theorem mw308 : (Jvm.Cond.methodLink "JobTerminal" (148 : Nat) ({ cls := "JobTerminal", name := "runLine", desc := "(LJobTerminal$JobProcess;)Z" } : Jvm.MethodName)) ∈ GW := q_mem 463 rfl rfl
set_option maxRecDepth 20000 in
theorem mw309 : (Jvm.Cond.instanceMethod ({ cls := "JobTerminal", name := "runLine", desc := "(LJobTerminal$JobProcess;)Z" } : Jvm.MethodName)) ∈ GW := q_mem 465 rfl rfl
theorem mw310 : (Jvm.Cond.selects "JobTerminal" ({ cls := "JobTerminal", name := "runLine", desc := "(LJobTerminal$JobProcess;)Z" } : Jvm.MethodName) ({ cls := "JobTerminal", name := "runLine", desc := "(LJobTerminal$JobProcess;)Z" } : Jvm.MethodName)) ∈ GW := q_mem 20 rfl rfl
set_option maxRecDepth 20000 in
theorem mw311 : (Jvm.Cond.methodLink "JobTerminal$Job" (58 : Nat) ({ cls := "JobTerminal$Job", name := "receive", desc := "(I)V" } : Jvm.MethodName)) ∈ GW := q_mem 519 rfl rfl
set_option maxRecDepth 20000 in
theorem mw312 : (Jvm.Cond.code ({ cls := "JobTerminal$Terminal", name := "hangUp", desc := "()V" } : Jvm.MethodName) prog_7_method_3_code (1 : Nat) (Option.none : Option Jvm.ClassFile.FieldType)) ∈ GW := q_mem 514 rfl rfl
set_option maxRecDepth 20000 in
theorem mw313 : (Jvm.Cond.methodLink "JobTerminal" (167 : Nat) ({ cls := "JobTerminal$Terminal", name := "hangUp", desc := "()V" } : Jvm.MethodName)) ∈ GW := q_mem 511 rfl rfl
set_option maxRecDepth 20000 in
theorem mw314 : (Jvm.Cond.instanceMethod ({ cls := "JobTerminal$Terminal", name := "hangUp", desc := "()V" } : Jvm.MethodName)) ∈ GW := q_mem 512 rfl rfl
set_option maxRecDepth 20000 in
theorem mw315 : (Jvm.Cond.selects "JobTerminal$Terminal" ({ cls := "JobTerminal$Terminal", name := "hangUp", desc := "()V" } : Jvm.MethodName) ({ cls := "JobTerminal$Terminal", name := "hangUp", desc := "()V" } : Jvm.MethodName)) ∈ GW := q_mem 513 rfl rfl
set_option maxRecDepth 20000 in
theorem mw316 : (Jvm.Cond.code ({ cls := "JobTerminal$Job", name := "receiveHangUp", desc := "()V" } : Jvm.MethodName) prog_3_method_11_code (1 : Nat) (Option.none : Option Jvm.ClassFile.FieldType)) ∈ GW := q_mem 518 rfl rfl
set_option maxRecDepth 20000 in
theorem mw317 : (Jvm.Cond.methodLink "JobTerminal" (170 : Nat) ({ cls := "JobTerminal$Job", name := "receiveHangUp", desc := "()V" } : Jvm.MethodName)) ∈ GW := q_mem 515 rfl rfl
set_option maxRecDepth 20000 in
theorem mw318 : (Jvm.Cond.instanceMethod ({ cls := "JobTerminal$Job", name := "receiveHangUp", desc := "()V" } : Jvm.MethodName)) ∈ GW := q_mem 516 rfl rfl
set_option maxRecDepth 20000 in
theorem mw319 : (Jvm.Cond.selects "JobTerminal$Job" ({ cls := "JobTerminal$Job", name := "receiveHangUp", desc := "()V" } : Jvm.MethodName) ({ cls := "JobTerminal$Job", name := "receiveHangUp", desc := "()V" } : Jvm.MethodName)) ∈ GW := q_mem 517 rfl rfl
set_option maxRecDepth 20000 in
theorem mw320 : (Jvm.Cond.code ({ cls := "JobTerminal$JobProcess", name := "look", desc := "(I)I" } : Jvm.MethodName) prog_4_method_4_code (2 : Nat) (Option.some Jvm.ClassFile.FieldType.int)) ∈ GW := q_mem 539 rfl rfl
set_option maxRecDepth 20000 in
theorem mw321 : (Jvm.Cond.methodLink "JobTerminal" (173 : Nat) ({ cls := "JobTerminal$JobProcess", name := "look", desc := "(I)I" } : Jvm.MethodName)) ∈ GW := q_mem 536 rfl rfl
set_option maxRecDepth 20000 in
theorem mw322 : (Jvm.Cond.instanceMethod ({ cls := "JobTerminal$JobProcess", name := "look", desc := "(I)I" } : Jvm.MethodName)) ∈ GW := q_mem 537 rfl rfl
set_option maxRecDepth 20000 in
theorem mw323 : (Jvm.Cond.selects "JobTerminal$JobProcess" ({ cls := "JobTerminal$JobProcess", name := "look", desc := "(I)I" } : Jvm.MethodName) ({ cls := "JobTerminal$JobProcess", name := "look", desc := "(I)I" } : Jvm.MethodName)) ∈ GW := q_mem 538 rfl rfl
set_option maxRecDepth 20000 in
theorem mw324 : (Jvm.Cond.code ({ cls := "JobTerminal$Display", name := "codeBefore", desc := "(I)I" } : Jvm.MethodName) prog_2_method_3_code (4 : Nat) (Option.some Jvm.ClassFile.FieldType.int)) ∈ GW := q_mem 551 rfl rfl
set_option maxRecDepth 20000 in
theorem mw325 : (Jvm.Cond.methodLink "JobTerminal" (185 : Nat) ({ cls := "JobTerminal$Display", name := "codeBefore", desc := "(I)I" } : Jvm.MethodName)) ∈ GW := q_mem 548 rfl rfl
set_option maxRecDepth 20000 in
theorem mw326 : (Jvm.Cond.instanceMethod ({ cls := "JobTerminal$Display", name := "codeBefore", desc := "(I)I" } : Jvm.MethodName)) ∈ GW := q_mem 549 rfl rfl
set_option maxRecDepth 20000 in
theorem mw327 : (Jvm.Cond.selects "JobTerminal$Display" ({ cls := "JobTerminal$Display", name := "codeBefore", desc := "(I)I" } : Jvm.MethodName) ({ cls := "JobTerminal$Display", name := "codeBefore", desc := "(I)I" } : Jvm.MethodName)) ∈ GW := q_mem 550 rfl rfl
theorem mw328 : (Jvm.Cond.fieldLink "JobTerminal" (39 : Nat) "JobTerminal" "foregroundJob" "LJobTerminal$Job;") ∈ GW := q_mem 240 rfl rfl
theorem mw329 : (Jvm.Cond.fieldLink "JobTerminal" (32 : Nat) "JobTerminal" "jobs" "[LJobTerminal$Job;") ∈ GW := q_mem 238 rfl rfl
theorem mw330 : (Jvm.Cond.fieldLink "JobTerminal" (43 : Nat) "JobTerminal" "latestSlot" "I") ∈ GW := q_mem 241 rfl rfl
theorem mw331 : (Jvm.Cond.fieldLink "JobTerminal" (25 : Nat) "JobTerminal" "processes" "[LJobTerminal$JobProcess;") ∈ GW := q_mem 237 rfl rfl
theorem mw332 : (Jvm.Cond.fieldLink "JobTerminal" (10 : Nat) "JobTerminal" "programs" "LJobTerminal$Programs;") ∈ GW := q_mem 236 rfl rfl
theorem mw333 : (Jvm.Cond.fieldLink "JobTerminal" (19 : Nat) "JobTerminal" "terminal" "LJobTerminal$Terminal;") ∈ GW := q_mem 239 rfl rfl
theorem mw334 : (Jvm.Cond.fieldLink "JobTerminal$Display" (11 : Nat) "JobTerminal$Display" "codes" "[I") ∈ GW := q_mem 125 rfl rfl
theorem mw335 : (Jvm.Cond.fieldLink "JobTerminal$Display" (15 : Nat) "JobTerminal$Display" "next" "I") ∈ GW := q_mem 126 rfl rfl
theorem mw336 : (Jvm.Cond.fieldLink "JobTerminal$Display" (19 : Nat) "JobTerminal$Display" "total" "I") ∈ GW := q_mem 127 rfl rfl
theorem mw337 : (Jvm.Cond.fieldLink "JobTerminal$Job" (27 : Nat) "JobTerminal$Job" "first" "LJobTerminal$JobProcess;") ∈ GW := q_mem 216 rfl rfl
theorem mw338 : (Jvm.Cond.fieldLink "JobTerminal$Job" (20 : Nat) "JobTerminal$Job" "pipe" "LJobTerminal$NumberRow;") ∈ GW := q_mem 214 rfl rfl
theorem mw339 : (Jvm.Cond.fieldLink "JobTerminal$Job" (31 : Nat) "JobTerminal$Job" "second" "LJobTerminal$JobProcess;") ∈ GW := q_mem 217 rfl rfl
theorem mw340 : (Jvm.Cond.fieldLink "JobTerminal$JobProcess" (34 : Nat) "JobTerminal$JobProcess" "blocked" "I") ∈ GW := q_mem 177 rfl rfl
theorem mw341 : (Jvm.Cond.fieldLink "JobTerminal$JobProcess" (28 : Nat) "JobTerminal$JobProcess" "code" "I") ∈ GW := q_mem 175 rfl rfl
theorem mw342 : (Jvm.Cond.fieldLink "JobTerminal$JobProcess" (37 : Nat) "JobTerminal$JobProcess" "ignored" "I") ∈ GW := q_mem 178 rfl rfl
theorem mw343 : (Jvm.Cond.fieldLink "JobTerminal$JobProcess" (22 : Nat) "JobTerminal$JobProcess" "line" "I") ∈ GW := q_mem 171 rfl rfl
theorem mw344 : (Jvm.Cond.fieldLink "JobTerminal$JobProcess" (40 : Nat) "JobTerminal$JobProcess" "nap" "I") ∈ GW := q_mem 179 rfl rfl
theorem mw345 : (Jvm.Cond.fieldLink "JobTerminal$JobProcess" (9 : Nat) "JobTerminal$JobProcess" "owner" "LJobTerminal$Job;") ∈ GW := q_mem 164 rfl rfl
theorem mw346 : (Jvm.Cond.fieldLink "JobTerminal$JobProcess" (31 : Nat) "JobTerminal$JobProcess" "pending" "I") ∈ GW := q_mem 176 rfl rfl
theorem mw347 : (Jvm.Cond.fieldLink "JobTerminal$JobProcess" (25 : Nat) "JobTerminal$JobProcess" "register" "I") ∈ GW := q_mem 173 rfl rfl
theorem mw348 : (Jvm.Cond.fieldLink "JobTerminal$JobProcess" (15 : Nat) "JobTerminal$JobProcess" "state" "I") ∈ GW := q_mem 166 rfl rfl
theorem mw349 : (Jvm.Cond.fieldLink "JobTerminal$NumberRow" (21 : Nat) "JobTerminal$NumberRow" "count" "I") ∈ GW := q_mem 109 rfl rfl
theorem mw350 : (Jvm.Cond.fieldLink "JobTerminal$NumberRow" (15 : Nat) "JobTerminal$NumberRow" "numbers" "[I") ∈ GW := q_mem 107 rfl rfl
theorem mw351 : (Jvm.Cond.fieldLink "JobTerminal$NumberRow" (33 : Nat) "JobTerminal$NumberRow" "oldest" "I") ∈ GW := q_mem 108 rfl rfl
theorem mw352 : (Jvm.Cond.fieldLink "JobTerminal$Programs" (15 : Nat) "JobTerminal$Programs" "numbers" "[I") ∈ GW := q_mem 85 rfl rfl
theorem mw353 : (Jvm.Cond.fieldLink "JobTerminal$Programs" (11 : Nat) "JobTerminal$Programs" "ops" "[I") ∈ GW := q_mem 84 rfl rfl
theorem mw354 : (Jvm.Cond.fieldLink "JobTerminal$Terminal" (26 : Nat) "JobTerminal$Terminal" "display" "LJobTerminal$Display;") ∈ GW := q_mem 140 rfl rfl
theorem mw355 : (Jvm.Cond.fieldLink "JobTerminal$Terminal" (16 : Nat) "JobTerminal$Terminal" "edit" "LJobTerminal$NumberRow;") ∈ GW := q_mem 136 rfl rfl
theorem mw356 : (Jvm.Cond.fieldLink "JobTerminal$Terminal" (30 : Nat) "JobTerminal$Terminal" "modes" "I") ∈ GW := q_mem 142 rfl rfl
theorem mw357 : (Jvm.Cond.fieldLink "JobTerminal$Terminal" (20 : Nat) "JobTerminal$Terminal" "queue" "LJobTerminal$NumberRow;") ∈ GW := q_mem 138 rfl rfl
theorem mw358 : (Jvm.Cond.fieldLink "JobTerminal$Job" (24 : Nat) "JobTerminal$Job" "settledState" "I") ∈ GW := q_mem 221 rfl rfl
theorem mw359 : (Jvm.Cond.fieldLink "JobTerminal$Job" (37 : Nat) "JobTerminal$Job" "untold" "Z") ∈ GW := q_mem 219 rfl rfl
theorem mw360 : (Jvm.Cond.fieldLink "JobTerminal$JobProcess" (19 : Nat) "JobTerminal$JobProcess" "program" "I") ∈ GW := q_mem 169 rfl rfl
theorem mw361 : (Jvm.Cond.fieldLink "JobTerminal$Terminal" (34 : Nat) "JobTerminal$Terminal" "hangs" "Z") ∈ GW := q_mem 144 rfl rfl
set_option maxRecDepth 20000 in
theorem mw362 : (Jvm.Cond.code ({ cls := "JobTerminalModel", name := "stateOf", desc := "(I)I" } : Jvm.MethodName) prog_9_method_4_code (4 : Nat) (Option.some Jvm.ClassFile.FieldType.int)) ∈ GW := q_mem 858 rfl rfl
set_option maxRecDepth 20000 in
theorem mw363 : (Jvm.Cond.methodLink "JobTerminalModel" (87 : Nat) ({ cls := "JobTerminalModel", name := "stateOf", desc := "(I)I" } : Jvm.MethodName)) ∈ GW := q_mem 855 rfl rfl
set_option maxRecDepth 20000 in
theorem mw364 : (Jvm.Cond.instanceMethod ({ cls := "JobTerminalModel", name := "stateOf", desc := "(I)I" } : Jvm.MethodName)) ∈ GW := q_mem 857 rfl rfl
theorem mw365 : (Jvm.Cond.selects "JobTerminalModel" ({ cls := "JobTerminalModel", name := "stateOf", desc := "(I)I" } : Jvm.MethodName) ({ cls := "JobTerminalModel", name := "stateOf", desc := "(I)I" } : Jvm.MethodName)) ∈ GW := q_mem 40 rfl rfl
theorem mw366 : (Jvm.Cond.initialized "JobTerminalModel") ∈ GW := q_mem 64 rfl rfl
set_option maxRecDepth 20000 in
theorem mw367 : (Jvm.Cond.code ({ cls := "JobTerminalModel", name := "has", desc := "(II)Z" } : Jvm.MethodName) prog_9_method_6_code (2 : Nat) (Option.some Jvm.ClassFile.FieldType.boolean)) ∈ GW := q_mem 822 rfl rfl
set_option maxRecDepth 20000 in
theorem mw368 : (Jvm.Cond.methodLink "JobTerminalModel" (91 : Nat) ({ cls := "JobTerminalModel", name := "has", desc := "(II)Z" } : Jvm.MethodName)) ∈ GW := q_mem 820 rfl rfl
set_option maxRecDepth 20000 in
theorem mw369 : (Jvm.Cond.static ({ cls := "JobTerminalModel", name := "has", desc := "(II)Z" } : Jvm.MethodName)) ∈ GW := q_mem 821 rfl rfl
set_option maxRecDepth 20000 in
theorem mw370 : (Jvm.Cond.code ({ cls := "JobTerminalModel", name := "act", desc := "(II)V" } : Jvm.MethodName) prog_9_method_7_code (3 : Nat) (Option.none : Option Jvm.ClassFile.FieldType)) ∈ GW := q_mem 826 rfl rfl
set_option maxRecDepth 20000 in
theorem mw371 : (Jvm.Cond.methodLink "JobTerminalModel" (95 : Nat) ({ cls := "JobTerminalModel", name := "act", desc := "(II)V" } : Jvm.MethodName)) ∈ GW := q_mem 823 rfl rfl
set_option maxRecDepth 20000 in
theorem mw372 : (Jvm.Cond.instanceMethod ({ cls := "JobTerminalModel", name := "act", desc := "(II)V" } : Jvm.MethodName)) ∈ GW := q_mem 825 rfl rfl
theorem mw373 : (Jvm.Cond.selects "JobTerminalModel" ({ cls := "JobTerminalModel", name := "act", desc := "(II)V" } : Jvm.MethodName) ({ cls := "JobTerminalModel", name := "act", desc := "(II)V" } : Jvm.MethodName)) ∈ GW := q_mem 32 rfl rfl
set_option maxRecDepth 20000 in
theorem mw374 : (Jvm.Cond.code ({ cls := "JobTerminalModel", name := "actPending", desc := "(I)V" } : Jvm.MethodName) prog_9_method_8_code (3 : Nat) (Option.none : Option Jvm.ClassFile.FieldType)) ∈ GW := q_mem 819 rfl rfl
set_option maxRecDepth 20000 in
theorem mw375 : (Jvm.Cond.methodLink "JobTerminalModel" (99 : Nat) ({ cls := "JobTerminalModel", name := "actPending", desc := "(I)V" } : Jvm.MethodName)) ∈ GW := q_mem 816 rfl rfl
set_option maxRecDepth 20000 in
theorem mw376 : (Jvm.Cond.instanceMethod ({ cls := "JobTerminalModel", name := "actPending", desc := "(I)V" } : Jvm.MethodName)) ∈ GW := q_mem 818 rfl rfl
theorem mw377 : (Jvm.Cond.selects "JobTerminalModel" ({ cls := "JobTerminalModel", name := "actPending", desc := "(I)V" } : Jvm.MethodName) ({ cls := "JobTerminalModel", name := "actPending", desc := "(I)V" } : Jvm.MethodName)) ∈ GW := q_mem 31 rfl rfl
set_option maxRecDepth 20000 in
theorem mw378 : (Jvm.Cond.code ({ cls := "JobTerminalModel", name := "sendTo", desc := "(II)V" } : Jvm.MethodName) prog_9_method_9_code (3 : Nat) (Option.none : Option Jvm.ClassFile.FieldType)) ∈ GW := q_mem 815 rfl rfl
set_option maxRecDepth 20000 in
theorem mw379 : (Jvm.Cond.methodLink "JobTerminalModel" (103 : Nat) ({ cls := "JobTerminalModel", name := "sendTo", desc := "(II)V" } : Jvm.MethodName)) ∈ GW := q_mem 812 rfl rfl
set_option maxRecDepth 20000 in
theorem mw380 : (Jvm.Cond.instanceMethod ({ cls := "JobTerminalModel", name := "sendTo", desc := "(II)V" } : Jvm.MethodName)) ∈ GW := q_mem 814 rfl rfl
theorem mw381 : (Jvm.Cond.selects "JobTerminalModel" ({ cls := "JobTerminalModel", name := "sendTo", desc := "(II)V" } : Jvm.MethodName) ({ cls := "JobTerminalModel", name := "sendTo", desc := "(II)V" } : Jvm.MethodName)) ∈ GW := q_mem 30 rfl rfl
set_option maxRecDepth 20000 in
theorem mw382 : (Jvm.Cond.code ({ cls := "JobTerminalModel", name := "flagged", desc := "(I)Z" } : Jvm.MethodName) prog_9_method_11_code (2 : Nat) (Option.some Jvm.ClassFile.FieldType.boolean)) ∈ GW := q_mem 807 rfl rfl
set_option maxRecDepth 20000 in
theorem mw383 : (Jvm.Cond.methodLink "JobTerminalModel" (109 : Nat) ({ cls := "JobTerminalModel", name := "flagged", desc := "(I)Z" } : Jvm.MethodName)) ∈ GW := q_mem 804 rfl rfl
set_option maxRecDepth 20000 in
theorem mw384 : (Jvm.Cond.instanceMethod ({ cls := "JobTerminalModel", name := "flagged", desc := "(I)Z" } : Jvm.MethodName)) ∈ GW := q_mem 806 rfl rfl
theorem mw385 : (Jvm.Cond.selects "JobTerminalModel" ({ cls := "JobTerminalModel", name := "flagged", desc := "(I)Z" } : Jvm.MethodName) ({ cls := "JobTerminalModel", name := "flagged", desc := "(I)Z" } : Jvm.MethodName)) ∈ GW := q_mem 28 rfl rfl
set_option maxRecDepth 20000 in
theorem mw386 : (Jvm.Cond.code ({ cls := "JobTerminalModel", name := "put", desc := "(I)V" } : Jvm.MethodName) prog_9_method_12_code (2 : Nat) (Option.none : Option Jvm.ClassFile.FieldType)) ∈ GW := q_mem 838 rfl rfl
set_option maxRecDepth 20000 in
theorem mw387 : (Jvm.Cond.methodLink "JobTerminalModel" (113 : Nat) ({ cls := "JobTerminalModel", name := "put", desc := "(I)V" } : Jvm.MethodName)) ∈ GW := q_mem 835 rfl rfl
set_option maxRecDepth 20000 in
theorem mw388 : (Jvm.Cond.instanceMethod ({ cls := "JobTerminalModel", name := "put", desc := "(I)V" } : Jvm.MethodName)) ∈ GW := q_mem 837 rfl rfl
theorem mw389 : (Jvm.Cond.selects "JobTerminalModel" ({ cls := "JobTerminalModel", name := "put", desc := "(I)V" } : Jvm.MethodName) ({ cls := "JobTerminalModel", name := "put", desc := "(I)V" } : Jvm.MethodName)) ∈ GW := q_mem 35 rfl rfl
set_option maxRecDepth 20000 in
theorem mw390 : (Jvm.Cond.code ({ cls := "JobTerminalModel", name := "show", desc := "(I)V" } : Jvm.MethodName) prog_9_method_13_code (2 : Nat) (Option.none : Option Jvm.ClassFile.FieldType)) ∈ GW := q_mem 834 rfl rfl
set_option maxRecDepth 20000 in
theorem mw391 : (Jvm.Cond.methodLink "JobTerminalModel" (116 : Nat) ({ cls := "JobTerminalModel", name := "show", desc := "(I)V" } : Jvm.MethodName)) ∈ GW := q_mem 831 rfl rfl
set_option maxRecDepth 20000 in
theorem mw392 : (Jvm.Cond.instanceMethod ({ cls := "JobTerminalModel", name := "show", desc := "(I)V" } : Jvm.MethodName)) ∈ GW := q_mem 833 rfl rfl
theorem mw393 : (Jvm.Cond.selects "JobTerminalModel" ({ cls := "JobTerminalModel", name := "show", desc := "(I)V" } : Jvm.MethodName) ({ cls := "JobTerminalModel", name := "show", desc := "(I)V" } : Jvm.MethodName)) ∈ GW := q_mem 34 rfl rfl
set_option maxRecDepth 20000 in
theorem mw394 : (Jvm.Cond.code ({ cls := "JobTerminalModel", name := "echo", desc := "(I)V" } : Jvm.MethodName) prog_9_method_14_code (2 : Nat) (Option.none : Option Jvm.ClassFile.FieldType)) ∈ GW := q_mem 830 rfl rfl
set_option maxRecDepth 20000 in
theorem mw395 : (Jvm.Cond.methodLink "JobTerminalModel" (128 : Nat) ({ cls := "JobTerminalModel", name := "echo", desc := "(I)V" } : Jvm.MethodName)) ∈ GW := q_mem 827 rfl rfl
set_option maxRecDepth 20000 in
theorem mw396 : (Jvm.Cond.instanceMethod ({ cls := "JobTerminalModel", name := "echo", desc := "(I)V" } : Jvm.MethodName)) ∈ GW := q_mem 829 rfl rfl
theorem mw397 : (Jvm.Cond.selects "JobTerminalModel" ({ cls := "JobTerminalModel", name := "echo", desc := "(I)V" } : Jvm.MethodName) ({ cls := "JobTerminalModel", name := "echo", desc := "(I)V" } : Jvm.MethodName)) ∈ GW := q_mem 33 rfl rfl
set_option maxRecDepth 20000 in
theorem mw398 : (Jvm.Cond.code ({ cls := "JobTerminalModel", name := "enter", desc := "(II)Z" } : Jvm.MethodName) prog_9_method_16_code (4 : Nat) (Option.some Jvm.ClassFile.FieldType.boolean)) ∈ GW := q_mem 850 rfl rfl
set_option maxRecDepth 20000 in
theorem mw399 : (Jvm.Cond.methodLink "JobTerminalModel" (140 : Nat) ({ cls := "JobTerminalModel", name := "enter", desc := "(II)Z" } : Jvm.MethodName)) ∈ GW := q_mem 847 rfl rfl
set_option maxRecDepth 20000 in
theorem mw400 : (Jvm.Cond.instanceMethod ({ cls := "JobTerminalModel", name := "enter", desc := "(II)Z" } : Jvm.MethodName)) ∈ GW := q_mem 849 rfl rfl
theorem mw401 : (Jvm.Cond.selects "JobTerminalModel" ({ cls := "JobTerminalModel", name := "enter", desc := "(II)Z" } : Jvm.MethodName) ({ cls := "JobTerminalModel", name := "enter", desc := "(II)Z" } : Jvm.MethodName)) ∈ GW := q_mem 38 rfl rfl
set_option maxRecDepth 20000 in
theorem mw402 : (Jvm.Cond.code ({ cls := "JobTerminalModel", name := "rubOut", desc := "()V" } : Jvm.MethodName) prog_9_method_15_code (3 : Nat) (Option.none : Option Jvm.ClassFile.FieldType)) ∈ GW := q_mem 846 rfl rfl
set_option maxRecDepth 20000 in
theorem mw403 : (Jvm.Cond.methodLink "JobTerminalModel" (137 : Nat) ({ cls := "JobTerminalModel", name := "rubOut", desc := "()V" } : Jvm.MethodName)) ∈ GW := q_mem 843 rfl rfl
set_option maxRecDepth 20000 in
theorem mw404 : (Jvm.Cond.instanceMethod ({ cls := "JobTerminalModel", name := "rubOut", desc := "()V" } : Jvm.MethodName)) ∈ GW := q_mem 845 rfl rfl
theorem mw405 : (Jvm.Cond.selects "JobTerminalModel" ({ cls := "JobTerminalModel", name := "rubOut", desc := "()V" } : Jvm.MethodName) ({ cls := "JobTerminalModel", name := "rubOut", desc := "()V" } : Jvm.MethodName)) ∈ GW := q_mem 37 rfl rfl
set_option maxRecDepth 20000 in
theorem mw406 : (Jvm.Cond.code ({ cls := "JobTerminalModel", name := "sendJob", desc := "(II)V" } : Jvm.MethodName) prog_9_method_10_code (3 : Nat) (Option.none : Option Jvm.ClassFile.FieldType)) ∈ GW := q_mem 811 rfl rfl
set_option maxRecDepth 20000 in
theorem mw407 : (Jvm.Cond.methodLink "JobTerminalModel" (125 : Nat) ({ cls := "JobTerminalModel", name := "sendJob", desc := "(II)V" } : Jvm.MethodName)) ∈ GW := q_mem 808 rfl rfl
set_option maxRecDepth 20000 in
theorem mw408 : (Jvm.Cond.instanceMethod ({ cls := "JobTerminalModel", name := "sendJob", desc := "(II)V" } : Jvm.MethodName)) ∈ GW := q_mem 810 rfl rfl
theorem mw409 : (Jvm.Cond.selects "JobTerminalModel" ({ cls := "JobTerminalModel", name := "sendJob", desc := "(II)V" } : Jvm.MethodName) ({ cls := "JobTerminalModel", name := "sendJob", desc := "(II)V" } : Jvm.MethodName)) ∈ GW := q_mem 29 rfl rfl
set_option maxRecDepth 20000 in
theorem mw410 : (Jvm.Cond.code ({ cls := "JobTerminalModel", name := "compare", desc := "()V" } : Jvm.MethodName) prog_9_method_5_code (2 : Nat) (Option.none : Option Jvm.ClassFile.FieldType)) ∈ GW := q_mem 854 rfl rfl
set_option maxRecDepth 20000 in
theorem mw411 : (Jvm.Cond.methodLink "JobTerminalModel" (134 : Nat) ({ cls := "JobTerminalModel", name := "compare", desc := "()V" } : Jvm.MethodName)) ∈ GW := q_mem 851 rfl rfl
set_option maxRecDepth 20000 in
theorem mw412 : (Jvm.Cond.instanceMethod ({ cls := "JobTerminalModel", name := "compare", desc := "()V" } : Jvm.MethodName)) ∈ GW := q_mem 853 rfl rfl
theorem mw413 : (Jvm.Cond.selects "JobTerminalModel" ({ cls := "JobTerminalModel", name := "compare", desc := "()V" } : Jvm.MethodName) ({ cls := "JobTerminalModel", name := "compare", desc := "()V" } : Jvm.MethodName)) ∈ GW := q_mem 39 rfl rfl
set_option maxRecDepth 20000 in
theorem mw414 : (Jvm.Cond.code ({ cls := "JobTerminalModel", name := "keyOfLine", desc := "(I)Z" } : Jvm.MethodName) prog_9_method_18_code (3 : Nat) (Option.some Jvm.ClassFile.FieldType.boolean)) ∈ GW := q_mem 842 rfl rfl
set_option maxRecDepth 20000 in
theorem mw415 : (Jvm.Cond.methodLink "JobTerminalModel" (131 : Nat) ({ cls := "JobTerminalModel", name := "keyOfLine", desc := "(I)Z" } : Jvm.MethodName)) ∈ GW := q_mem 839 rfl rfl
set_option maxRecDepth 20000 in
theorem mw416 : (Jvm.Cond.instanceMethod ({ cls := "JobTerminalModel", name := "keyOfLine", desc := "(I)Z" } : Jvm.MethodName)) ∈ GW := q_mem 841 rfl rfl
theorem mw417 : (Jvm.Cond.selects "JobTerminalModel" ({ cls := "JobTerminalModel", name := "keyOfLine", desc := "(I)Z" } : Jvm.MethodName) ({ cls := "JobTerminalModel", name := "keyOfLine", desc := "(I)Z" } : Jvm.MethodName)) ∈ GW := q_mem 36 rfl rfl
set_option maxRecDepth 20000 in
theorem mw418 : (Jvm.Cond.code ({ cls := "JobTerminalModel", name := "begin", desc := "(II)I" } : Jvm.MethodName) prog_9_method_21_code (4 : Nat) (Option.some Jvm.ClassFile.FieldType.int)) ∈ GW := q_mem 874 rfl rfl
set_option maxRecDepth 20000 in
theorem mw419 : (Jvm.Cond.methodLink "JobTerminalModel" (143 : Nat) ({ cls := "JobTerminalModel", name := "begin", desc := "(II)I" } : Jvm.MethodName)) ∈ GW := q_mem 871 rfl rfl
set_option maxRecDepth 20000 in
theorem mw420 : (Jvm.Cond.instanceMethod ({ cls := "JobTerminalModel", name := "begin", desc := "(II)I" } : Jvm.MethodName)) ∈ GW := q_mem 873 rfl rfl
theorem mw421 : (Jvm.Cond.selects "JobTerminalModel" ({ cls := "JobTerminalModel", name := "begin", desc := "(II)I" } : Jvm.MethodName) ({ cls := "JobTerminalModel", name := "begin", desc := "(II)I" } : Jvm.MethodName)) ∈ GW := q_mem 41 rfl rfl
set_option maxRecDepth 20000 in
theorem mw422 : (Jvm.Cond.code ({ cls := "JobTerminalModel", name := "isJob", desc := "(I)Z" } : Jvm.MethodName) prog_9_method_3_code (2 : Nat) (Option.some Jvm.ClassFile.FieldType.boolean)) ∈ GW := q_mem 882 rfl rfl
set_option maxRecDepth 20000 in
theorem mw423 : (Jvm.Cond.methodLink "JobTerminalModel" (147 : Nat) ({ cls := "JobTerminalModel", name := "isJob", desc := "(I)Z" } : Jvm.MethodName)) ∈ GW := q_mem 879 rfl rfl
set_option maxRecDepth 20000 in
theorem mw424 : (Jvm.Cond.instanceMethod ({ cls := "JobTerminalModel", name := "isJob", desc := "(I)Z" } : Jvm.MethodName)) ∈ GW := q_mem 881 rfl rfl
theorem mw425 : (Jvm.Cond.selects "JobTerminalModel" ({ cls := "JobTerminalModel", name := "isJob", desc := "(I)Z" } : Jvm.MethodName) ({ cls := "JobTerminalModel", name := "isJob", desc := "(I)Z" } : Jvm.MethodName)) ∈ GW := q_mem 42 rfl rfl
set_option maxRecDepth 20000 in
theorem mw426 : (Jvm.Cond.code ({ cls := "JobTerminalModel", name := "goOn", desc := "(I)I" } : Jvm.MethodName) prog_9_method_23_code (2 : Nat) (Option.some Jvm.ClassFile.FieldType.int)) ∈ GW := q_mem 886 rfl rfl
set_option maxRecDepth 20000 in
theorem mw427 : (Jvm.Cond.methodLink "JobTerminalModel" (150 : Nat) ({ cls := "JobTerminalModel", name := "goOn", desc := "(I)I" } : Jvm.MethodName)) ∈ GW := q_mem 883 rfl rfl
set_option maxRecDepth 20000 in
theorem mw428 : (Jvm.Cond.instanceMethod ({ cls := "JobTerminalModel", name := "goOn", desc := "(I)I" } : Jvm.MethodName)) ∈ GW := q_mem 885 rfl rfl
theorem mw429 : (Jvm.Cond.selects "JobTerminalModel" ({ cls := "JobTerminalModel", name := "goOn", desc := "(I)I" } : Jvm.MethodName) ({ cls := "JobTerminalModel", name := "goOn", desc := "(I)I" } : Jvm.MethodName)) ∈ GW := q_mem 43 rfl rfl
set_option maxRecDepth 20000 in
theorem mw430 : (Jvm.Cond.code ({ cls := "JobTerminalModel", name := "opOf", desc := "(I)I" } : Jvm.MethodName) prog_9_method_29_code (3 : Nat) (Option.some Jvm.ClassFile.FieldType.int)) ∈ GW := q_mem 914 rfl rfl
set_option maxRecDepth 20000 in
theorem mw431 : (Jvm.Cond.methodLink "JobTerminalModel" (157 : Nat) ({ cls := "JobTerminalModel", name := "opOf", desc := "(I)I" } : Jvm.MethodName)) ∈ GW := q_mem 911 rfl rfl
set_option maxRecDepth 20000 in
theorem mw432 : (Jvm.Cond.instanceMethod ({ cls := "JobTerminalModel", name := "opOf", desc := "(I)I" } : Jvm.MethodName)) ∈ GW := q_mem 913 rfl rfl
theorem mw433 : (Jvm.Cond.selects "JobTerminalModel" ({ cls := "JobTerminalModel", name := "opOf", desc := "(I)I" } : Jvm.MethodName) ({ cls := "JobTerminalModel", name := "opOf", desc := "(I)I" } : Jvm.MethodName)) ∈ GW := q_mem 45 rfl rfl
set_option maxRecDepth 20000 in
theorem mw434 : (Jvm.Cond.code ({ cls := "JobTerminalModel", name := "writes", desc := "(I)Z" } : Jvm.MethodName) prog_9_method_33_code (2 : Nat) (Option.some Jvm.ClassFile.FieldType.boolean)) ∈ GW := q_mem 922 rfl rfl
set_option maxRecDepth 20000 in
theorem mw435 : (Jvm.Cond.methodLink "JobTerminalModel" (163 : Nat) ({ cls := "JobTerminalModel", name := "writes", desc := "(I)Z" } : Jvm.MethodName)) ∈ GW := q_mem 919 rfl rfl
set_option maxRecDepth 20000 in
theorem mw436 : (Jvm.Cond.instanceMethod ({ cls := "JobTerminalModel", name := "writes", desc := "(I)Z" } : Jvm.MethodName)) ∈ GW := q_mem 921 rfl rfl
theorem mw437 : (Jvm.Cond.selects "JobTerminalModel" ({ cls := "JobTerminalModel", name := "writes", desc := "(I)Z" } : Jvm.MethodName) ({ cls := "JobTerminalModel", name := "writes", desc := "(I)Z" } : Jvm.MethodName)) ∈ GW := q_mem 47 rfl rfl
set_option maxRecDepth 20000 in
theorem mw438 : (Jvm.Cond.code ({ cls := "JobTerminalModel", name := "writesPipe", desc := "(I)Z" } : Jvm.MethodName) prog_9_method_32_code (2 : Nat) (Option.some Jvm.ClassFile.FieldType.boolean)) ∈ GW := q_mem 926 rfl rfl
set_option maxRecDepth 20000 in
theorem mw439 : (Jvm.Cond.methodLink "JobTerminalModel" (166 : Nat) ({ cls := "JobTerminalModel", name := "writesPipe", desc := "(I)Z" } : Jvm.MethodName)) ∈ GW := q_mem 923 rfl rfl
set_option maxRecDepth 20000 in
theorem mw440 : (Jvm.Cond.instanceMethod ({ cls := "JobTerminalModel", name := "writesPipe", desc := "(I)Z" } : Jvm.MethodName)) ∈ GW := q_mem 925 rfl rfl
theorem mw441 : (Jvm.Cond.selects "JobTerminalModel" ({ cls := "JobTerminalModel", name := "writesPipe", desc := "(I)Z" } : Jvm.MethodName) ({ cls := "JobTerminalModel", name := "writesPipe", desc := "(I)Z" } : Jvm.MethodName)) ∈ GW := q_mem 48 rfl rfl
set_option maxRecDepth 20000 in
theorem mw442 : (Jvm.Cond.code ({ cls := "JobTerminalModel", name := "readsPipe", desc := "(I)Z" } : Jvm.MethodName) prog_9_method_31_code (2 : Nat) (Option.some Jvm.ClassFile.FieldType.boolean)) ∈ GW := q_mem 918 rfl rfl
set_option maxRecDepth 20000 in
theorem mw443 : (Jvm.Cond.methodLink "JobTerminalModel" (160 : Nat) ({ cls := "JobTerminalModel", name := "readsPipe", desc := "(I)Z" } : Jvm.MethodName)) ∈ GW := q_mem 915 rfl rfl
set_option maxRecDepth 20000 in
theorem mw444 : (Jvm.Cond.instanceMethod ({ cls := "JobTerminalModel", name := "readsPipe", desc := "(I)Z" } : Jvm.MethodName)) ∈ GW := q_mem 917 rfl rfl
theorem mw445 : (Jvm.Cond.selects "JobTerminalModel" ({ cls := "JobTerminalModel", name := "readsPipe", desc := "(I)Z" } : Jvm.MethodName) ({ cls := "JobTerminalModel", name := "readsPipe", desc := "(I)Z" } : Jvm.MethodName)) ∈ GW := q_mem 46 rfl rfl
set_option maxRecDepth 20000 in
theorem mw446 : (Jvm.Cond.code ({ cls := "JobTerminalModel", name := "fail", desc := "(I)V" } : Jvm.MethodName) prog_9_method_35_code (2 : Nat) (Option.none : Option Jvm.ClassFile.FieldType)) ∈ GW := q_mem 942 rfl rfl
set_option maxRecDepth 20000 in
theorem mw447 : (Jvm.Cond.methodLink "JobTerminalModel" (172 : Nat) ({ cls := "JobTerminalModel", name := "fail", desc := "(I)V" } : Jvm.MethodName)) ∈ GW := q_mem 939 rfl rfl
set_option maxRecDepth 20000 in
theorem mw448 : (Jvm.Cond.instanceMethod ({ cls := "JobTerminalModel", name := "fail", desc := "(I)V" } : Jvm.MethodName)) ∈ GW := q_mem 941 rfl rfl
theorem mw449 : (Jvm.Cond.selects "JobTerminalModel" ({ cls := "JobTerminalModel", name := "fail", desc := "(I)V" } : Jvm.MethodName) ({ cls := "JobTerminalModel", name := "fail", desc := "(I)V" } : Jvm.MethodName)) ∈ GW := q_mem 52 rfl rfl
set_option maxRecDepth 20000 in
theorem mw450 : (Jvm.Cond.code ({ cls := "JobTerminalModel", name := "numberOf", desc := "(I)I" } : Jvm.MethodName) prog_9_method_30_code (2 : Nat) (Option.some Jvm.ClassFile.FieldType.int)) ∈ GW := q_mem 934 rfl rfl
set_option maxRecDepth 20000 in
theorem mw451 : (Jvm.Cond.methodLink "JobTerminalModel" (175 : Nat) ({ cls := "JobTerminalModel", name := "numberOf", desc := "(I)I" } : Jvm.MethodName)) ∈ GW := q_mem 931 rfl rfl
set_option maxRecDepth 20000 in
theorem mw452 : (Jvm.Cond.instanceMethod ({ cls := "JobTerminalModel", name := "numberOf", desc := "(I)I" } : Jvm.MethodName)) ∈ GW := q_mem 933 rfl rfl
theorem mw453 : (Jvm.Cond.selects "JobTerminalModel" ({ cls := "JobTerminalModel", name := "numberOf", desc := "(I)I" } : Jvm.MethodName) ({ cls := "JobTerminalModel", name := "numberOf", desc := "(I)I" } : Jvm.MethodName)) ∈ GW := q_mem 50 rfl rfl
set_option maxRecDepth 20000 in
theorem mw454 : (Jvm.Cond.code ({ cls := "JobTerminalModel", name := "read", desc := "(I)V" } : Jvm.MethodName) prog_9_method_36_code (4 : Nat) (Option.none : Option Jvm.ClassFile.FieldType)) ∈ GW := q_mem 938 rfl rfl
set_option maxRecDepth 20000 in
theorem mw455 : (Jvm.Cond.methodLink "JobTerminalModel" (178 : Nat) ({ cls := "JobTerminalModel", name := "read", desc := "(I)V" } : Jvm.MethodName)) ∈ GW := q_mem 935 rfl rfl
set_option maxRecDepth 20000 in
theorem mw456 : (Jvm.Cond.instanceMethod ({ cls := "JobTerminalModel", name := "read", desc := "(I)V" } : Jvm.MethodName)) ∈ GW := q_mem 937 rfl rfl
theorem mw457 : (Jvm.Cond.selects "JobTerminalModel" ({ cls := "JobTerminalModel", name := "read", desc := "(I)V" } : Jvm.MethodName) ({ cls := "JobTerminalModel", name := "read", desc := "(I)V" } : Jvm.MethodName)) ∈ GW := q_mem 51 rfl rfl
set_option maxRecDepth 20000 in
theorem mw458 : (Jvm.Cond.code ({ cls := "JobTerminalModel", name := "write", desc := "(II)V" } : Jvm.MethodName) prog_9_method_37_code (4 : Nat) (Option.none : Option Jvm.ClassFile.FieldType)) ∈ GW := q_mem 946 rfl rfl
set_option maxRecDepth 20000 in
theorem mw459 : (Jvm.Cond.methodLink "JobTerminalModel" (181 : Nat) ({ cls := "JobTerminalModel", name := "write", desc := "(II)V" } : Jvm.MethodName)) ∈ GW := q_mem 943 rfl rfl
set_option maxRecDepth 20000 in
theorem mw460 : (Jvm.Cond.instanceMethod ({ cls := "JobTerminalModel", name := "write", desc := "(II)V" } : Jvm.MethodName)) ∈ GW := q_mem 945 rfl rfl
theorem mw461 : (Jvm.Cond.selects "JobTerminalModel" ({ cls := "JobTerminalModel", name := "write", desc := "(II)V" } : Jvm.MethodName) ({ cls := "JobTerminalModel", name := "write", desc := "(II)V" } : Jvm.MethodName)) ∈ GW := q_mem 53 rfl rfl
set_option maxRecDepth 20000 in
theorem mw462 : (Jvm.Cond.code ({ cls := "JobTerminalModel", name := "plain", desc := "(III)V" } : Jvm.MethodName) prog_9_method_39_code (4 : Nat) (Option.none : Option Jvm.ClassFile.FieldType)) ∈ GW := q_mem 950 rfl rfl
set_option maxRecDepth 20000 in
theorem mw463 : (Jvm.Cond.methodLink "JobTerminalModel" (184 : Nat) ({ cls := "JobTerminalModel", name := "plain", desc := "(III)V" } : Jvm.MethodName)) ∈ GW := q_mem 947 rfl rfl
set_option maxRecDepth 20000 in
theorem mw464 : (Jvm.Cond.instanceMethod ({ cls := "JobTerminalModel", name := "plain", desc := "(III)V" } : Jvm.MethodName)) ∈ GW := q_mem 949 rfl rfl
theorem mw465 : (Jvm.Cond.selects "JobTerminalModel" ({ cls := "JobTerminalModel", name := "plain", desc := "(III)V" } : Jvm.MethodName) ({ cls := "JobTerminalModel", name := "plain", desc := "(III)V" } : Jvm.MethodName)) ∈ GW := q_mem 54 rfl rfl
set_option maxRecDepth 20000 in
theorem mw466 : (Jvm.Cond.code ({ cls := "JobTerminalModel", name := "canGoOn", desc := "(I)Z" } : Jvm.MethodName) prog_9_method_34_code (3 : Nat) (Option.some Jvm.ClassFile.FieldType.boolean)) ∈ GW := q_mem 910 rfl rfl
set_option maxRecDepth 20000 in
theorem mw467 : (Jvm.Cond.methodLink "JobTerminalModel" (191 : Nat) ({ cls := "JobTerminalModel", name := "canGoOn", desc := "(I)Z" } : Jvm.MethodName)) ∈ GW := q_mem 907 rfl rfl
set_option maxRecDepth 20000 in
theorem mw468 : (Jvm.Cond.instanceMethod ({ cls := "JobTerminalModel", name := "canGoOn", desc := "(I)Z" } : Jvm.MethodName)) ∈ GW := q_mem 909 rfl rfl
theorem mw469 : (Jvm.Cond.selects "JobTerminalModel" ({ cls := "JobTerminalModel", name := "canGoOn", desc := "(I)Z" } : Jvm.MethodName) ({ cls := "JobTerminalModel", name := "canGoOn", desc := "(I)Z" } : Jvm.MethodName)) ∈ GW := q_mem 44 rfl rfl
set_option maxRecDepth 20000 in
theorem mw470 : (Jvm.Cond.code ({ cls := "JobTerminalModel", name := "perform", desc := "(I)V" } : Jvm.MethodName) prog_9_method_38_code (4 : Nat) (Option.none : Option Jvm.ClassFile.FieldType)) ∈ GW := q_mem 930 rfl rfl
set_option maxRecDepth 20000 in
theorem mw471 : (Jvm.Cond.methodLink "JobTerminalModel" (194 : Nat) ({ cls := "JobTerminalModel", name := "perform", desc := "(I)V" } : Jvm.MethodName)) ∈ GW := q_mem 927 rfl rfl
set_option maxRecDepth 20000 in
theorem mw472 : (Jvm.Cond.instanceMethod ({ cls := "JobTerminalModel", name := "perform", desc := "(I)V" } : Jvm.MethodName)) ∈ GW := q_mem 929 rfl rfl
theorem mw473 : (Jvm.Cond.selects "JobTerminalModel" ({ cls := "JobTerminalModel", name := "perform", desc := "(I)V" } : Jvm.MethodName) ({ cls := "JobTerminalModel", name := "perform", desc := "(I)V" } : Jvm.MethodName)) ∈ GW := q_mem 49 rfl rfl
set_option maxRecDepth 20000 in
theorem mw474 : (Jvm.Cond.fieldLink "JobTerminalModel" (37 : Nat) "JobTerminalModel" "blocked" "[I") ∈ GW := q_mem 710 rfl rfl
set_option maxRecDepth 20000 in
theorem mw475 : (Jvm.Cond.fieldLink "JobTerminalModel" (84 : Nat) "JobTerminalModel" "code" "I") ∈ GW := q_mem 731 rfl rfl
set_option maxRecDepth 20000 in
theorem mw476 : (Jvm.Cond.fieldLink "JobTerminalModel" (75 : Nat) "JobTerminalModel" "edit" "[I") ∈ GW := q_mem 725 rfl rfl
set_option maxRecDepth 20000 in
theorem mw477 : (Jvm.Cond.fieldLink "JobTerminalModel" (119 : Nat) "JobTerminalModel" "edited" "I") ∈ GW := q_mem 724 rfl rfl
set_option maxRecDepth 20000 in
theorem mw478 : (Jvm.Cond.fieldLink "JobTerminalModel" (31 : Nat) "JobTerminalModel" "ends" "[I") ∈ GW := q_mem 708 rfl rfl
set_option maxRecDepth 20000 in
theorem mw479 : (Jvm.Cond.fieldLink "JobTerminalModel" (169 : Nat) "JobTerminalModel" "failed" "Z") ∈ GW := q_mem 730 rfl rfl
set_option maxRecDepth 20000 in
theorem mw480 : (Jvm.Cond.fieldLink "JobTerminalModel" (50 : Nat) "JobTerminalModel" "first" "[I") ∈ GW := q_mem 715 rfl rfl
set_option maxRecDepth 20000 in
theorem mw481 : (Jvm.Cond.fieldLink "JobTerminalModel" (72 : Nat) "JobTerminalModel" "flag" "I") ∈ GW := q_mem 722 rfl rfl
set_option maxRecDepth 20000 in
theorem mw482 : (Jvm.Cond.fieldLink "JobTerminalModel" (68 : Nat) "JobTerminalModel" "front" "I") ∈ GW := q_mem 721 rfl rfl
set_option maxRecDepth 20000 in
theorem mw483 : (Jvm.Cond.fieldLink "JobTerminalModel" (153 : Nat) "JobTerminalModel" "hung" "Z") ∈ GW := q_mem 723 rfl rfl
set_option maxRecDepth 20000 in
theorem mw484 : (Jvm.Cond.fieldLink "JobTerminalModel" (40 : Nat) "JobTerminalModel" "ignored" "[I") ∈ GW := q_mem 711 rfl rfl
set_option maxRecDepth 20000 in
theorem mw485 : (Jvm.Cond.fieldLink "JobTerminalModel" (19 : Nat) "JobTerminalModel" "jobOf" "[I") ∈ GW := q_mem 704 rfl rfl
set_option maxRecDepth 20000 in
theorem mw486 : (Jvm.Cond.fieldLink "JobTerminalModel" (25 : Nat) "JobTerminalModel" "line" "[I") ∈ GW := q_mem 706 rfl rfl
set_option maxRecDepth 20000 in
theorem mw487 : (Jvm.Cond.fieldLink "JobTerminalModel" (43 : Nat) "JobTerminalModel" "nap" "[I") ∈ GW := q_mem 712 rfl rfl
set_option maxRecDepth 20000 in
theorem mw488 : (Jvm.Cond.fieldLink "JobTerminalModel" (13 : Nat) "JobTerminalModel" "numbers" "[I") ∈ GW := q_mem 702 rfl rfl
set_option maxRecDepth 20000 in
theorem mw489 : (Jvm.Cond.fieldLink "JobTerminalModel" (7 : Nat) "JobTerminalModel" "ops" "[I") ∈ GW := q_mem 701 rfl rfl
set_option maxRecDepth 20000 in
theorem mw490 : (Jvm.Cond.fieldLink "JobTerminalModel" (34 : Nat) "JobTerminalModel" "pending" "[I") ∈ GW := q_mem 709 rfl rfl
set_option maxRecDepth 20000 in
theorem mw491 : (Jvm.Cond.fieldLink "JobTerminalModel" (65 : Nat) "JobTerminalModel" "pipe" "[I") ∈ GW := q_mem 720 rfl rfl
set_option maxRecDepth 20000 in
theorem mw492 : (Jvm.Cond.fieldLink "JobTerminalModel" (62 : Nat) "JobTerminalModel" "piped" "[I") ∈ GW := q_mem 719 rfl rfl
set_option maxRecDepth 20000 in
theorem mw493 : (Jvm.Cond.fieldLink "JobTerminalModel" (22 : Nat) "JobTerminalModel" "programOf" "[I") ∈ GW := q_mem 705 rfl rfl
set_option maxRecDepth 20000 in
theorem mw494 : (Jvm.Cond.fieldLink "JobTerminalModel" (78 : Nat) "JobTerminalModel" "queue" "[I") ∈ GW := q_mem 727 rfl rfl
set_option maxRecDepth 20000 in
theorem mw495 : (Jvm.Cond.fieldLink "JobTerminalModel" (122 : Nat) "JobTerminalModel" "queued" "I") ∈ GW := q_mem 726 rfl rfl
set_option maxRecDepth 20000 in
theorem mw496 : (Jvm.Cond.fieldLink "JobTerminalModel" (28 : Nat) "JobTerminalModel" "register" "[I") ∈ GW := q_mem 707 rfl rfl
set_option maxRecDepth 20000 in
theorem mw497 : (Jvm.Cond.fieldLink "JobTerminalModel" (81 : Nat) "JobTerminalModel" "screen" "[I") ∈ GW := q_mem 729 rfl rfl
set_option maxRecDepth 20000 in
theorem mw498 : (Jvm.Cond.fieldLink "JobTerminalModel" (53 : Nat) "JobTerminalModel" "second" "[I") ∈ GW := q_mem 716 rfl rfl
set_option maxRecDepth 20000 in
theorem mw499 : (Jvm.Cond.fieldLink "JobTerminalModel" (106 : Nat) "JobTerminalModel" "shows" "I") ∈ GW := q_mem 728 rfl rfl
set_option maxRecDepth 20000 in
theorem mw500 : (Jvm.Cond.fieldLink "JobTerminalModel" (16 : Nat) "JobTerminalModel" "state" "[I") ∈ GW := q_mem 703 rfl rfl
set_option maxRecDepth 20000 in
theorem mw501 : (Jvm.Cond.fieldLink "JobTerminalModel" (46 : Nat) "JobTerminalModel" "there" "[Z") ∈ GW := q_mem 714 rfl rfl
set_option maxRecDepth 20000 in
theorem mw502 : (Jvm.Cond.fieldLink "JobTerminalModel" (188 : Nat) "JobTerminalModel" "turn" "I") ∈ GW := q_mem 713 rfl rfl
set_option maxRecDepth 20000 in
theorem mw503 : (Jvm.Cond.fieldLink "JobTerminalModel" (59 : Nat) "JobTerminalModel" "untold" "[Z") ∈ GW := q_mem 718 rfl rfl
set_option maxRecDepth 20000 in
theorem mw504 : (Jvm.Cond.fieldLink "JobTerminalModel" (56 : Nat) "JobTerminalModel" "was" "[I") ∈ GW := q_mem 717 rfl rfl
theorem mw505 : (Jvm.Cond.methodLink "JobTerminal$Programs" (3 : Nat) ({ cls := "java/lang/Object", name := "<init>", desc := "()V" } : Jvm.MethodName)) ∈ GW := q_mem 83 rfl rfl
theorem mw506 : (Jvm.Cond.instanceMethod ({ cls := "java/lang/Object", name := "<init>", desc := "()V" } : Jvm.MethodName)) ∈ GW := q_mem 76 rfl rfl
theorem mw507 : (Jvm.Cond.code ({ cls := "java/lang/Object", name := "<init>", desc := "()V" } : Jvm.MethodName) object_method_1_code (1 : Nat) (Option.none : Option Jvm.ClassFile.FieldType)) ∈ GW := q_mem 77 rfl rfl
theorem mw508 : (Jvm.Cond.arrayClass Jvm.ClassFile.FieldType.int) ∈ GW := q_mem 91 rfl rfl
theorem mw509 : (Jvm.Cond.methodLink "JobTerminal$Display" (3 : Nat) ({ cls := "java/lang/Object", name := "<init>", desc := "()V" } : Jvm.MethodName)) ∈ GW := q_mem 124 rfl rfl
theorem mw510 : (Jvm.Cond.methodLink "JobTerminal$JobProcess" (3 : Nat) ({ cls := "java/lang/Object", name := "<init>", desc := "()V" } : Jvm.MethodName)) ∈ GW := q_mem 163 rfl rfl
theorem mw511 : (Jvm.Cond.methodLink "JobTerminal$NumberRow" (3 : Nat) ({ cls := "java/lang/Object", name := "<init>", desc := "()V" } : Jvm.MethodName)) ∈ GW := q_mem 103 rfl rfl
theorem mw512 : (Jvm.Cond.methodLink "JobTerminal$NumberRow" (9 : Nat) ({ cls := "java/lang/Math", name := "max", desc := "(II)I" } : Jvm.MethodName)) ∈ GW := q_mem 104 rfl rfl
theorem mw513 : (Jvm.Cond.static ({ cls := "java/lang/Math", name := "max", desc := "(II)I" } : Jvm.MethodName)) ∈ GW := q_mem 105 rfl rfl
theorem mw514 : (Jvm.Cond.code ({ cls := "java/lang/Math", name := "max", desc := "(II)I" } : Jvm.MethodName) prog_13_method_65_code (2 : Nat) (Option.some Jvm.ClassFile.FieldType.int)) ∈ GW := q_mem 106 rfl rfl
theorem mw515 : (Jvm.Cond.methodLink "JobTerminal$Job" (3 : Nat) ({ cls := "java/lang/Object", name := "<init>", desc := "()V" } : Jvm.MethodName)) ∈ GW := q_mem 208 rfl rfl
theorem mw516 : (Jvm.Cond.fieldLink "JobTerminal$Job" (9 : Nat) "JobTerminal$Job" "number" "I") ∈ GW := q_mem 211 rfl rfl
theorem mw517 : (Jvm.Cond.classLink "JobTerminal$Job" (15 : Nat) "JobTerminal$NumberRow") ∈ GW := q_mem 209 rfl rfl
theorem mw518 : (Jvm.Cond.instantiable "JobTerminal$NumberRow" (3 : Nat)) ∈ GW := q_mem 99 rfl rfl
theorem mw519 : (Jvm.Cond.code ({ cls := "JobTerminal$NumberRow", name := "<init>", desc := "(I)V" } : Jvm.MethodName) prog_5_method_1_code (2 : Nat) (Option.none : Option Jvm.ClassFile.FieldType)) ∈ GW := q_mem 102 rfl rfl
theorem mw520 : (Jvm.Cond.methodLink "JobTerminal$Job" (17 : Nat) ({ cls := "JobTerminal$NumberRow", name := "<init>", desc := "(I)V" } : Jvm.MethodName)) ∈ GW := q_mem 210 rfl rfl
theorem mw521 : (Jvm.Cond.instanceMethod ({ cls := "JobTerminal$NumberRow", name := "<init>", desc := "(I)V" } : Jvm.MethodName)) ∈ GW := q_mem 101 rfl rfl
theorem mw522 : (Jvm.Cond.methodLink "JobTerminal$Terminal" (3 : Nat) ({ cls := "java/lang/Object", name := "<init>", desc := "()V" } : Jvm.MethodName)) ∈ GW := q_mem 97 rfl rfl
theorem mw523 : (Jvm.Cond.classLink "JobTerminal$Terminal" (9 : Nat) "JobTerminal$NumberRow") ∈ GW := q_mem 98 rfl rfl
theorem mw524 : (Jvm.Cond.methodLink "JobTerminal$Terminal" (13 : Nat) ({ cls := "JobTerminal$NumberRow", name := "<init>", desc := "(I)V" } : Jvm.MethodName)) ∈ GW := q_mem 100 rfl rfl
theorem mw525 : (Jvm.Cond.classLink "JobTerminal$Terminal" (23 : Nat) "JobTerminal$Display") ∈ GW := q_mem 119 rfl rfl
theorem mw526 : (Jvm.Cond.instantiable "JobTerminal$Display" (3 : Nat)) ∈ GW := q_mem 120 rfl rfl
theorem mw527 : (Jvm.Cond.code ({ cls := "JobTerminal$Display", name := "<init>", desc := "()V" } : Jvm.MethodName) prog_2_method_1_code (1 : Nat) (Option.none : Option Jvm.ClassFile.FieldType)) ∈ GW := q_mem 123 rfl rfl
theorem mw528 : (Jvm.Cond.methodLink "JobTerminal$Terminal" (25 : Nat) ({ cls := "JobTerminal$Display", name := "<init>", desc := "()V" } : Jvm.MethodName)) ∈ GW := q_mem 121 rfl rfl
theorem mw529 : (Jvm.Cond.instanceMethod ({ cls := "JobTerminal$Display", name := "<init>", desc := "()V" } : Jvm.MethodName)) ∈ GW := q_mem 122 rfl rfl
theorem mw530 : (Jvm.Cond.methodLink "JobTerminal" (1 : Nat) ({ cls := "java/lang/Object", name := "<init>", desc := "()V" } : Jvm.MethodName)) ∈ GW := q_mem 75 rfl rfl
theorem mw531 : (Jvm.Cond.classLink "JobTerminal" (7 : Nat) "JobTerminal$Programs") ∈ GW := q_mem 78 rfl rfl
theorem mw532 : (Jvm.Cond.instantiable "JobTerminal$Programs" (2 : Nat)) ∈ GW := q_mem 79 rfl rfl
theorem mw533 : (Jvm.Cond.code ({ cls := "JobTerminal$Programs", name := "<init>", desc := "()V" } : Jvm.MethodName) prog_6_method_1_code (1 : Nat) (Option.none : Option Jvm.ClassFile.FieldType)) ∈ GW := q_mem 82 rfl rfl
theorem mw534 : (Jvm.Cond.methodLink "JobTerminal" (9 : Nat) ({ cls := "JobTerminal$Programs", name := "<init>", desc := "()V" } : Jvm.MethodName)) ∈ GW := q_mem 80 rfl rfl
theorem mw535 : (Jvm.Cond.instanceMethod ({ cls := "JobTerminal$Programs", name := "<init>", desc := "()V" } : Jvm.MethodName)) ∈ GW := q_mem 81 rfl rfl
theorem mw536 : (Jvm.Cond.classLink "JobTerminal" (16 : Nat) "JobTerminal$Terminal") ∈ GW := q_mem 92 rfl rfl
theorem mw537 : (Jvm.Cond.instantiable "JobTerminal$Terminal" (5 : Nat)) ∈ GW := q_mem 93 rfl rfl
theorem mw538 : (Jvm.Cond.code ({ cls := "JobTerminal$Terminal", name := "<init>", desc := "()V" } : Jvm.MethodName) prog_7_method_1_code (1 : Nat) (Option.none : Option Jvm.ClassFile.FieldType)) ∈ GW := q_mem 96 rfl rfl
theorem mw539 : (Jvm.Cond.methodLink "JobTerminal" (18 : Nat) ({ cls := "JobTerminal$Terminal", name := "<init>", desc := "()V" } : Jvm.MethodName)) ∈ GW := q_mem 94 rfl rfl
theorem mw540 : (Jvm.Cond.instanceMethod ({ cls := "JobTerminal$Terminal", name := "<init>", desc := "()V" } : Jvm.MethodName)) ∈ GW := q_mem 95 rfl rfl
theorem mw541 : (Jvm.Cond.classLink "JobTerminal" (23 : Nat) "JobTerminal$JobProcess") ∈ GW := q_mem 157 rfl rfl
theorem mw542 : (Jvm.Cond.instantiable "JobTerminal$JobProcess" (10 : Nat)) ∈ GW := q_mem 159 rfl rfl
theorem mw543 : (Jvm.Cond.code ({ cls := "JobTerminal$JobProcess", name := "<init>", desc := "()V" } : Jvm.MethodName) prog_4_method_1_code (1 : Nat) (Option.none : Option Jvm.ClassFile.FieldType)) ∈ GW := q_mem 162 rfl rfl
theorem mw544 : (Jvm.Cond.instanceMethod ({ cls := "JobTerminal$JobProcess", name := "<init>", desc := "()V" } : Jvm.MethodName)) ∈ GW := q_mem 161 rfl rfl
theorem mw545 : (Jvm.Cond.classLink "JobTerminal" (30 : Nat) "JobTerminal$Job") ∈ GW := q_mem 202 rfl rfl
theorem mw546 : (Jvm.Cond.instantiable "JobTerminal$Job" (6 : Nat)) ∈ GW := q_mem 204 rfl rfl
theorem mw547 : (Jvm.Cond.code ({ cls := "JobTerminal$Job", name := "<init>", desc := "(I)V" } : Jvm.MethodName) prog_3_method_1_code (2 : Nat) (Option.none : Option Jvm.ClassFile.FieldType)) ∈ GW := q_mem 207 rfl rfl
theorem mw548 : (Jvm.Cond.methodLink "JobTerminal" (36 : Nat) ({ cls := "JobTerminal$Job", name := "<init>", desc := "(I)V" } : Jvm.MethodName)) ∈ GW := q_mem 205 rfl rfl
theorem mw549 : (Jvm.Cond.instanceMethod ({ cls := "JobTerminal$Job", name := "<init>", desc := "(I)V" } : Jvm.MethodName)) ∈ GW := q_mem 206 rfl rfl
set_option maxRecDepth 20000 in
theorem mw550 : (Jvm.Cond.methodLink "JobTerminalModel" (1 : Nat) ({ cls := "java/lang/Object", name := "<init>", desc := "()V" } : Jvm.MethodName)) ∈ GW := q_mem 700 rfl rfl
set_option maxRecDepth 20000 in
theorem mw551 : (Jvm.Cond.arrayClass Jvm.ClassFile.FieldType.boolean) ∈ GW := q_mem 795 rfl rfl
theorem i_Display : ∀ w ∈ u_ws R_Display F_Display 3, w ∈ GW := by
  intro w hw
  obtain ⟨k, hk, rfl⟩ := List.mem_map.mp hw
  have hk := List.mem_range.mp hk
  match k, hk with
  | 0, _ => exact mw0
  | 1, _ => exact mw1
  | 2, _ => exact mw2
  | k + 3, hk => exact absurd hk (by omega)
theorem i_Job : ∀ w ∈ u_ws R_Job F_Job 6, w ∈ GW := by
  intro w hw
  obtain ⟨k, hk, rfl⟩ := List.mem_map.mp hw
  have hk := List.mem_range.mp hk
  match k, hk with
  | 0, _ => exact mw3
  | 1, _ => exact mw4
  | 2, _ => exact mw5
  | 3, _ => exact mw6
  | 4, _ => exact mw7
  | 5, _ => exact mw8
  | k + 6, hk => exact absurd hk (by omega)
theorem i_JobProcess : ∀ w ∈ u_ws R_JobProcess F_JobProcess 10, w ∈ GW := by
  intro w hw
  obtain ⟨k, hk, rfl⟩ := List.mem_map.mp hw
  have hk := List.mem_range.mp hk
  match k, hk with
  | 0, _ => exact mw9
  | 1, _ => exact mw10
  | 2, _ => exact mw11
  | 3, _ => exact mw12
  | 4, _ => exact mw13
  | 5, _ => exact mw14
  | 6, _ => exact mw15
  | 7, _ => exact mw16
  | 8, _ => exact mw17
  | 9, _ => exact mw18
  | k + 10, hk => exact absurd hk (by omega)
theorem i_NumberRow : ∀ w ∈ u_ws R_NumberRow F_NumberRow 3, w ∈ GW := by
  intro w hw
  obtain ⟨k, hk, rfl⟩ := List.mem_map.mp hw
  have hk := List.mem_range.mp hk
  match k, hk with
  | 0, _ => exact mw19
  | 1, _ => exact mw20
  | 2, _ => exact mw21
  | k + 3, hk => exact absurd hk (by omega)
theorem i_Programs : ∀ w ∈ u_ws R_Programs F_Programs 2, w ∈ GW := by
  intro w hw
  obtain ⟨k, hk, rfl⟩ := List.mem_map.mp hw
  have hk := List.mem_range.mp hk
  match k, hk with
  | 0, _ => exact mw22
  | 1, _ => exact mw23
  | k + 2, hk => exact absurd hk (by omega)
theorem i_Terminal : ∀ w ∈ u_ws R_Terminal F_Terminal 5, w ∈ GW := by
  intro w hw
  obtain ⟨k, hk, rfl⟩ := List.mem_map.mp hw
  have hk := List.mem_range.mp hk
  match k, hk with
  | 0, _ => exact mw24
  | 1, _ => exact mw25
  | 2, _ => exact mw26
  | 3, _ => exact mw27
  | 4, _ => exact mw28
  | k + 5, hk => exact absurd hk (by omega)
theorem i_JT : ∀ w ∈ u_ws R_JT F_JT 6, w ∈ GW := by
  intro w hw
  obtain ⟨k, hk, rfl⟩ := List.mem_map.mp hw
  have hk := List.mem_range.mp hk
  match k, hk with
  | 0, _ => exact mw29
  | 1, _ => exact mw30
  | 2, _ => exact mw31
  | 3, _ => exact mw32
  | 4, _ => exact mw33
  | 5, _ => exact mw34
  | k + 6, hk => exact absurd hk (by omega)
theorem i_Mo : ∀ w ∈ u_ws R_Mo F_Mo 31, w ∈ GW := by
  intro w hw
  obtain ⟨k, hk, rfl⟩ := List.mem_map.mp hw
  have hk := List.mem_range.mp hk
  match k, hk with
  | 0, _ => exact mw35
  | 1, _ => exact mw36
  | 2, _ => exact mw37
  | 3, _ => exact mw38
  | 4, _ => exact mw39
  | 5, _ => exact mw40
  | 6, _ => exact mw41
  | 7, _ => exact mw42
  | 8, _ => exact mw43
  | 9, _ => exact mw44
  | 10, _ => exact mw45
  | 11, _ => exact mw46
  | 12, _ => exact mw47
  | 13, _ => exact mw48
  | 14, _ => exact mw49
  | 15, _ => exact mw50
  | 16, _ => exact mw51
  | 17, _ => exact mw52
  | 18, _ => exact mw53
  | 19, _ => exact mw54
  | 20, _ => exact mw55
  | 21, _ => exact mw56
  | 22, _ => exact mw57
  | 23, _ => exact mw58
  | 24, _ => exact mw59
  | 25, _ => exact mw60
  | 26, _ => exact mw61
  | 27, _ => exact mw62
  | 28, _ => exact mw63
  | 29, _ => exact mw64
  | 30, _ => exact mw65
  | k + 31, hk => exact absurd hk (by omega)
/-- nest mates' words -/
def NW : List Cond := [(Jvm.Cond.fieldLinkNest "JobTerminal$Terminal" (70 : Nat) "JobTerminal$NumberRow" "count" "I" "JobTerminal"), (Jvm.Cond.fieldLinkNest "JobTerminal" (192 : Nat) "JobTerminal$NumberRow" "count" "I" "JobTerminal"), (Jvm.Cond.fieldLinkNest "JobTerminal" (180 : Nat) "JobTerminal$Display" "total" "I" "JobTerminal"), (Jvm.Cond.fieldLinkNest "JobTerminal" (188 : Nat) "JobTerminal$Terminal" "edit" "LJobTerminal$NumberRow;" "JobTerminal"), (Jvm.Cond.fieldLinkNest "JobTerminal" (197 : Nat) "JobTerminal$Terminal" "queue" "LJobTerminal$NumberRow;" "JobTerminal"), (Jvm.Cond.fieldLinkNest "JobTerminal" (176 : Nat) "JobTerminal$Terminal" "display" "LJobTerminal$Display;" "JobTerminal"), (Jvm.Cond.fieldLinkNest "JobTerminal" (58 : Nat) "JobTerminal$Terminal" "modes" "I" "JobTerminal"), (Jvm.Cond.fieldLinkNest "JobTerminal" (164 : Nat) "JobTerminal$Terminal" "hangs" "Z" "JobTerminal"), (Jvm.Cond.fieldLinkNest "JobTerminal" (152 : Nat) "JobTerminal$JobProcess" "owner" "LJobTerminal$Job;" "JobTerminal"), (Jvm.Cond.fieldLinkNest "JobTerminal$Job" (46 : Nat) "JobTerminal$JobProcess" "state" "I" "JobTerminal"), (Jvm.Cond.fieldLinkNest "JobTerminal" (159 : Nat) "JobTerminal$JobProcess" "state" "I" "JobTerminal"), (Jvm.Cond.fieldLinkNest "JobTerminal" (216 : Nat) "JobTerminal$JobProcess" "program" "I" "JobTerminal"), (Jvm.Cond.fieldLinkNest "JobTerminal" (219 : Nat) "JobTerminal$JobProcess" "line" "I" "JobTerminal"), (Jvm.Cond.fieldLinkNest "JobTerminal" (232 : Nat) "JobTerminal$JobProcess" "register" "I" "JobTerminal"), (Jvm.Cond.fieldLinkNest "JobTerminal" (161 : Nat) "JobTerminal$JobProcess" "nap" "I" "JobTerminal"), (Jvm.Cond.fieldLinkNest "JobTerminal$JobProcess" (43 : Nat) "JobTerminal$Job" "number" "I" "JobTerminal"), (Jvm.Cond.fieldLinkNest "JobTerminal" (111 : Nat) "JobTerminal$Job" "number" "I" "JobTerminal"), (Jvm.Cond.fieldLinkNest "JobTerminal" (204 : Nat) "JobTerminal$Job" "pipe" "LJobTerminal$NumberRow;" "JobTerminal"), (Jvm.Cond.fieldLinkNest "JobTerminal" (200 : Nat) "JobTerminal$Job" "second" "LJobTerminal$JobProcess;" "JobTerminal"), (Jvm.Cond.fieldLinkNest "JobTerminal" (136 : Nat) "JobTerminal$Job" "untold" "Z" "JobTerminal"), (Jvm.Cond.fieldLinkNest "JobTerminal" (207 : Nat) "JobTerminal$Job" "settledState" "I" "JobTerminal"), (Jvm.Cond.methodLinkNest "JobTerminal" (29 : Nat) ({ cls := "JobTerminal$JobProcess", name := "<init>", desc := "()V" } : Jvm.MethodName) "JobTerminal"), (Jvm.Cond.arrayOver (Jvm.ClassFile.FieldType.object "JobTerminal$JobProcess")), (Jvm.Cond.arrayOver (Jvm.ClassFile.FieldType.object "JobTerminal$Job"))]
theorem NW_ok : q_nwOk NW := by
  intro w hw
  simp only [NW, List.mem_cons, List.not_mem_nil, or_false] at hw
  rcases hw with rfl | rfl | rfl | rfl | rfl | rfl | rfl | rfl | rfl | rfl | rfl | rfl | rfl | rfl | rfl | rfl | rfl | rfl | rfl | rfl | rfl | rfl | rfl | rfl <;> first | exact ⟨fun s U he h => va_Nw.same rfl he h, fun s U hW h => va_Nw.warmF hW h⟩ | exact ⟨fun s U he h => va_Nw.same rfl he h, fun s U hW h => va_Nw.warmM hW h⟩ | exact ⟨fun s U he h => va_AO.moved (by rw [he]; exact Vm.Alike.refl _) h, fun s U hW h => va_AO.moved hW.alike h⟩
set_option maxRecDepth 20000 in
theorem NW_in : ∀ w ∈ NW, w ∈ lw_tbl := by
  intro w hw
  simp only [NW, List.mem_cons, List.not_mem_nil, or_false] at hw
  rcases hw with rfl | rfl | rfl | rfl | rfl | rfl | rfl | rfl | rfl | rfl | rfl | rfl | rfl | rfl | rfl | rfl | rfl | rfl | rfl | rfl | rfl | rfl | rfl | rfl
  · exact List.mem_of_getElem? (i := 110) rfl
  · exact List.mem_of_getElem? (i := 111) rfl
  · exact List.mem_of_getElem? (i := 128) rfl
  · exact List.mem_of_getElem? (i := 137) rfl
  · exact List.mem_of_getElem? (i := 139) rfl
  · exact List.mem_of_getElem? (i := 141) rfl
  · exact List.mem_of_getElem? (i := 143) rfl
  · exact List.mem_of_getElem? (i := 145) rfl
  · exact List.mem_of_getElem? (i := 165) rfl
  · exact List.mem_of_getElem? (i := 167) rfl
  · exact List.mem_of_getElem? (i := 168) rfl
  · exact List.mem_of_getElem? (i := 170) rfl
  · exact List.mem_of_getElem? (i := 172) rfl
  · exact List.mem_of_getElem? (i := 174) rfl
  · exact List.mem_of_getElem? (i := 180) rfl
  · exact List.mem_of_getElem? (i := 212) rfl
  · exact List.mem_of_getElem? (i := 213) rfl
  · exact List.mem_of_getElem? (i := 215) rfl
  · exact List.mem_of_getElem? (i := 218) rfl
  · exact List.mem_of_getElem? (i := 220) rfl
  · exact List.mem_of_getElem? (i := 222) rfl
  · exact List.mem_of_getElem? (i := 160) rfl
  · exact List.mem_of_getElem? (i := 158) rfl
  · exact List.mem_of_getElem? (i := 203) rfl
/-- a callee's words among the caller's -/
theorem q_goodV {a b : Cond} {own C : String} {idx : Nat} {y : MethodName} (hb : b ∈ GW) (h1 : Cond.methodLink own idx y ∈ GW) (h2 : Cond.instanceMethod y ∈ GW) (h3 : Cond.selects C y y ∈ GW) (h4 : Cond.initialized C ∈ GW) : GoodIn (a :: GW) (wsV own idx C y (b :: GW)) := by
  intro w hw
  have k : w ∈ GW := by
    simp only [wsV, List.mem_append, List.mem_cons, List.not_mem_nil, or_false] at hw
    rcases hw with (rfl | rfl | rfl | rfl) | rfl | hw <;> assumption
  exact ⟨List.mem_cons_of_mem _ k, (q_gw k).2⟩
theorem q_goodS {a b : Cond} {own : String} {idx : Nat} {y : MethodName} (hb : b ∈ GW) (h1 : Cond.methodLink own idx y ∈ GW) (h2 : Cond.static y ∈ GW) (h4 : Cond.initialized y.cls ∈ GW) : GoodIn (a :: GW) (va_wsS own idx y (b :: GW)) := by
  intro w hw
  have k : w ∈ GW := by
    simp only [va_wsS, List.mem_append, List.mem_cons, List.not_mem_nil, or_false] at hw
    rcases hw with (rfl | rfl | rfl) | rfl | hw <;> assumption
  exact ⟨List.mem_cons_of_mem _ k, (q_gw k).2⟩
abbrev b_JT_init : ByteArray := prog_1_method_1_code
def y_JT_init : MethodName := ({ cls := "JobTerminal", name := "<init>", desc := "()V" } : Jvm.MethodName)
abbrev w_JT_init : List Cond := .code y_JT_init b_JT_init 2 none :: GW
abbrev b_JT_program : ByteArray := prog_1_method_2_code
def y_JT_program : MethodName := ({ cls := "JobTerminal", name := "program", desc := "(IIII)Z" } : Jvm.MethodName)
abbrev w_JT_program : List Cond := .code y_JT_program b_JT_program 5 (some .boolean) :: GW
abbrev b_JT_flags : ByteArray := prog_1_method_3_code
def y_JT_flags : MethodName := ({ cls := "JobTerminal", name := "flags", desc := "(I)I" } : Jvm.MethodName)
abbrev w_JT_flags : List Cond := .code y_JT_flags b_JT_flags 3 (some .int) :: GW
abbrev b_JT_key : ByteArray := prog_1_method_4_code
def y_JT_key : MethodName := ({ cls := "JobTerminal", name := "key", desc := "(C)Z" } : Jvm.MethodName)
abbrev w_JT_key : List Cond := .code y_JT_key b_JT_key 4 (some .boolean) :: GW
abbrev b_JT_launch : ByteArray := prog_1_method_5_code
def y_JT_launch : MethodName := ({ cls := "JobTerminal", name := "launch", desc := "(IIZ)I" } : Jvm.MethodName)
abbrev w_JT_launch : List Cond := .code y_JT_launch b_JT_launch 8 (some .int) :: GW
abbrev b_JT_front : ByteArray := prog_1_method_6_code
def y_JT_front : MethodName := ({ cls := "JobTerminal", name := "front", desc := "(I)I" } : Jvm.MethodName)
abbrev w_JT_front : List Cond := .code y_JT_front b_JT_front 3 (some .int) :: GW
abbrev b_JT_back : ByteArray := prog_1_method_7_code
def y_JT_back : MethodName := ({ cls := "JobTerminal", name := "back", desc := "(I)I" } : Jvm.MethodName)
abbrev w_JT_back : List Cond := .code y_JT_back b_JT_back 3 (some .int) :: GW
abbrev b_JT_send : ByteArray := prog_1_method_8_code
def y_JT_send : MethodName := ({ cls := "JobTerminal", name := "send", desc := "(II)I" } : Jvm.MethodName)
abbrev w_JT_send : List Cond := .code y_JT_send b_JT_send 4 (some .int) :: GW
abbrev b_JT_report : ByteArray := prog_1_method_9_code
def y_JT_report : MethodName := ({ cls := "JobTerminal", name := "report", desc := "()I" } : Jvm.MethodName)
abbrev w_JT_report : List Cond := .code y_JT_report b_JT_report 3 (some .int) :: GW
abbrev b_JT_step : ByteArray := prog_1_method_10_code
def y_JT_step : MethodName := ({ cls := "JobTerminal", name := "step", desc := "(I)I" } : Jvm.MethodName)
abbrev w_JT_step : List Cond := .code y_JT_step b_JT_step 5 (some .int) :: GW
abbrev b_JT_tick : ByteArray := prog_1_method_11_code
def y_JT_tick : MethodName := ({ cls := "JobTerminal", name := "tick", desc := "()I" } : Jvm.MethodName)
abbrev w_JT_tick : List Cond := .code y_JT_tick b_JT_tick 4 (some .int) :: GW
abbrev b_JT_hang : ByteArray := prog_1_method_12_code
def y_JT_hang : MethodName := ({ cls := "JobTerminal", name := "hang", desc := "()Z" } : Jvm.MethodName)
abbrev w_JT_hang : List Cond := .code y_JT_hang b_JT_hang 3 (some .boolean) :: GW
abbrev b_JT_foreground : ByteArray := prog_1_method_13_code
def y_JT_foreground : MethodName := ({ cls := "JobTerminal", name := "foreground", desc := "()I" } : Jvm.MethodName)
abbrev w_JT_foreground : List Cond := .code y_JT_foreground b_JT_foreground 1 (some .int) :: GW
abbrev b_JT_job : ByteArray := prog_1_method_14_code
def y_JT_job : MethodName := ({ cls := "JobTerminal", name := "job", desc := "(I)I" } : Jvm.MethodName)
abbrev w_JT_job : List Cond := .code y_JT_job b_JT_job 3 (some .int) :: GW
abbrev b_JT_process : ByteArray := prog_1_method_15_code
def y_JT_process : MethodName := ({ cls := "JobTerminal", name := "process", desc := "(II)I" } : Jvm.MethodName)
abbrev w_JT_process : List Cond := .code y_JT_process b_JT_process 3 (some .int) :: GW
abbrev b_JT_shown : ByteArray := prog_1_method_16_code
def y_JT_shown : MethodName := ({ cls := "JobTerminal", name := "shown", desc := "()I" } : Jvm.MethodName)
abbrev w_JT_shown : List Cond := .code y_JT_shown b_JT_shown 1 (some .int) :: GW
abbrev b_JT_screen : ByteArray := prog_1_method_17_code
def y_JT_screen : MethodName := ({ cls := "JobTerminal", name := "screen", desc := "(I)I" } : Jvm.MethodName)
abbrev w_JT_screen : List Cond := .code y_JT_screen b_JT_screen 2 (some .int) :: GW
abbrev b_JT_held : ByteArray := prog_1_method_18_code
def y_JT_held : MethodName := ({ cls := "JobTerminal", name := "held", desc := "(I)I" } : Jvm.MethodName)
abbrev w_JT_held : List Cond := .code y_JT_held b_JT_held 3 (some .int) :: GW
abbrev b_JT_findJob : ByteArray := prog_1_method_19_code
def y_JT_findJob : MethodName := ({ cls := "JobTerminal", name := "findJob", desc := "(I)LJobTerminal$Job;" } : Jvm.MethodName)
abbrev w_JT_findJob : List Cond := .code y_JT_findJob b_JT_findJob 3 (some (.object "JobTerminal$Job")) :: GW
abbrev b_JT_unusedJob : ByteArray := prog_1_method_20_code
def y_JT_unusedJob : MethodName := ({ cls := "JobTerminal", name := "unusedJob", desc := "()LJobTerminal$Job;" } : Jvm.MethodName)
abbrev w_JT_unusedJob : List Cond := .code y_JT_unusedJob b_JT_unusedJob 2 (some (.object "JobTerminal$Job")) :: GW
abbrev b_JT_freeProcess : ByteArray := prog_1_method_21_code
def y_JT_freeProcess : MethodName := ({ cls := "JobTerminal", name := "freeProcess", desc := "(I)LJobTerminal$JobProcess;" } : Jvm.MethodName)
abbrev w_JT_freeProcess : List Cond := .code y_JT_freeProcess b_JT_freeProcess 4 (some (.object "JobTerminal$JobProcess")) :: GW
abbrev b_JT_sendAndSettle : ByteArray := prog_1_method_22_code
def y_JT_sendAndSettle : MethodName := ({ cls := "JobTerminal", name := "sendAndSettle", desc := "(LJobTerminal$Job;I)I" } : Jvm.MethodName)
abbrev w_JT_sendAndSettle : List Cond := .code y_JT_sendAndSettle b_JT_sendAndSettle 3 (some .int) :: GW
abbrev b_JT_settleAll : ByteArray := prog_1_method_23_code
def y_JT_settleAll : MethodName := ({ cls := "JobTerminal", name := "settleAll", desc := "()V" } : Jvm.MethodName)
abbrev w_JT_settleAll : List Cond := .code y_JT_settleAll b_JT_settleAll 2 none :: GW
abbrev b_JT_settle : ByteArray := prog_1_method_24_code
def y_JT_settle : MethodName := ({ cls := "JobTerminal", name := "settle", desc := "(LJobTerminal$Job;)V" } : Jvm.MethodName)
abbrev w_JT_settle : List Cond := .code y_JT_settle b_JT_settle 2 none :: GW
abbrev b_JT_tell : ByteArray := prog_1_method_25_code
def y_JT_tell : MethodName := ({ cls := "JobTerminal", name := "tell", desc := "(LJobTerminal$Job;)I" } : Jvm.MethodName)
abbrev w_JT_tell : List Cond := .code y_JT_tell b_JT_tell 3 (some .int) :: GW
abbrev b_JT_nextToGo : ByteArray := prog_1_method_26_code
def y_JT_nextToGo : MethodName := ({ cls := "JobTerminal", name := "nextToGo", desc := "()LJobTerminal$JobProcess;" } : Jvm.MethodName)
abbrev w_JT_nextToGo : List Cond := .code y_JT_nextToGo b_JT_nextToGo 3 (some (.object "JobTerminal$JobProcess")) :: GW
abbrev b_JT_canGoOn : ByteArray := prog_1_method_27_code
def y_JT_canGoOn : MethodName := ({ cls := "JobTerminal", name := "canGoOn", desc := "(LJobTerminal$JobProcess;)Z" } : Jvm.MethodName)
abbrev w_JT_canGoOn : List Cond := .code y_JT_canGoOn b_JT_canGoOn 2 (some .boolean) :: GW
abbrev b_JT_canRead : ByteArray := prog_1_method_28_code
def y_JT_canRead : MethodName := ({ cls := "JobTerminal", name := "canRead", desc := "(LJobTerminal$JobProcess;)Z" } : Jvm.MethodName)
abbrev w_JT_canRead : List Cond := .code y_JT_canRead b_JT_canRead 3 (some .boolean) :: GW
abbrev b_JT_canWrite : ByteArray := prog_1_method_29_code
def y_JT_canWrite : MethodName := ({ cls := "JobTerminal", name := "canWrite", desc := "(LJobTerminal$JobProcess;)Z" } : Jvm.MethodName)
abbrev w_JT_canWrite : List Cond := .code y_JT_canWrite b_JT_canWrite 3 (some .boolean) :: GW
abbrev b_JT_runLine : ByteArray := prog_1_method_30_code
def y_JT_runLine : MethodName := ({ cls := "JobTerminal", name := "runLine", desc := "(LJobTerminal$JobProcess;)Z" } : Jvm.MethodName)
abbrev w_JT_runLine : List Cond := .code y_JT_runLine b_JT_runLine 4 (some .boolean) :: GW
abbrev b_JT_read : ByteArray := prog_1_method_31_code
def y_JT_read : MethodName := ({ cls := "JobTerminal", name := "read", desc := "(LJobTerminal$JobProcess;)Z" } : Jvm.MethodName)
abbrev w_JT_read : List Cond := .code y_JT_read b_JT_read 3 (some .boolean) :: GW
abbrev b_JT_write : ByteArray := prog_1_method_32_code
def y_JT_write : MethodName := ({ cls := "JobTerminal", name := "write", desc := "(LJobTerminal$JobProcess;I)Z" } : Jvm.MethodName)
abbrev w_JT_write : List Cond := .code y_JT_write b_JT_write 4 (some .boolean) :: GW
abbrev b_JT_writeToPipe : ByteArray := prog_1_method_33_code
def y_JT_writeToPipe : MethodName := ({ cls := "JobTerminal", name := "writeToPipe", desc := "(LJobTerminal$Job;LJobTerminal$JobProcess;I)Z" } : Jvm.MethodName)
abbrev w_JT_writeToPipe : List Cond := .code y_JT_writeToPipe b_JT_writeToPipe 3 (some .boolean) :: GW
abbrev b_Mo_init : ByteArray := prog_9_method_1_code
def y_Mo_init : MethodName := ({ cls := "JobTerminalModel", name := "<init>", desc := "()V" } : Jvm.MethodName)
abbrev w_Mo_init : List Cond := .code y_Mo_init b_Mo_init 1 none :: GW
abbrev b_Mo_thrown : ByteArray := prog_9_method_2_code
def y_Mo_thrown : MethodName := ({ cls := "JobTerminalModel", name := "thrown", desc := "()I" } : Jvm.MethodName)
abbrev w_Mo_thrown : List Cond := .code y_Mo_thrown b_Mo_thrown 1 (some .int) :: GW
abbrev b_Mo_isJob : ByteArray := prog_9_method_3_code
def y_Mo_isJob : MethodName := ({ cls := "JobTerminalModel", name := "isJob", desc := "(I)Z" } : Jvm.MethodName)
abbrev w_Mo_isJob : List Cond := .code y_Mo_isJob b_Mo_isJob 2 (some .boolean) :: GW
abbrev b_Mo_stateOf : ByteArray := prog_9_method_4_code
def y_Mo_stateOf : MethodName := ({ cls := "JobTerminalModel", name := "stateOf", desc := "(I)I" } : Jvm.MethodName)
abbrev w_Mo_stateOf : List Cond := .code y_Mo_stateOf b_Mo_stateOf 4 (some .int) :: GW
abbrev b_Mo_compare : ByteArray := prog_9_method_5_code
def y_Mo_compare : MethodName := ({ cls := "JobTerminalModel", name := "compare", desc := "()V" } : Jvm.MethodName)
abbrev w_Mo_compare : List Cond := .code y_Mo_compare b_Mo_compare 2 none :: GW
abbrev b_Mo_has : ByteArray := prog_9_method_6_code
def y_Mo_has : MethodName := ({ cls := "JobTerminalModel", name := "has", desc := "(II)Z" } : Jvm.MethodName)
abbrev w_Mo_has : List Cond := .code y_Mo_has b_Mo_has 2 (some .boolean) :: GW
abbrev b_Mo_act : ByteArray := prog_9_method_7_code
def y_Mo_act : MethodName := ({ cls := "JobTerminalModel", name := "act", desc := "(II)V" } : Jvm.MethodName)
abbrev w_Mo_act : List Cond := .code y_Mo_act b_Mo_act 3 none :: GW
abbrev b_Mo_actPending : ByteArray := prog_9_method_8_code
def y_Mo_actPending : MethodName := ({ cls := "JobTerminalModel", name := "actPending", desc := "(I)V" } : Jvm.MethodName)
abbrev w_Mo_actPending : List Cond := .code y_Mo_actPending b_Mo_actPending 3 none :: GW
abbrev b_Mo_sendTo : ByteArray := prog_9_method_9_code
def y_Mo_sendTo : MethodName := ({ cls := "JobTerminalModel", name := "sendTo", desc := "(II)V" } : Jvm.MethodName)
abbrev w_Mo_sendTo : List Cond := .code y_Mo_sendTo b_Mo_sendTo 3 none :: GW
abbrev b_Mo_sendJob : ByteArray := prog_9_method_10_code
def y_Mo_sendJob : MethodName := ({ cls := "JobTerminalModel", name := "sendJob", desc := "(II)V" } : Jvm.MethodName)
abbrev w_Mo_sendJob : List Cond := .code y_Mo_sendJob b_Mo_sendJob 3 none :: GW
abbrev b_Mo_flagged : ByteArray := prog_9_method_11_code
def y_Mo_flagged : MethodName := ({ cls := "JobTerminalModel", name := "flagged", desc := "(I)Z" } : Jvm.MethodName)
abbrev w_Mo_flagged : List Cond := .code y_Mo_flagged b_Mo_flagged 2 (some .boolean) :: GW
abbrev b_Mo_put : ByteArray := prog_9_method_12_code
def y_Mo_put : MethodName := ({ cls := "JobTerminalModel", name := "put", desc := "(I)V" } : Jvm.MethodName)
abbrev w_Mo_put : List Cond := .code y_Mo_put b_Mo_put 2 none :: GW
abbrev b_Mo_show : ByteArray := prog_9_method_13_code
def y_Mo_show : MethodName := ({ cls := "JobTerminalModel", name := "show", desc := "(I)V" } : Jvm.MethodName)
abbrev w_Mo_show : List Cond := .code y_Mo_show b_Mo_show 2 none :: GW
abbrev b_Mo_echo : ByteArray := prog_9_method_14_code
def y_Mo_echo : MethodName := ({ cls := "JobTerminalModel", name := "echo", desc := "(I)V" } : Jvm.MethodName)
abbrev w_Mo_echo : List Cond := .code y_Mo_echo b_Mo_echo 2 none :: GW
abbrev b_Mo_rubOut : ByteArray := prog_9_method_15_code
def y_Mo_rubOut : MethodName := ({ cls := "JobTerminalModel", name := "rubOut", desc := "()V" } : Jvm.MethodName)
abbrev w_Mo_rubOut : List Cond := .code y_Mo_rubOut b_Mo_rubOut 3 none :: GW
abbrev b_Mo_enter : ByteArray := prog_9_method_16_code
def y_Mo_enter : MethodName := ({ cls := "JobTerminalModel", name := "enter", desc := "(II)Z" } : Jvm.MethodName)
abbrev w_Mo_enter : List Cond := .code y_Mo_enter b_Mo_enter 4 (some .boolean) :: GW
abbrev b_Mo_key : ByteArray := prog_9_method_17_code
def y_Mo_key : MethodName := ({ cls := "JobTerminalModel", name := "key", desc := "(C)Z" } : Jvm.MethodName)
abbrev w_Mo_key : List Cond := .code y_Mo_key b_Mo_key 4 (some .boolean) :: GW
abbrev b_Mo_keyOfLine : ByteArray := prog_9_method_18_code
def y_Mo_keyOfLine : MethodName := ({ cls := "JobTerminalModel", name := "keyOfLine", desc := "(I)Z" } : Jvm.MethodName)
abbrev w_Mo_keyOfLine : List Cond := .code y_Mo_keyOfLine b_Mo_keyOfLine 3 (some .boolean) :: GW
abbrev b_Mo_flags : ByteArray := prog_9_method_19_code
def y_Mo_flags : MethodName := ({ cls := "JobTerminalModel", name := "flags", desc := "(I)I" } : Jvm.MethodName)
abbrev w_Mo_flags : List Cond := .code y_Mo_flags b_Mo_flags 3 (some .int) :: GW
abbrev b_Mo_program : ByteArray := prog_9_method_20_code
def y_Mo_program : MethodName := ({ cls := "JobTerminalModel", name := "program", desc := "(IIII)Z" } : Jvm.MethodName)
abbrev w_Mo_program : List Cond := .code y_Mo_program b_Mo_program 5 (some .boolean) :: GW
abbrev b_Mo_begin : ByteArray := prog_9_method_21_code
def y_Mo_begin : MethodName := ({ cls := "JobTerminalModel", name := "begin", desc := "(II)I" } : Jvm.MethodName)
abbrev w_Mo_begin : List Cond := .code y_Mo_begin b_Mo_begin 4 (some .int) :: GW
abbrev b_Mo_launch : ByteArray := prog_9_method_22_code
def y_Mo_launch : MethodName := ({ cls := "JobTerminalModel", name := "launch", desc := "(IIZ)I" } : Jvm.MethodName)
abbrev w_Mo_launch : List Cond := .code y_Mo_launch b_Mo_launch 6 (some .int) :: GW
abbrev b_Mo_goOn : ByteArray := prog_9_method_23_code
def y_Mo_goOn : MethodName := ({ cls := "JobTerminalModel", name := "goOn", desc := "(I)I" } : Jvm.MethodName)
abbrev w_Mo_goOn : List Cond := .code y_Mo_goOn b_Mo_goOn 2 (some .int) :: GW
abbrev b_Mo_front : ByteArray := prog_9_method_24_code
def y_Mo_front : MethodName := ({ cls := "JobTerminalModel", name := "front", desc := "(I)I" } : Jvm.MethodName)
abbrev w_Mo_front : List Cond := .code y_Mo_front b_Mo_front 2 (some .int) :: GW
abbrev b_Mo_back : ByteArray := prog_9_method_25_code
def y_Mo_back : MethodName := ({ cls := "JobTerminalModel", name := "back", desc := "(I)I" } : Jvm.MethodName)
abbrev w_Mo_back : List Cond := .code y_Mo_back b_Mo_back 2 (some .int) :: GW
abbrev b_Mo_send : ByteArray := prog_9_method_26_code
def y_Mo_send : MethodName := ({ cls := "JobTerminalModel", name := "send", desc := "(II)I" } : Jvm.MethodName)
abbrev w_Mo_send : List Cond := .code y_Mo_send b_Mo_send 3 (some .int) :: GW
abbrev b_Mo_report : ByteArray := prog_9_method_27_code
def y_Mo_report : MethodName := ({ cls := "JobTerminalModel", name := "report", desc := "()I" } : Jvm.MethodName)
abbrev w_Mo_report : List Cond := .code y_Mo_report b_Mo_report 3 (some .int) :: GW
abbrev b_Mo_hang : ByteArray := prog_9_method_28_code
def y_Mo_hang : MethodName := ({ cls := "JobTerminalModel", name := "hang", desc := "()Z" } : Jvm.MethodName)
abbrev w_Mo_hang : List Cond := .code y_Mo_hang b_Mo_hang 3 (some .boolean) :: GW
abbrev b_Mo_opOf : ByteArray := prog_9_method_29_code
def y_Mo_opOf : MethodName := ({ cls := "JobTerminalModel", name := "opOf", desc := "(I)I" } : Jvm.MethodName)
abbrev w_Mo_opOf : List Cond := .code y_Mo_opOf b_Mo_opOf 3 (some .int) :: GW
abbrev b_Mo_numberOf : ByteArray := prog_9_method_30_code
def y_Mo_numberOf : MethodName := ({ cls := "JobTerminalModel", name := "numberOf", desc := "(I)I" } : Jvm.MethodName)
abbrev w_Mo_numberOf : List Cond := .code y_Mo_numberOf b_Mo_numberOf 2 (some .int) :: GW
abbrev b_Mo_readsPipe : ByteArray := prog_9_method_31_code
def y_Mo_readsPipe : MethodName := ({ cls := "JobTerminalModel", name := "readsPipe", desc := "(I)Z" } : Jvm.MethodName)
abbrev w_Mo_readsPipe : List Cond := .code y_Mo_readsPipe b_Mo_readsPipe 2 (some .boolean) :: GW
abbrev b_Mo_writesPipe : ByteArray := prog_9_method_32_code
def y_Mo_writesPipe : MethodName := ({ cls := "JobTerminalModel", name := "writesPipe", desc := "(I)Z" } : Jvm.MethodName)
abbrev w_Mo_writesPipe : List Cond := .code y_Mo_writesPipe b_Mo_writesPipe 2 (some .boolean) :: GW
abbrev b_Mo_writes : ByteArray := prog_9_method_33_code
def y_Mo_writes : MethodName := ({ cls := "JobTerminalModel", name := "writes", desc := "(I)Z" } : Jvm.MethodName)
abbrev w_Mo_writes : List Cond := .code y_Mo_writes b_Mo_writes 2 (some .boolean) :: GW
abbrev b_Mo_canGoOn : ByteArray := prog_9_method_34_code
def y_Mo_canGoOn : MethodName := ({ cls := "JobTerminalModel", name := "canGoOn", desc := "(I)Z" } : Jvm.MethodName)
abbrev w_Mo_canGoOn : List Cond := .code y_Mo_canGoOn b_Mo_canGoOn 3 (some .boolean) :: GW
abbrev b_Mo_fail : ByteArray := prog_9_method_35_code
def y_Mo_fail : MethodName := ({ cls := "JobTerminalModel", name := "fail", desc := "(I)V" } : Jvm.MethodName)
abbrev w_Mo_fail : List Cond := .code y_Mo_fail b_Mo_fail 2 none :: GW
abbrev b_Mo_read : ByteArray := prog_9_method_36_code
def y_Mo_read : MethodName := ({ cls := "JobTerminalModel", name := "read", desc := "(I)V" } : Jvm.MethodName)
abbrev w_Mo_read : List Cond := .code y_Mo_read b_Mo_read 4 none :: GW
abbrev b_Mo_write : ByteArray := prog_9_method_37_code
def y_Mo_write : MethodName := ({ cls := "JobTerminalModel", name := "write", desc := "(II)V" } : Jvm.MethodName)
abbrev w_Mo_write : List Cond := .code y_Mo_write b_Mo_write 4 none :: GW
abbrev b_Mo_perform : ByteArray := prog_9_method_38_code
def y_Mo_perform : MethodName := ({ cls := "JobTerminalModel", name := "perform", desc := "(I)V" } : Jvm.MethodName)
abbrev w_Mo_perform : List Cond := .code y_Mo_perform b_Mo_perform 4 none :: GW
abbrev b_Mo_plain : ByteArray := prog_9_method_39_code
def y_Mo_plain : MethodName := ({ cls := "JobTerminalModel", name := "plain", desc := "(III)V" } : Jvm.MethodName)
abbrev w_Mo_plain : List Cond := .code y_Mo_plain b_Mo_plain 4 none :: GW
abbrev b_Mo_step : ByteArray := prog_9_method_40_code
def y_Mo_step : MethodName := ({ cls := "JobTerminalModel", name := "step", desc := "(I)I" } : Jvm.MethodName)
abbrev w_Mo_step : List Cond := .code y_Mo_step b_Mo_step 6 (some .int) :: GW
abbrev b_Mo_tick : ByteArray := prog_9_method_41_code
def y_Mo_tick : MethodName := ({ cls := "JobTerminalModel", name := "tick", desc := "()I" } : Jvm.MethodName)
abbrev w_Mo_tick : List Cond := .code y_Mo_tick b_Mo_tick 3 (some .int) :: GW
abbrev b_Mo_foreground : ByteArray := prog_9_method_42_code
def y_Mo_foreground : MethodName := ({ cls := "JobTerminalModel", name := "foreground", desc := "()I" } : Jvm.MethodName)
abbrev w_Mo_foreground : List Cond := .code y_Mo_foreground b_Mo_foreground 1 (some .int) :: GW
abbrev b_Mo_job : ByteArray := prog_9_method_43_code
def y_Mo_job : MethodName := ({ cls := "JobTerminalModel", name := "job", desc := "(I)I" } : Jvm.MethodName)
abbrev w_Mo_job : List Cond := .code y_Mo_job b_Mo_job 2 (some .int) :: GW
abbrev b_Mo_process : ByteArray := prog_9_method_44_code
def y_Mo_process : MethodName := ({ cls := "JobTerminalModel", name := "process", desc := "(II)I" } : Jvm.MethodName)
abbrev w_Mo_process : List Cond := .code y_Mo_process b_Mo_process 3 (some .int) :: GW
abbrev b_Mo_shown : ByteArray := prog_9_method_45_code
def y_Mo_shown : MethodName := ({ cls := "JobTerminalModel", name := "shown", desc := "()I" } : Jvm.MethodName)
abbrev w_Mo_shown : List Cond := .code y_Mo_shown b_Mo_shown 1 (some .int) :: GW
abbrev b_Mo_screen : ByteArray := prog_9_method_46_code
def y_Mo_screen : MethodName := ({ cls := "JobTerminalModel", name := "screen", desc := "(I)I" } : Jvm.MethodName)
abbrev w_Mo_screen : List Cond := .code y_Mo_screen b_Mo_screen 2 (some .int) :: GW
abbrev b_Mo_held : ByteArray := prog_9_method_47_code
def y_Mo_held : MethodName := ({ cls := "JobTerminalModel", name := "held", desc := "(I)I" } : Jvm.MethodName)
abbrev w_Mo_held : List Cond := .code y_Mo_held b_Mo_held 3 (some .int) :: GW
abbrev b_Display_init : ByteArray := prog_2_method_1_code
def y_Display_init : MethodName := ({ cls := "JobTerminal$Display", name := "<init>", desc := "()V" } : Jvm.MethodName)
abbrev w_Display_init : List Cond := .code y_Display_init b_Display_init 1 none :: GW
abbrev b_Display_add : ByteArray := prog_2_method_2_code
def y_Display_add : MethodName := ({ cls := "JobTerminal$Display", name := "add", desc := "(I)V" } : Jvm.MethodName)
abbrev w_Display_add : List Cond := .code y_Display_add b_Display_add 2 none :: GW
abbrev b_Display_codeBefore : ByteArray := prog_2_method_3_code
def y_Display_codeBefore : MethodName := ({ cls := "JobTerminal$Display", name := "codeBefore", desc := "(I)I" } : Jvm.MethodName)
abbrev w_Display_codeBefore : List Cond := .code y_Display_codeBefore b_Display_codeBefore 4 (some .int) :: GW
abbrev b_Job_init : ByteArray := prog_3_method_1_code
def y_Job_init : MethodName := ({ cls := "JobTerminal$Job", name := "<init>", desc := "(I)V" } : Jvm.MethodName)
abbrev w_Job_init : List Cond := .code y_Job_init b_Job_init 2 none :: GW
abbrev b_Job_exists : ByteArray := prog_3_method_2_code
def y_Job_exists : MethodName := ({ cls := "JobTerminal$Job", name := "exists", desc := "()Z" } : Jvm.MethodName)
abbrev w_Job_exists : List Cond := .code y_Job_exists b_Job_exists 1 (some .boolean) :: GW
abbrev b_Job_begin : ByteArray := prog_3_method_3_code
def y_Job_begin : MethodName := ({ cls := "JobTerminal$Job", name := "begin", desc := "(LJobTerminal$JobProcess;LJobTerminal$JobProcess;)V" } : Jvm.MethodName)
abbrev w_Job_begin : List Cond := .code y_Job_begin b_Job_begin 3 none :: GW
abbrev b_Job_vanish : ByteArray := prog_3_method_4_code
def y_Job_vanish : MethodName := ({ cls := "JobTerminal$Job", name := "vanish", desc := "()V" } : Jvm.MethodName)
abbrev w_Job_vanish : List Cond := .code y_Job_vanish b_Job_vanish 1 none :: GW
abbrev b_Job_state : ByteArray := prog_3_method_5_code
def y_Job_state : MethodName := ({ cls := "JobTerminal$Job", name := "state", desc := "()I" } : Jvm.MethodName)
abbrev w_Job_state : List Cond := .code y_Job_state b_Job_state 1 (some .int) :: GW
abbrev b_Job_readsFromPipe : ByteArray := prog_3_method_6_code
def y_Job_readsFromPipe : MethodName := ({ cls := "JobTerminal$Job", name := "readsFromPipe", desc := "(LJobTerminal$JobProcess;)Z" } : Jvm.MethodName)
abbrev w_Job_readsFromPipe : List Cond := .code y_Job_readsFromPipe b_Job_readsFromPipe 2 (some .boolean) :: GW
abbrev b_Job_writesToPipe : ByteArray := prog_3_method_7_code
def y_Job_writesToPipe : MethodName := ({ cls := "JobTerminal$Job", name := "writesToPipe", desc := "(LJobTerminal$JobProcess;)Z" } : Jvm.MethodName)
abbrev w_Job_writesToPipe : List Cond := .code y_Job_writesToPipe b_Job_writesToPipe 2 (some .boolean) :: GW
abbrev b_Job_firstHasEnded : ByteArray := prog_3_method_8_code
def y_Job_firstHasEnded : MethodName := ({ cls := "JobTerminal$Job", name := "firstHasEnded", desc := "()Z" } : Jvm.MethodName)
abbrev w_Job_firstHasEnded : List Cond := .code y_Job_firstHasEnded b_Job_firstHasEnded 1 (some .boolean) :: GW
abbrev b_Job_secondHasEnded : ByteArray := prog_3_method_9_code
def y_Job_secondHasEnded : MethodName := ({ cls := "JobTerminal$Job", name := "secondHasEnded", desc := "()Z" } : Jvm.MethodName)
abbrev w_Job_secondHasEnded : List Cond := .code y_Job_secondHasEnded b_Job_secondHasEnded 1 (some .boolean) :: GW
abbrev b_Job_receive : ByteArray := prog_3_method_10_code
def y_Job_receive : MethodName := ({ cls := "JobTerminal$Job", name := "receive", desc := "(I)V" } : Jvm.MethodName)
abbrev w_Job_receive : List Cond := .code y_Job_receive b_Job_receive 2 none :: GW
abbrev b_Job_receiveHangUp : ByteArray := prog_3_method_11_code
def y_Job_receiveHangUp : MethodName := ({ cls := "JobTerminal$Job", name := "receiveHangUp", desc := "()V" } : Jvm.MethodName)
abbrev w_Job_receiveHangUp : List Cond := .code y_Job_receiveHangUp b_Job_receiveHangUp 1 none :: GW
abbrev b_JobProcess_init : ByteArray := prog_4_method_1_code
def y_JobProcess_init : MethodName := ({ cls := "JobTerminal$JobProcess", name := "<init>", desc := "()V" } : Jvm.MethodName)
abbrev w_JobProcess_init : List Cond := .code y_JobProcess_init b_JobProcess_init 1 none :: GW
abbrev b_JobProcess_begin : ByteArray := prog_4_method_2_code
def y_JobProcess_begin : MethodName := ({ cls := "JobTerminal$JobProcess", name := "begin", desc := "(LJobTerminal$Job;I)V" } : Jvm.MethodName)
abbrev w_JobProcess_begin : List Cond := .code y_JobProcess_begin b_JobProcess_begin 3 none :: GW
abbrev b_JobProcess_vanish : ByteArray := prog_4_method_3_code
def y_JobProcess_vanish : MethodName := ({ cls := "JobTerminal$JobProcess", name := "vanish", desc := "()V" } : Jvm.MethodName)
abbrev w_JobProcess_vanish : List Cond := .code y_JobProcess_vanish b_JobProcess_vanish 1 none :: GW
abbrev b_JobProcess_look : ByteArray := prog_4_method_4_code
def y_JobProcess_look : MethodName := ({ cls := "JobTerminal$JobProcess", name := "look", desc := "(I)I" } : Jvm.MethodName)
abbrev w_JobProcess_look : List Cond := .code y_JobProcess_look b_JobProcess_look 2 (some .int) :: GW
abbrev b_JobProcess_shuns : ByteArray := prog_4_method_5_code
def y_JobProcess_shuns : MethodName := ({ cls := "JobTerminal$JobProcess", name := "shuns", desc := "(I)Z" } : Jvm.MethodName)
abbrev w_JobProcess_shuns : List Cond := .code y_JobProcess_shuns b_JobProcess_shuns 2 (some .boolean) :: GW
abbrev b_JobProcess_receive : ByteArray := prog_4_method_6_code
def y_JobProcess_receive : MethodName := ({ cls := "JobTerminal$JobProcess", name := "receive", desc := "(I)V" } : Jvm.MethodName)
abbrev w_JobProcess_receive : List Cond := .code y_JobProcess_receive b_JobProcess_receive 3 none :: GW
abbrev b_JobProcess_actOnPending : ByteArray := prog_4_method_7_code
def y_JobProcess_actOnPending : MethodName := ({ cls := "JobTerminal$JobProcess", name := "actOnPending", desc := "()V" } : Jvm.MethodName)
abbrev w_JobProcess_actOnPending : List Cond := .code y_JobProcess_actOnPending b_JobProcess_actOnPending 2 none :: GW
abbrev b_JobProcess_act : ByteArray := prog_4_method_8_code
def y_JobProcess_act : MethodName := ({ cls := "JobTerminal$JobProcess", name := "act", desc := "(I)V" } : Jvm.MethodName)
abbrev w_JobProcess_act : List Cond := .code y_JobProcess_act b_JobProcess_act 2 none :: GW
abbrev b_JobProcess_take : ByteArray := prog_4_method_9_code
def y_JobProcess_take : MethodName := ({ cls := "JobTerminal$JobProcess", name := "take", desc := "(I)V" } : Jvm.MethodName)
abbrev w_JobProcess_take : List Cond := .code y_JobProcess_take b_JobProcess_take 2 none :: GW
abbrev b_JobProcess_fail : ByteArray := prog_4_method_10_code
def y_JobProcess_fail : MethodName := ({ cls := "JobTerminal$JobProcess", name := "fail", desc := "()V" } : Jvm.MethodName)
abbrev w_JobProcess_fail : List Cond := .code y_JobProcess_fail b_JobProcess_fail 1 none :: GW
abbrev b_JobProcess_runOwnOp : ByteArray := prog_4_method_11_code
def y_JobProcess_runOwnOp : MethodName := ({ cls := "JobTerminal$JobProcess", name := "runOwnOp", desc := "(II)V" } : Jvm.MethodName)
abbrev w_JobProcess_runOwnOp : List Cond := .code y_JobProcess_runOwnOp b_JobProcess_runOwnOp 4 none :: GW
abbrev b_NumberRow_init : ByteArray := prog_5_method_1_code
def y_NumberRow_init : MethodName := ({ cls := "JobTerminal$NumberRow", name := "<init>", desc := "(I)V" } : Jvm.MethodName)
abbrev w_NumberRow_init : List Cond := .code y_NumberRow_init b_NumberRow_init 2 none :: GW
abbrev b_NumberRow_hasRoomFor : ByteArray := prog_5_method_2_code
def y_NumberRow_hasRoomFor : MethodName := ({ cls := "JobTerminal$NumberRow", name := "hasRoomFor", desc := "(I)Z" } : Jvm.MethodName)
abbrev w_NumberRow_hasRoomFor : List Cond := .code y_NumberRow_hasRoomFor b_NumberRow_hasRoomFor 2 (some .boolean) :: GW
abbrev b_NumberRow_putLast : ByteArray := prog_5_method_3_code
def y_NumberRow_putLast : MethodName := ({ cls := "JobTerminal$NumberRow", name := "putLast", desc := "(I)V" } : Jvm.MethodName)
abbrev w_NumberRow_putLast : List Cond := .code y_NumberRow_putLast b_NumberRow_putLast 3 none :: GW
abbrev b_NumberRow_takeOldest : ByteArray := prog_5_method_4_code
def y_NumberRow_takeOldest : MethodName := ({ cls := "JobTerminal$NumberRow", name := "takeOldest", desc := "()I" } : Jvm.MethodName)
abbrev w_NumberRow_takeOldest : List Cond := .code y_NumberRow_takeOldest b_NumberRow_takeOldest 2 (some .int) :: GW
abbrev b_NumberRow_takeLatest : ByteArray := prog_5_method_5_code
def y_NumberRow_takeLatest : MethodName := ({ cls := "JobTerminal$NumberRow", name := "takeLatest", desc := "()I" } : Jvm.MethodName)
abbrev w_NumberRow_takeLatest : List Cond := .code y_NumberRow_takeLatest b_NumberRow_takeLatest 1 (some .int) :: GW
abbrev b_NumberRow_clear : ByteArray := prog_5_method_6_code
def y_NumberRow_clear : MethodName := ({ cls := "JobTerminal$NumberRow", name := "clear", desc := "()V" } : Jvm.MethodName)
abbrev w_NumberRow_clear : List Cond := .code y_NumberRow_clear b_NumberRow_clear 1 none :: GW
abbrev b_NumberRow_numberAt : ByteArray := prog_5_method_7_code
def y_NumberRow_numberAt : MethodName := ({ cls := "JobTerminal$NumberRow", name := "numberAt", desc := "(I)I" } : Jvm.MethodName)
abbrev w_NumberRow_numberAt : List Cond := .code y_NumberRow_numberAt b_NumberRow_numberAt 2 (some .int) :: GW
abbrev b_NumberRow_isPlace : ByteArray := prog_5_method_8_code
def y_NumberRow_isPlace : MethodName := ({ cls := "JobTerminal$NumberRow", name := "isPlace", desc := "(I)Z" } : Jvm.MethodName)
abbrev w_NumberRow_isPlace : List Cond := .code y_NumberRow_isPlace b_NumberRow_isPlace 2 (some .boolean) :: GW
abbrev b_NumberRow_placeOf : ByteArray := prog_5_method_9_code
def y_NumberRow_placeOf : MethodName := ({ cls := "JobTerminal$NumberRow", name := "placeOf", desc := "(I)I" } : Jvm.MethodName)
abbrev w_NumberRow_placeOf : List Cond := .code y_NumberRow_placeOf b_NumberRow_placeOf 3 (some .int) :: GW
abbrev b_Programs_init : ByteArray := prog_6_method_1_code
def y_Programs_init : MethodName := ({ cls := "JobTerminal$Programs", name := "<init>", desc := "()V" } : Jvm.MethodName)
abbrev w_Programs_init : List Cond := .code y_Programs_init b_Programs_init 1 none :: GW
abbrev b_Programs_hasProgram : ByteArray := prog_6_method_2_code
def y_Programs_hasProgram : MethodName := ({ cls := "JobTerminal$Programs", name := "hasProgram", desc := "(I)Z" } : Jvm.MethodName)
abbrev w_Programs_hasProgram : List Cond := .code y_Programs_hasProgram b_Programs_hasProgram 1 (some .boolean) :: GW
abbrev b_Programs_hasLine : ByteArray := prog_6_method_3_code
def y_Programs_hasLine : MethodName := ({ cls := "JobTerminal$Programs", name := "hasLine", desc := "(I)Z" } : Jvm.MethodName)
abbrev w_Programs_hasLine : List Cond := .code y_Programs_hasLine b_Programs_hasLine 1 (some .boolean) :: GW
abbrev b_Programs_setLine : ByteArray := prog_6_method_4_code
def y_Programs_setLine : MethodName := ({ cls := "JobTerminal$Programs", name := "setLine", desc := "(IIII)V" } : Jvm.MethodName)
abbrev w_Programs_setLine : List Cond := .code y_Programs_setLine b_Programs_setLine 5 none :: GW
abbrev b_Programs_opAt : ByteArray := prog_6_method_5_code
def y_Programs_opAt : MethodName := ({ cls := "JobTerminal$Programs", name := "opAt", desc := "(II)I" } : Jvm.MethodName)
abbrev w_Programs_opAt : List Cond := .code y_Programs_opAt b_Programs_opAt 4 (some .int) :: GW
abbrev b_Programs_numberAt : ByteArray := prog_6_method_6_code
def y_Programs_numberAt : MethodName := ({ cls := "JobTerminal$Programs", name := "numberAt", desc := "(II)I" } : Jvm.MethodName)
abbrev w_Programs_numberAt : List Cond := .code y_Programs_numberAt b_Programs_numberAt 3 (some .int) :: GW
abbrev b_Terminal_init : ByteArray := prog_7_method_1_code
def y_Terminal_init : MethodName := ({ cls := "JobTerminal$Terminal", name := "<init>", desc := "()V" } : Jvm.MethodName)
abbrev w_Terminal_init : List Cond := .code y_Terminal_init b_Terminal_init 1 none :: GW
abbrev b_Terminal_has : ByteArray := prog_7_method_2_code
def y_Terminal_has : MethodName := ({ cls := "JobTerminal$Terminal", name := "has", desc := "(I)Z" } : Jvm.MethodName)
abbrev w_Terminal_has : List Cond := .code y_Terminal_has b_Terminal_has 2 (some .boolean) :: GW
abbrev b_Terminal_hangUp : ByteArray := prog_7_method_3_code
def y_Terminal_hangUp : MethodName := ({ cls := "JobTerminal$Terminal", name := "hangUp", desc := "()V" } : Jvm.MethodName)
abbrev w_Terminal_hangUp : List Cond := .code y_Terminal_hangUp b_Terminal_hangUp 1 none :: GW
abbrev b_Terminal_translate : ByteArray := prog_7_method_4_code
def y_Terminal_translate : MethodName := ({ cls := "JobTerminal$Terminal", name := "translate", desc := "(I)I" } : Jvm.MethodName)
abbrev w_Terminal_translate : List Cond := .code y_Terminal_translate b_Terminal_translate 2 (some .int) :: GW
abbrev b_Terminal_signalFor : ByteArray := prog_7_method_5_code
def y_Terminal_signalFor : MethodName := ({ cls := "JobTerminal$Terminal", name := "signalFor", desc := "(I)I" } : Jvm.MethodName)
abbrev w_Terminal_signalFor : List Cond := .code y_Terminal_signalFor b_Terminal_signalFor 2 (some .int) :: GW
abbrev b_Terminal_dropEdit : ByteArray := prog_7_method_6_code
def y_Terminal_dropEdit : MethodName := ({ cls := "JobTerminal$Terminal", name := "dropEdit", desc := "(I)V" } : Jvm.MethodName)
abbrev w_Terminal_dropEdit : List Cond := .code y_Terminal_dropEdit b_Terminal_dropEdit 2 none :: GW
abbrev b_Terminal_type : ByteArray := prog_7_method_7_code
def y_Terminal_type : MethodName := ({ cls := "JobTerminal$Terminal", name := "type", desc := "(I)Z" } : Jvm.MethodName)
abbrev w_Terminal_type : List Cond := .code y_Terminal_type b_Terminal_type 2 (some .boolean) :: GW
abbrev b_Terminal_typeUnedited : ByteArray := prog_7_method_8_code
def y_Terminal_typeUnedited : MethodName := ({ cls := "JobTerminal$Terminal", name := "typeUnedited", desc := "(I)Z" } : Jvm.MethodName)
abbrev w_Terminal_typeUnedited : List Cond := .code y_Terminal_typeUnedited b_Terminal_typeUnedited 2 (some .boolean) :: GW
abbrev b_Terminal_addToEdit : ByteArray := prog_7_method_9_code
def y_Terminal_addToEdit : MethodName := ({ cls := "JobTerminal$Terminal", name := "addToEdit", desc := "(I)Z" } : Jvm.MethodName)
abbrev w_Terminal_addToEdit : List Cond := .code y_Terminal_addToEdit b_Terminal_addToEdit 2 (some .boolean) :: GW
abbrev b_Terminal_endInput : ByteArray := prog_7_method_10_code
def y_Terminal_endInput : MethodName := ({ cls := "JobTerminal$Terminal", name := "endInput", desc := "()Z" } : Jvm.MethodName)
abbrev w_Terminal_endInput : List Cond := .code y_Terminal_endInput b_Terminal_endInput 1 (some .boolean) :: GW
abbrev b_Terminal_endLine : ByteArray := prog_7_method_11_code
def y_Terminal_endLine : MethodName := ({ cls := "JobTerminal$Terminal", name := "endLine", desc := "()Z" } : Jvm.MethodName)
abbrev w_Terminal_endLine : List Cond := .code y_Terminal_endLine b_Terminal_endLine 1 (some .boolean) :: GW
abbrev b_Terminal_queueEdit : ByteArray := prog_7_method_12_code
def y_Terminal_queueEdit : MethodName := ({ cls := "JobTerminal$Terminal", name := "queueEdit", desc := "(I)Z" } : Jvm.MethodName)
abbrev w_Terminal_queueEdit : List Cond := .code y_Terminal_queueEdit b_Terminal_queueEdit 3 (some .boolean) :: GW
abbrev b_Terminal_rubOut : ByteArray := prog_7_method_13_code
def y_Terminal_rubOut : MethodName := ({ cls := "JobTerminal$Terminal", name := "rubOut", desc := "(I)V" } : Jvm.MethodName)
abbrev w_Terminal_rubOut : List Cond := .code y_Terminal_rubOut b_Terminal_rubOut 4 none :: GW
abbrev b_Terminal_showRubbing : ByteArray := prog_7_method_14_code
def y_Terminal_showRubbing : MethodName := ({ cls := "JobTerminal$Terminal", name := "showRubbing", desc := "()V" } : Jvm.MethodName)
abbrev w_Terminal_showRubbing : List Cond := .code y_Terminal_showRubbing b_Terminal_showRubbing 1 none :: GW
abbrev b_Terminal_echo : ByteArray := prog_7_method_15_code
def y_Terminal_echo : MethodName := ({ cls := "JobTerminal$Terminal", name := "echo", desc := "(I)V" } : Jvm.MethodName)
abbrev w_Terminal_echo : List Cond := .code y_Terminal_echo b_Terminal_echo 2 none :: GW
abbrev b_Terminal_show : ByteArray := prog_7_method_16_code
def y_Terminal_show : MethodName := ({ cls := "JobTerminal$Terminal", name := "show", desc := "(I)V" } : Jvm.MethodName)
abbrev w_Terminal_show : List Cond := .code y_Terminal_show b_Terminal_show 2 none :: GW
