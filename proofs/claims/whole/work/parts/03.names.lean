/-! the words of the tables that stay good; the classes' fields; array classes -/
def sdB0 : List Cond := lw_tbl.filter goodWord
theorem sdB0_good : ∀ w ∈ sdB0, goodWord w = true := fun w h => (List.mem_filter.mp h).2
theorem sd_tb1 {w : Cond} (i : Nat) (h : tables_1_1[i]? = some w) (g : goodWord w = true) : w ∈ sdB0 := List.mem_filter.mpr ⟨List.mem_append_right _ (show w ∈ tables_1 from List.mem_append_left _ (List.mem_of_getElem? h)), g⟩
theorem sd_tb2 {w : Cond} (i : Nat) (h : tables_1_2[i]? = some w) (g : goodWord w = true) : w ∈ sdB0 := List.mem_filter.mpr ⟨List.mem_append_right _ (show w ∈ tables_1 from List.mem_append_right _ (List.mem_append_left _ (List.mem_of_getElem? h))), g⟩
theorem sd_tb3 {w : Cond} (i : Nat) (h : tables_1_3[i]? = some w) (g : goodWord w = true) : w ∈ sdB0 := List.mem_filter.mpr ⟨List.mem_append_right _ (show w ∈ tables_1 from List.mem_append_right _ (List.mem_append_right _ (List.mem_append_left _ (List.mem_of_getElem? h)))), g⟩
theorem sd_tb4 {w : Cond} (i : Nat) (h : tables_1_4[i]? = some w) (g : goodWord w = true) : w ∈ sdB0 := List.mem_filter.mpr ⟨List.mem_append_right _ (show w ∈ tables_1 from List.mem_append_right _ (List.mem_append_right _ (List.mem_append_right _ (List.mem_append_left _ (List.mem_of_getElem? h))))), g⟩
theorem sd_tb5 {w : Cond} (i : Nat) (h : tables_1_5[i]? = some w) (g : goodWord w = true) : w ∈ sdB0 := List.mem_filter.mpr ⟨List.mem_append_right _ (show w ∈ tables_1 from List.mem_append_right _ (List.mem_append_right _ (List.mem_append_right _ (List.mem_append_right _ (List.mem_of_getElem? h))))), g⟩
theorem sd_tbp {q : MethodName × Nat} (h : q ∈ lw_privs) : Cond.selects q.1.cls q.1 q.1 ∈ sdB0 := List.mem_filter.mpr ⟨List.mem_append_left _ (List.mem_map.mpr ⟨q, h, rfl⟩), rfl⟩
theorem sd_goodB {c c' : Cond} (h : c' ∈ sdB0) : GoodIn (c :: sdB0) (c' :: sdB0) := by
  intro w hw
  have hm : w ∈ sdB0 := by
    rcases List.mem_cons.mp hw with rfl | h1
    · exact h
    · exact h1
  exact ⟨List.mem_cons_of_mem _ hm, good_of_word (sdB0_good w hm)⟩
theorem sd_good1 {c w : Cond} (h : w ∈ sdB0) : w ∈ c :: sdB0 ∧ ((w.onTables && w.keeps) = true ∨ ∃ ty, w = .arrayClass ty) := ⟨List.mem_cons_of_mem _ h, good_of_word (sdB0_good w h)⟩
theorem sd_goodV {c c' : Cond} {own C : String} {idx : Nat} {y : MethodName} (h1 : Cond.methodLink own idx y ∈ sdB0) (h2 : Cond.instanceMethod y ∈ sdB0) (h3 : Cond.selects C y y ∈ sdB0) (h4 : Cond.initialized C ∈ sdB0) (h5 : c' ∈ sdB0) : GoodIn (c :: sdB0) (wsV own idx C y (c' :: sdB0)) := by
  intro w hw
  rcases List.mem_append.mp hw with h | h
  · simp only [List.mem_cons, List.not_mem_nil, or_false] at h
    rcases h with rfl | rfl | rfl | rfl
    · exact sd_good1 h1
    · exact sd_good1 h2
    · exact sd_good1 h3
    · exact sd_good1 h4
  · exact sd_goodB h5 w h
theorem sd_goodS {c c' : Cond} {own : String} {idx : Nat} {y : MethodName} (h1 : Cond.methodLink own idx y ∈ sdB0) (h2 : Cond.static y ∈ sdB0) (h4 : Cond.initialized y.cls ∈ sdB0) (h5 : c' ∈ sdB0) : GoodIn (c :: sdB0) (va_wsS own idx y (c' :: sdB0)) := by
  intro w hw
  rcases List.mem_append.mp hw with h | h
  · simp only [List.mem_cons, List.not_mem_nil, or_false] at h
    rcases h with rfl | rfl | rfl
    · exact sd_good1 h1
    · exact sd_good1 h2
    · exact sd_good1 h4
  · exact sd_goodB h5 w h
def T_D : u_T := fun k => match k with
  | 0 => ("SettingsDesk", "schema", "LSettingsDesk$Schema;", true)
  | 1 => ("SettingsDesk", "running", "LSettingsDesk$Settings;", true)
  | 2 => ("SettingsDesk", "saved", "LSettingsDesk$Settings;", true)
  | 3 => ("SettingsDesk", "outcome", "LSettingsDesk$Settings;", true)
  | 4 => ("SettingsDesk", "older", "[LSettingsDesk$Settings;", true)
  | 5 => ("SettingsDesk", "sessions", "[LSettingsDesk$Session;", true)
  | 6 => ("SettingsDesk", "trouble", "LSettingsDesk$Trouble;", true)
  | 7 => ("SettingsDesk", "changes", "I", false)
  | 8 => ("SettingsDesk", "ticksLeft", "I", false)
  | 9 => ("SettingsDesk", "lockOwner", "I", false)
  | 10 => ("SettingsDesk", "powerOff", "Z", false)
  | _ => ("SettingsDesk", "pagesToFailure", "I", false)
def ty_D : Nat → FieldType := fun k => match k with
  | 0 => .object "SettingsDesk$Schema"
  | 1 => .object "SettingsDesk$Settings"
  | 2 => .object "SettingsDesk$Settings"
  | 3 => .object "SettingsDesk$Settings"
  | 4 => .array (.object "SettingsDesk$Settings")
  | 5 => .array (.object "SettingsDesk$Session")
  | 6 => .object "SettingsDesk$Trouble"
  | 7 => .int
  | 8 => .int
  | 9 => .int
  | 10 => .boolean
  | _ => .int
theorem ty_D_ok : ∀ k, k < 12 → parseFieldDescriptor (T_D k).2.2.1 = some (ty_D k) := by decide +kernel
theorem nm_D : ∀ a, a < 12 → ∀ b, b < 12 → a ≠ b → (T_D a).2.1 ≠ (T_D b).2.1 := by decide +kernel
theorem l_D_0 : (.laysFinal "SettingsDesk" "SettingsDesk" "schema" "LSettingsDesk$Schema;" : Cond) ∈ sdB0 := sd_tb1 212 rfl rfl
theorem l_D_1 : (.laysFinal "SettingsDesk" "SettingsDesk" "running" "LSettingsDesk$Settings;" : Cond) ∈ sdB0 := sd_tb1 214 rfl rfl
theorem l_D_2 : (.laysFinal "SettingsDesk" "SettingsDesk" "saved" "LSettingsDesk$Settings;" : Cond) ∈ sdB0 := sd_tb1 216 rfl rfl
theorem l_D_3 : (.laysFinal "SettingsDesk" "SettingsDesk" "outcome" "LSettingsDesk$Settings;" : Cond) ∈ sdB0 := sd_tb1 218 rfl rfl
theorem l_D_4 : (.laysFinal "SettingsDesk" "SettingsDesk" "older" "[LSettingsDesk$Settings;" : Cond) ∈ sdB0 := sd_tb1 220 rfl rfl
theorem l_D_5 : (.laysFinal "SettingsDesk" "SettingsDesk" "sessions" "[LSettingsDesk$Session;" : Cond) ∈ sdB0 := sd_tb1 222 rfl rfl
theorem l_D_6 : (.laysFinal "SettingsDesk" "SettingsDesk" "trouble" "LSettingsDesk$Trouble;" : Cond) ∈ sdB0 := sd_tb1 224 rfl rfl
theorem l_D_7 : (.lays "SettingsDesk" "SettingsDesk" "changes" "I" : Cond) ∈ sdB0 := sd_tb1 226 rfl rfl
theorem l_D_8 : (.lays "SettingsDesk" "SettingsDesk" "ticksLeft" "I" : Cond) ∈ sdB0 := sd_tb1 228 rfl rfl
theorem l_D_9 : (.lays "SettingsDesk" "SettingsDesk" "lockOwner" "I" : Cond) ∈ sdB0 := sd_tb1 230 rfl rfl
theorem l_D_10 : (.lays "SettingsDesk" "SettingsDesk" "powerOff" "Z" : Cond) ∈ sdB0 := sd_tb1 232 rfl rfl
theorem l_D_11 : (.lays "SettingsDesk" "SettingsDesk" "pagesToFailure" "I" : Cond) ∈ sdB0 := sd_tb1 234 rfl rfl
theorem lay_D {c : Cond} : ∀ w ∈ u_ws "SettingsDesk" T_D 12, w ∈ c :: sdB0 := by
  show ∀ w ∈ ([.laysFinal "SettingsDesk" "SettingsDesk" "schema" "LSettingsDesk$Schema;", .laysFinal "SettingsDesk" "SettingsDesk" "running" "LSettingsDesk$Settings;", .laysFinal "SettingsDesk" "SettingsDesk" "saved" "LSettingsDesk$Settings;", .laysFinal "SettingsDesk" "SettingsDesk" "outcome" "LSettingsDesk$Settings;", .laysFinal "SettingsDesk" "SettingsDesk" "older" "[LSettingsDesk$Settings;", .laysFinal "SettingsDesk" "SettingsDesk" "sessions" "[LSettingsDesk$Session;", .laysFinal "SettingsDesk" "SettingsDesk" "trouble" "LSettingsDesk$Trouble;", .lays "SettingsDesk" "SettingsDesk" "changes" "I", .lays "SettingsDesk" "SettingsDesk" "ticksLeft" "I", .lays "SettingsDesk" "SettingsDesk" "lockOwner" "I", .lays "SettingsDesk" "SettingsDesk" "powerOff" "Z", .lays "SettingsDesk" "SettingsDesk" "pagesToFailure" "I"] : List Cond), w ∈ c :: sdB0
  exact List.forall_mem_cons.mpr ⟨List.mem_cons_of_mem _ l_D_0, List.forall_mem_cons.mpr ⟨List.mem_cons_of_mem _ l_D_1, List.forall_mem_cons.mpr ⟨List.mem_cons_of_mem _ l_D_2, List.forall_mem_cons.mpr ⟨List.mem_cons_of_mem _ l_D_3, List.forall_mem_cons.mpr ⟨List.mem_cons_of_mem _ l_D_4, List.forall_mem_cons.mpr ⟨List.mem_cons_of_mem _ l_D_5, List.forall_mem_cons.mpr ⟨List.mem_cons_of_mem _ l_D_6, List.forall_mem_cons.mpr ⟨List.mem_cons_of_mem _ l_D_7, List.forall_mem_cons.mpr ⟨List.mem_cons_of_mem _ l_D_8, List.forall_mem_cons.mpr ⟨List.mem_cons_of_mem _ l_D_9, List.forall_mem_cons.mpr ⟨List.mem_cons_of_mem _ l_D_10, List.forall_mem_cons.mpr ⟨List.mem_cons_of_mem _ l_D_11, fun _ h => absurd h List.not_mem_nil⟩⟩⟩⟩⟩⟩⟩⟩⟩⟩⟩⟩
def T_C : u_T := fun k => match k with
  | 0 => ("SettingsDesk$Schema", "isReady", "Z", false)
  | 1 => ("SettingsDesk$Schema", "lists", "I", false)
  | 2 => ("SettingsDesk$Schema", "leaves", "[I", true)
  | 3 => ("SettingsDesk$Schema", "leafTable", "[LSettingsDesk$Leaf;", true)
  | 4 => ("SettingsDesk$Schema", "ruleCount", "I", false)
  | _ => ("SettingsDesk$Schema", "rules", "[LSettingsDesk$Rule;", true)
def ty_C : Nat → FieldType := fun k => match k with
  | 0 => .boolean
  | 1 => .int
  | 2 => .array .int
  | 3 => .array (.object "SettingsDesk$Leaf")
  | 4 => .int
  | _ => .array (.object "SettingsDesk$Rule")
theorem ty_C_ok : ∀ k, k < 6 → parseFieldDescriptor (T_C k).2.2.1 = some (ty_C k) := by decide +kernel
theorem nm_C : ∀ a, a < 6 → ∀ b, b < 6 → a ≠ b → (T_C a).2.1 ≠ (T_C b).2.1 := by decide +kernel
theorem l_C_0 : (.lays "SettingsDesk$Schema" "SettingsDesk$Schema" "isReady" "Z" : Cond) ∈ sdB0 := sd_tb1 118 rfl rfl
theorem l_C_1 : (.lays "SettingsDesk$Schema" "SettingsDesk$Schema" "lists" "I" : Cond) ∈ sdB0 := sd_tb1 120 rfl rfl
theorem l_C_2 : (.laysFinal "SettingsDesk$Schema" "SettingsDesk$Schema" "leaves" "[I" : Cond) ∈ sdB0 := sd_tb1 122 rfl rfl
theorem l_C_3 : (.laysFinal "SettingsDesk$Schema" "SettingsDesk$Schema" "leafTable" "[LSettingsDesk$Leaf;" : Cond) ∈ sdB0 := sd_tb1 124 rfl rfl
theorem l_C_4 : (.lays "SettingsDesk$Schema" "SettingsDesk$Schema" "ruleCount" "I" : Cond) ∈ sdB0 := sd_tb1 126 rfl rfl
theorem l_C_5 : (.laysFinal "SettingsDesk$Schema" "SettingsDesk$Schema" "rules" "[LSettingsDesk$Rule;" : Cond) ∈ sdB0 := sd_tb1 128 rfl rfl
theorem lay_C {c : Cond} : ∀ w ∈ u_ws "SettingsDesk$Schema" T_C 6, w ∈ c :: sdB0 := by
  show ∀ w ∈ ([.lays "SettingsDesk$Schema" "SettingsDesk$Schema" "isReady" "Z", .lays "SettingsDesk$Schema" "SettingsDesk$Schema" "lists" "I", .laysFinal "SettingsDesk$Schema" "SettingsDesk$Schema" "leaves" "[I", .laysFinal "SettingsDesk$Schema" "SettingsDesk$Schema" "leafTable" "[LSettingsDesk$Leaf;", .lays "SettingsDesk$Schema" "SettingsDesk$Schema" "ruleCount" "I", .laysFinal "SettingsDesk$Schema" "SettingsDesk$Schema" "rules" "[LSettingsDesk$Rule;"] : List Cond), w ∈ c :: sdB0
  exact List.forall_mem_cons.mpr ⟨List.mem_cons_of_mem _ l_C_0, List.forall_mem_cons.mpr ⟨List.mem_cons_of_mem _ l_C_1, List.forall_mem_cons.mpr ⟨List.mem_cons_of_mem _ l_C_2, List.forall_mem_cons.mpr ⟨List.mem_cons_of_mem _ l_C_3, List.forall_mem_cons.mpr ⟨List.mem_cons_of_mem _ l_C_4, List.forall_mem_cons.mpr ⟨List.mem_cons_of_mem _ l_C_5, fun _ h => absurd h List.not_mem_nil⟩⟩⟩⟩⟩⟩
def T_S : u_T := fun k => match k with
  | 0 => ("SettingsDesk$Settings", "counts", "[I", true)
  | 1 => ("SettingsDesk$Settings", "keys", "[I", true)
  | 2 => ("SettingsDesk$Settings", "values", "[I", true)
  | _ => ("SettingsDesk$Settings", "given", "[I", true)
def ty_S : Nat → FieldType := fun k => match k with
  | 0 => .array .int
  | 1 => .array .int
  | 2 => .array .int
  | _ => .array .int
theorem ty_S_ok : ∀ k, k < 4 → parseFieldDescriptor (T_S k).2.2.1 = some (ty_S k) := by decide +kernel
theorem nm_S : ∀ a, a < 4 → ∀ b, b < 4 → a ≠ b → (T_S a).2.1 ≠ (T_S b).2.1 := by decide +kernel
theorem l_S_0 : (.laysFinal "SettingsDesk$Settings" "SettingsDesk$Settings" "counts" "[I" : Cond) ∈ sdB0 := sd_tb1 144 rfl rfl
theorem l_S_1 : (.laysFinal "SettingsDesk$Settings" "SettingsDesk$Settings" "keys" "[I" : Cond) ∈ sdB0 := sd_tb1 146 rfl rfl
theorem l_S_2 : (.laysFinal "SettingsDesk$Settings" "SettingsDesk$Settings" "values" "[I" : Cond) ∈ sdB0 := sd_tb1 148 rfl rfl
theorem l_S_3 : (.laysFinal "SettingsDesk$Settings" "SettingsDesk$Settings" "given" "[I" : Cond) ∈ sdB0 := sd_tb1 150 rfl rfl
theorem lay_S {c : Cond} : ∀ w ∈ u_ws "SettingsDesk$Settings" T_S 4, w ∈ c :: sdB0 := by
  show ∀ w ∈ ([.laysFinal "SettingsDesk$Settings" "SettingsDesk$Settings" "counts" "[I", .laysFinal "SettingsDesk$Settings" "SettingsDesk$Settings" "keys" "[I", .laysFinal "SettingsDesk$Settings" "SettingsDesk$Settings" "values" "[I", .laysFinal "SettingsDesk$Settings" "SettingsDesk$Settings" "given" "[I"] : List Cond), w ∈ c :: sdB0
  exact List.forall_mem_cons.mpr ⟨List.mem_cons_of_mem _ l_S_0, List.forall_mem_cons.mpr ⟨List.mem_cons_of_mem _ l_S_1, List.forall_mem_cons.mpr ⟨List.mem_cons_of_mem _ l_S_2, List.forall_mem_cons.mpr ⟨List.mem_cons_of_mem _ l_S_3, fun _ h => absurd h List.not_mem_nil⟩⟩⟩⟩
def T_N : u_T := fun k => match k with
  | 0 => ("SettingsDesk$Session", "begun", "Z", false)
  | 1 => ("SettingsDesk$Session", "candidate", "LSettingsDesk$Settings;", true)
  | _ => ("SettingsDesk$Session", "base", "LSettingsDesk$Settings;", true)
def ty_N : Nat → FieldType := fun k => match k with
  | 0 => .boolean
  | 1 => .object "SettingsDesk$Settings"
  | _ => .object "SettingsDesk$Settings"
theorem ty_N_ok : ∀ k, k < 3 → parseFieldDescriptor (T_N k).2.2.1 = some (ty_N k) := by decide +kernel
theorem nm_N : ∀ a, a < 3 → ∀ b, b < 3 → a ≠ b → (T_N a).2.1 ≠ (T_N b).2.1 := by decide +kernel
theorem l_N_0 : (.lays "SettingsDesk$Session" "SettingsDesk$Session" "begun" "Z" : Cond) ∈ sdB0 := sd_tb1 193 rfl rfl
theorem l_N_1 : (.laysFinal "SettingsDesk$Session" "SettingsDesk$Session" "candidate" "LSettingsDesk$Settings;" : Cond) ∈ sdB0 := sd_tb1 195 rfl rfl
theorem l_N_2 : (.laysFinal "SettingsDesk$Session" "SettingsDesk$Session" "base" "LSettingsDesk$Settings;" : Cond) ∈ sdB0 := sd_tb1 197 rfl rfl
theorem lay_N {c : Cond} : ∀ w ∈ u_ws "SettingsDesk$Session" T_N 3, w ∈ c :: sdB0 := by
  show ∀ w ∈ ([.lays "SettingsDesk$Session" "SettingsDesk$Session" "begun" "Z", .laysFinal "SettingsDesk$Session" "SettingsDesk$Session" "candidate" "LSettingsDesk$Settings;", .laysFinal "SettingsDesk$Session" "SettingsDesk$Session" "base" "LSettingsDesk$Settings;"] : List Cond), w ∈ c :: sdB0
  exact List.forall_mem_cons.mpr ⟨List.mem_cons_of_mem _ l_N_0, List.forall_mem_cons.mpr ⟨List.mem_cons_of_mem _ l_N_1, List.forall_mem_cons.mpr ⟨List.mem_cons_of_mem _ l_N_2, fun _ h => absurd h List.not_mem_nil⟩⟩⟩
def T_T : u_T := fun k => match k with
  | 0 => ("SettingsDesk$Trouble", "fault", "I", false)
  | 1 => ("SettingsDesk$Trouble", "atList", "I", false)
  | 2 => ("SettingsDesk$Trouble", "atKey", "I", false)
  | _ => ("SettingsDesk$Trouble", "atPart", "I", false)
def ty_T : Nat → FieldType := fun k => match k with
  | 0 => .int
  | 1 => .int
  | 2 => .int
  | _ => .int
theorem ty_T_ok : ∀ k, k < 4 → parseFieldDescriptor (T_T k).2.2.1 = some (ty_T k) := by decide +kernel
theorem nm_T : ∀ a, a < 4 → ∀ b, b < 4 → a ≠ b → (T_T a).2.1 ≠ (T_T b).2.1 := by decide +kernel
theorem l_T_0 : (.lays "SettingsDesk$Trouble" "SettingsDesk$Trouble" "fault" "I" : Cond) ∈ sdB0 := sd_tb1 170 rfl rfl
theorem l_T_1 : (.lays "SettingsDesk$Trouble" "SettingsDesk$Trouble" "atList" "I" : Cond) ∈ sdB0 := sd_tb1 172 rfl rfl
theorem l_T_2 : (.lays "SettingsDesk$Trouble" "SettingsDesk$Trouble" "atKey" "I" : Cond) ∈ sdB0 := sd_tb1 174 rfl rfl
theorem l_T_3 : (.lays "SettingsDesk$Trouble" "SettingsDesk$Trouble" "atPart" "I" : Cond) ∈ sdB0 := sd_tb1 176 rfl rfl
theorem lay_T {c : Cond} : ∀ w ∈ u_ws "SettingsDesk$Trouble" T_T 4, w ∈ c :: sdB0 := by
  show ∀ w ∈ ([.lays "SettingsDesk$Trouble" "SettingsDesk$Trouble" "fault" "I", .lays "SettingsDesk$Trouble" "SettingsDesk$Trouble" "atList" "I", .lays "SettingsDesk$Trouble" "SettingsDesk$Trouble" "atKey" "I", .lays "SettingsDesk$Trouble" "SettingsDesk$Trouble" "atPart" "I"] : List Cond), w ∈ c :: sdB0
  exact List.forall_mem_cons.mpr ⟨List.mem_cons_of_mem _ l_T_0, List.forall_mem_cons.mpr ⟨List.mem_cons_of_mem _ l_T_1, List.forall_mem_cons.mpr ⟨List.mem_cons_of_mem _ l_T_2, List.forall_mem_cons.mpr ⟨List.mem_cons_of_mem _ l_T_3, fun _ h => absurd h List.not_mem_nil⟩⟩⟩⟩
def T_F : u_T := fun k => match k with
  | 0 => ("SettingsDesk$Leaf", "isReference", "Z", false)
  | 1 => ("SettingsDesk$Leaf", "low", "I", false)
  | 2 => ("SettingsDesk$Leaf", "high", "I", false)
  | 3 => ("SettingsDesk$Leaf", "required", "Z", false)
  | 4 => ("SettingsDesk$Leaf", "unique", "Z", false)
  | 5 => ("SettingsDesk$Leaf", "hasStandard", "Z", false)
  | _ => ("SettingsDesk$Leaf", "standardValue", "I", false)
def ty_F : Nat → FieldType := fun k => match k with
  | 0 => .boolean
  | 1 => .int
  | 2 => .int
  | 3 => .boolean
  | 4 => .boolean
  | 5 => .boolean
  | _ => .int
theorem ty_F_ok : ∀ k, k < 7 → parseFieldDescriptor (T_F k).2.2.1 = some (ty_F k) := by decide +kernel
theorem nm_F : ∀ a, a < 7 → ∀ b, b < 7 → a ≠ b → (T_F a).2.1 ≠ (T_F b).2.1 := by decide +kernel
theorem l_F_0 : (.lays "SettingsDesk$Leaf" "SettingsDesk$Leaf" "isReference" "Z" : Cond) ∈ sdB0 := sd_tb1 62 rfl rfl
theorem l_F_1 : (.lays "SettingsDesk$Leaf" "SettingsDesk$Leaf" "low" "I" : Cond) ∈ sdB0 := sd_tb1 64 rfl rfl
theorem l_F_2 : (.lays "SettingsDesk$Leaf" "SettingsDesk$Leaf" "high" "I" : Cond) ∈ sdB0 := sd_tb1 66 rfl rfl
theorem l_F_3 : (.lays "SettingsDesk$Leaf" "SettingsDesk$Leaf" "required" "Z" : Cond) ∈ sdB0 := sd_tb1 68 rfl rfl
theorem l_F_4 : (.lays "SettingsDesk$Leaf" "SettingsDesk$Leaf" "unique" "Z" : Cond) ∈ sdB0 := sd_tb1 70 rfl rfl
theorem l_F_5 : (.lays "SettingsDesk$Leaf" "SettingsDesk$Leaf" "hasStandard" "Z" : Cond) ∈ sdB0 := sd_tb1 72 rfl rfl
theorem l_F_6 : (.lays "SettingsDesk$Leaf" "SettingsDesk$Leaf" "standardValue" "I" : Cond) ∈ sdB0 := sd_tb1 74 rfl rfl
theorem lay_F {c : Cond} : ∀ w ∈ u_ws "SettingsDesk$Leaf" T_F 7, w ∈ c :: sdB0 := by
  show ∀ w ∈ ([.lays "SettingsDesk$Leaf" "SettingsDesk$Leaf" "isReference" "Z", .lays "SettingsDesk$Leaf" "SettingsDesk$Leaf" "low" "I", .lays "SettingsDesk$Leaf" "SettingsDesk$Leaf" "high" "I", .lays "SettingsDesk$Leaf" "SettingsDesk$Leaf" "required" "Z", .lays "SettingsDesk$Leaf" "SettingsDesk$Leaf" "unique" "Z", .lays "SettingsDesk$Leaf" "SettingsDesk$Leaf" "hasStandard" "Z", .lays "SettingsDesk$Leaf" "SettingsDesk$Leaf" "standardValue" "I"] : List Cond), w ∈ c :: sdB0
  exact List.forall_mem_cons.mpr ⟨List.mem_cons_of_mem _ l_F_0, List.forall_mem_cons.mpr ⟨List.mem_cons_of_mem _ l_F_1, List.forall_mem_cons.mpr ⟨List.mem_cons_of_mem _ l_F_2, List.forall_mem_cons.mpr ⟨List.mem_cons_of_mem _ l_F_3, List.forall_mem_cons.mpr ⟨List.mem_cons_of_mem _ l_F_4, List.forall_mem_cons.mpr ⟨List.mem_cons_of_mem _ l_F_5, List.forall_mem_cons.mpr ⟨List.mem_cons_of_mem _ l_F_6, fun _ h => absurd h List.not_mem_nil⟩⟩⟩⟩⟩⟩⟩
def T_R : u_T := fun k => match k with
  | 0 => ("SettingsDesk$Rule", "ofList", "I", false)
  | 1 => ("SettingsDesk$Rule", "a", "I", false)
  | 2 => ("SettingsDesk$Rule", "value", "I", false)
  | 3 => ("SettingsDesk$Rule", "b", "I", false)
  | _ => ("SettingsDesk$Rule", "there", "Z", false)
def ty_R : Nat → FieldType := fun k => match k with
  | 0 => .int
  | 1 => .int
  | 2 => .int
  | 3 => .int
  | _ => .boolean
theorem ty_R_ok : ∀ k, k < 5 → parseFieldDescriptor (T_R k).2.2.1 = some (ty_R k) := by decide +kernel
theorem nm_R : ∀ a, a < 5 → ∀ b, b < 5 → a ≠ b → (T_R a).2.1 ≠ (T_R b).2.1 := by decide +kernel
theorem l_R_0 : (.lays "SettingsDesk$Rule" "SettingsDesk$Rule" "ofList" "I" : Cond) ∈ sdB0 := sd_tb1 93 rfl rfl
theorem l_R_1 : (.lays "SettingsDesk$Rule" "SettingsDesk$Rule" "a" "I" : Cond) ∈ sdB0 := sd_tb1 95 rfl rfl
theorem l_R_2 : (.lays "SettingsDesk$Rule" "SettingsDesk$Rule" "value" "I" : Cond) ∈ sdB0 := sd_tb1 97 rfl rfl
theorem l_R_3 : (.lays "SettingsDesk$Rule" "SettingsDesk$Rule" "b" "I" : Cond) ∈ sdB0 := sd_tb1 99 rfl rfl
theorem l_R_4 : (.lays "SettingsDesk$Rule" "SettingsDesk$Rule" "there" "Z" : Cond) ∈ sdB0 := sd_tb1 101 rfl rfl
theorem lay_R {c : Cond} : ∀ w ∈ u_ws "SettingsDesk$Rule" T_R 5, w ∈ c :: sdB0 := by
  show ∀ w ∈ ([.lays "SettingsDesk$Rule" "SettingsDesk$Rule" "ofList" "I", .lays "SettingsDesk$Rule" "SettingsDesk$Rule" "a" "I", .lays "SettingsDesk$Rule" "SettingsDesk$Rule" "value" "I", .lays "SettingsDesk$Rule" "SettingsDesk$Rule" "b" "I", .lays "SettingsDesk$Rule" "SettingsDesk$Rule" "there" "Z"] : List Cond), w ∈ c :: sdB0
  exact List.forall_mem_cons.mpr ⟨List.mem_cons_of_mem _ l_R_0, List.forall_mem_cons.mpr ⟨List.mem_cons_of_mem _ l_R_1, List.forall_mem_cons.mpr ⟨List.mem_cons_of_mem _ l_R_2, List.forall_mem_cons.mpr ⟨List.mem_cons_of_mem _ l_R_3, List.forall_mem_cons.mpr ⟨List.mem_cons_of_mem _ l_R_4, fun _ h => absurd h List.not_mem_nil⟩⟩⟩⟩⟩
def T_G : u_T := fun k => match k with
  | 0 => ("SettingsDesk$Merge", "candidate", "LSettingsDesk$Settings;", true)
  | 1 => ("SettingsDesk$Merge", "base", "LSettingsDesk$Settings;", true)
  | 2 => ("SettingsDesk$Merge", "running", "LSettingsDesk$Settings;", true)
  | 3 => ("SettingsDesk$Merge", "outcome", "LSettingsDesk$Settings;", true)
  | _ => ("SettingsDesk$Merge", "trouble", "LSettingsDesk$Trouble;", true)
def ty_G : Nat → FieldType := fun k => match k with
  | 0 => .object "SettingsDesk$Settings"
  | 1 => .object "SettingsDesk$Settings"
  | 2 => .object "SettingsDesk$Settings"
  | 3 => .object "SettingsDesk$Settings"
  | _ => .object "SettingsDesk$Trouble"
theorem ty_G_ok : ∀ k, k < 5 → parseFieldDescriptor (T_G k).2.2.1 = some (ty_G k) := by decide +kernel
theorem nm_G : ∀ a, a < 5 → ∀ b, b < 5 → a ≠ b → (T_G a).2.1 ≠ (T_G b).2.1 := by decide +kernel
theorem l_G_0 : (.laysFinal "SettingsDesk$Merge" "SettingsDesk$Merge" "candidate" "LSettingsDesk$Settings;" : Cond) ∈ sdB0 := sd_tb3 221 rfl rfl
theorem l_G_1 : (.laysFinal "SettingsDesk$Merge" "SettingsDesk$Merge" "base" "LSettingsDesk$Settings;" : Cond) ∈ sdB0 := sd_tb3 223 rfl rfl
theorem l_G_2 : (.laysFinal "SettingsDesk$Merge" "SettingsDesk$Merge" "running" "LSettingsDesk$Settings;" : Cond) ∈ sdB0 := sd_tb3 225 rfl rfl
theorem l_G_3 : (.laysFinal "SettingsDesk$Merge" "SettingsDesk$Merge" "outcome" "LSettingsDesk$Settings;" : Cond) ∈ sdB0 := sd_tb3 227 rfl rfl
theorem l_G_4 : (.laysFinal "SettingsDesk$Merge" "SettingsDesk$Merge" "trouble" "LSettingsDesk$Trouble;" : Cond) ∈ sdB0 := sd_tb3 229 rfl rfl
theorem lay_G {c : Cond} : ∀ w ∈ u_ws "SettingsDesk$Merge" T_G 5, w ∈ c :: sdB0 := by
  show ∀ w ∈ ([.laysFinal "SettingsDesk$Merge" "SettingsDesk$Merge" "candidate" "LSettingsDesk$Settings;", .laysFinal "SettingsDesk$Merge" "SettingsDesk$Merge" "base" "LSettingsDesk$Settings;", .laysFinal "SettingsDesk$Merge" "SettingsDesk$Merge" "running" "LSettingsDesk$Settings;", .laysFinal "SettingsDesk$Merge" "SettingsDesk$Merge" "outcome" "LSettingsDesk$Settings;", .laysFinal "SettingsDesk$Merge" "SettingsDesk$Merge" "trouble" "LSettingsDesk$Trouble;"] : List Cond), w ∈ c :: sdB0
  exact List.forall_mem_cons.mpr ⟨List.mem_cons_of_mem _ l_G_0, List.forall_mem_cons.mpr ⟨List.mem_cons_of_mem _ l_G_1, List.forall_mem_cons.mpr ⟨List.mem_cons_of_mem _ l_G_2, List.forall_mem_cons.mpr ⟨List.mem_cons_of_mem _ l_G_3, List.forall_mem_cons.mpr ⟨List.mem_cons_of_mem _ l_G_4, fun _ h => absurd h List.not_mem_nil⟩⟩⟩⟩⟩
def T_K : u_T := fun k => match k with
  | 0 => ("SettingsDesk$Check", "schema", "LSettingsDesk$Schema;", true)
  | 1 => ("SettingsDesk$Check", "settings", "LSettingsDesk$Settings;", true)
  | _ => ("SettingsDesk$Check", "trouble", "LSettingsDesk$Trouble;", true)
def ty_K : Nat → FieldType := fun k => match k with
  | 0 => .object "SettingsDesk$Schema"
  | 1 => .object "SettingsDesk$Settings"
  | _ => .object "SettingsDesk$Trouble"
theorem ty_K_ok : ∀ k, k < 3 → parseFieldDescriptor (T_K k).2.2.1 = some (ty_K k) := by decide +kernel
theorem nm_K : ∀ a, a < 3 → ∀ b, b < 3 → a ≠ b → (T_K a).2.1 ≠ (T_K b).2.1 := by decide +kernel
theorem l_K_0 : (.laysFinal "SettingsDesk$Check" "SettingsDesk$Check" "schema" "LSettingsDesk$Schema;" : Cond) ∈ sdB0 := sd_tb3 13 rfl rfl
theorem l_K_1 : (.laysFinal "SettingsDesk$Check" "SettingsDesk$Check" "settings" "LSettingsDesk$Settings;" : Cond) ∈ sdB0 := sd_tb3 15 rfl rfl
theorem l_K_2 : (.laysFinal "SettingsDesk$Check" "SettingsDesk$Check" "trouble" "LSettingsDesk$Trouble;" : Cond) ∈ sdB0 := sd_tb3 17 rfl rfl
theorem lay_K {c : Cond} : ∀ w ∈ u_ws "SettingsDesk$Check" T_K 3, w ∈ c :: sdB0 := by
  show ∀ w ∈ ([.laysFinal "SettingsDesk$Check" "SettingsDesk$Check" "schema" "LSettingsDesk$Schema;", .laysFinal "SettingsDesk$Check" "SettingsDesk$Check" "settings" "LSettingsDesk$Settings;", .laysFinal "SettingsDesk$Check" "SettingsDesk$Check" "trouble" "LSettingsDesk$Trouble;"] : List Cond), w ∈ c :: sdB0
  exact List.forall_mem_cons.mpr ⟨List.mem_cons_of_mem _ l_K_0, List.forall_mem_cons.mpr ⟨List.mem_cons_of_mem _ l_K_1, List.forall_mem_cons.mpr ⟨List.mem_cons_of_mem _ l_K_2, fun _ h => absurd h List.not_mem_nil⟩⟩⟩
def T_E : u_T := fun k => match k with
  | 0 => ("SettingsDesk$Difference", "candidate", "LSettingsDesk$Settings;", true)
  | 1 => ("SettingsDesk$Difference", "running", "LSettingsDesk$Settings;", true)
  | 2 => ("SettingsDesk$Difference", "toPass", "I", false)
  | 3 => ("SettingsDesk$Difference", "found", "Z", false)
  | 4 => ("SettingsDesk$Difference", "atList", "I", false)
  | 5 => ("SettingsDesk$Difference", "atKey", "I", false)
  | 6 => ("SettingsDesk$Difference", "atLeaf", "I", false)
  | _ => ("SettingsDesk$Difference", "kind", "I", false)
def ty_E : Nat → FieldType := fun k => match k with
  | 0 => .object "SettingsDesk$Settings"
  | 1 => .object "SettingsDesk$Settings"
  | 2 => .int
  | 3 => .boolean
  | 4 => .int
  | 5 => .int
  | 6 => .int
  | _ => .int
theorem ty_E_ok : ∀ k, k < 8 → parseFieldDescriptor (T_E k).2.2.1 = some (ty_E k) := by decide +kernel
theorem nm_E : ∀ a, a < 8 → ∀ b, b < 8 → a ≠ b → (T_E a).2.1 ≠ (T_E b).2.1 := by decide +kernel
theorem l_E_0 : (.laysFinal "SettingsDesk$Difference" "SettingsDesk$Difference" "candidate" "LSettingsDesk$Settings;" : Cond) ∈ sdB0 := sd_tb4 89 rfl rfl
theorem l_E_1 : (.laysFinal "SettingsDesk$Difference" "SettingsDesk$Difference" "running" "LSettingsDesk$Settings;" : Cond) ∈ sdB0 := sd_tb4 91 rfl rfl
theorem l_E_2 : (.lays "SettingsDesk$Difference" "SettingsDesk$Difference" "toPass" "I" : Cond) ∈ sdB0 := sd_tb4 93 rfl rfl
theorem l_E_3 : (.lays "SettingsDesk$Difference" "SettingsDesk$Difference" "found" "Z" : Cond) ∈ sdB0 := sd_tb4 95 rfl rfl
theorem l_E_4 : (.lays "SettingsDesk$Difference" "SettingsDesk$Difference" "atList" "I" : Cond) ∈ sdB0 := sd_tb4 97 rfl rfl
theorem l_E_5 : (.lays "SettingsDesk$Difference" "SettingsDesk$Difference" "atKey" "I" : Cond) ∈ sdB0 := sd_tb4 99 rfl rfl
theorem l_E_6 : (.lays "SettingsDesk$Difference" "SettingsDesk$Difference" "atLeaf" "I" : Cond) ∈ sdB0 := sd_tb4 101 rfl rfl
theorem l_E_7 : (.lays "SettingsDesk$Difference" "SettingsDesk$Difference" "kind" "I" : Cond) ∈ sdB0 := sd_tb4 103 rfl rfl
theorem lay_E {c : Cond} : ∀ w ∈ u_ws "SettingsDesk$Difference" T_E 8, w ∈ c :: sdB0 := by
  show ∀ w ∈ ([.laysFinal "SettingsDesk$Difference" "SettingsDesk$Difference" "candidate" "LSettingsDesk$Settings;", .laysFinal "SettingsDesk$Difference" "SettingsDesk$Difference" "running" "LSettingsDesk$Settings;", .lays "SettingsDesk$Difference" "SettingsDesk$Difference" "toPass" "I", .lays "SettingsDesk$Difference" "SettingsDesk$Difference" "found" "Z", .lays "SettingsDesk$Difference" "SettingsDesk$Difference" "atList" "I", .lays "SettingsDesk$Difference" "SettingsDesk$Difference" "atKey" "I", .lays "SettingsDesk$Difference" "SettingsDesk$Difference" "atLeaf" "I", .lays "SettingsDesk$Difference" "SettingsDesk$Difference" "kind" "I"] : List Cond), w ∈ c :: sdB0
  exact List.forall_mem_cons.mpr ⟨List.mem_cons_of_mem _ l_E_0, List.forall_mem_cons.mpr ⟨List.mem_cons_of_mem _ l_E_1, List.forall_mem_cons.mpr ⟨List.mem_cons_of_mem _ l_E_2, List.forall_mem_cons.mpr ⟨List.mem_cons_of_mem _ l_E_3, List.forall_mem_cons.mpr ⟨List.mem_cons_of_mem _ l_E_4, List.forall_mem_cons.mpr ⟨List.mem_cons_of_mem _ l_E_5, List.forall_mem_cons.mpr ⟨List.mem_cons_of_mem _ l_E_6, List.forall_mem_cons.mpr ⟨List.mem_cons_of_mem _ l_E_7, fun _ h => absurd h List.not_mem_nil⟩⟩⟩⟩⟩⟩⟩⟩
def T_O : u_T := fun k => match k with
  | 0 => ("SettingsDeskModel", "thrown", "I", false)
  | 1 => ("SettingsDeskModel", "ready", "Z", false)
  | 2 => ("SettingsDeskModel", "lists", "I", false)
  | 3 => ("SettingsDeskModel", "leaves", "[I", true)
  | 4 => ("SettingsDeskModel", "refers", "[Z", true)
  | 5 => ("SettingsDeskModel", "lows", "[I", true)
  | 6 => ("SettingsDeskModel", "highs", "[I", true)
  | 7 => ("SettingsDeskModel", "flags", "[I", true)
  | 8 => ("SettingsDeskModel", "hasStandard", "[Z", true)
  | 9 => ("SettingsDeskModel", "standards", "[I", true)
  | 10 => ("SettingsDeskModel", "rules", "I", false)
  | 11 => ("SettingsDeskModel", "ruleList", "[I", true)
  | 12 => ("SettingsDeskModel", "ruleA", "[I", true)
  | 13 => ("SettingsDeskModel", "ruleValue", "[I", true)
  | 14 => ("SettingsDeskModel", "ruleB", "[I", true)
  | 15 => ("SettingsDeskModel", "ruleThere", "[Z", true)
  | 16 => ("SettingsDeskModel", "sizes", "[I", true)
  | 17 => ("SettingsDeskModel", "keys", "[I", true)
  | 18 => ("SettingsDeskModel", "bits", "[I", true)
  | 19 => ("SettingsDeskModel", "values", "[I", true)
  | 20 => ("SettingsDeskModel", "older", "I", false)
  | 21 => ("SettingsDeskModel", "changes", "I", false)
  | 22 => ("SettingsDeskModel", "begun", "[Z", true)
  | 23 => ("SettingsDeskModel", "holder", "I", false)
  | 24 => ("SettingsDeskModel", "waits", "I", false)
  | 25 => ("SettingsDeskModel", "off", "Z", false)
  | 26 => ("SettingsDeskModel", "failing", "I", false)
  | 27 => ("SettingsDeskModel", "fault", "I", false)
  | 28 => ("SettingsDeskModel", "faultList", "I", false)
  | 29 => ("SettingsDeskModel", "faultKey", "I", false)
  | 30 => ("SettingsDeskModel", "faultLeaf", "I", false)
  | 31 => ("SettingsDeskModel", "foundList", "I", false)
  | 32 => ("SettingsDeskModel", "foundKey", "I", false)
  | 33 => ("SettingsDeskModel", "foundLeaf", "I", false)
  | _ => ("SettingsDeskModel", "foundKind", "I", false)
def ty_O : Nat → FieldType := fun k => match k with
  | 0 => .int
  | 1 => .boolean
  | 2 => .int
  | 3 => .array .int
  | 4 => .array .boolean
  | 5 => .array .int
  | 6 => .array .int
  | 7 => .array .int
  | 8 => .array .boolean
  | 9 => .array .int
  | 10 => .int
  | 11 => .array .int
  | 12 => .array .int
  | 13 => .array .int
  | 14 => .array .int
  | 15 => .array .boolean
  | 16 => .array .int
  | 17 => .array .int
  | 18 => .array .int
  | 19 => .array .int
  | 20 => .int
  | 21 => .int
  | 22 => .array .boolean
  | 23 => .int
  | 24 => .int
  | 25 => .boolean
  | 26 => .int
  | 27 => .int
  | 28 => .int
  | 29 => .int
  | 30 => .int
  | 31 => .int
  | 32 => .int
  | 33 => .int
  | _ => .int
theorem ty_O_ok : ∀ k, k < 35 → parseFieldDescriptor (T_O k).2.2.1 = some (ty_O k) := by decide +kernel
theorem nm_O : ∀ a, a < 35 → ∀ b, b < 35 → a ≠ b → (T_O a).2.1 ≠ (T_O b).2.1 := by decide +kernel
theorem l_O_0 : (.lays "SettingsDeskModel" "SettingsDeskModel" "thrown" "I" : Cond) ∈ sdB0 := sd_tb4 194 rfl rfl
theorem l_O_1 : (.lays "SettingsDeskModel" "SettingsDeskModel" "ready" "Z" : Cond) ∈ sdB0 := sd_tb4 196 rfl rfl
theorem l_O_2 : (.lays "SettingsDeskModel" "SettingsDeskModel" "lists" "I" : Cond) ∈ sdB0 := sd_tb4 198 rfl rfl
theorem l_O_3 : (.laysFinal "SettingsDeskModel" "SettingsDeskModel" "leaves" "[I" : Cond) ∈ sdB0 := sd_tb4 200 rfl rfl
theorem l_O_4 : (.laysFinal "SettingsDeskModel" "SettingsDeskModel" "refers" "[Z" : Cond) ∈ sdB0 := sd_tb4 202 rfl rfl
theorem l_O_5 : (.laysFinal "SettingsDeskModel" "SettingsDeskModel" "lows" "[I" : Cond) ∈ sdB0 := sd_tb4 204 rfl rfl
theorem l_O_6 : (.laysFinal "SettingsDeskModel" "SettingsDeskModel" "highs" "[I" : Cond) ∈ sdB0 := sd_tb4 206 rfl rfl
theorem l_O_7 : (.laysFinal "SettingsDeskModel" "SettingsDeskModel" "flags" "[I" : Cond) ∈ sdB0 := sd_tb4 208 rfl rfl
theorem l_O_8 : (.laysFinal "SettingsDeskModel" "SettingsDeskModel" "hasStandard" "[Z" : Cond) ∈ sdB0 := sd_tb4 210 rfl rfl
theorem l_O_9 : (.laysFinal "SettingsDeskModel" "SettingsDeskModel" "standards" "[I" : Cond) ∈ sdB0 := sd_tb4 212 rfl rfl
theorem l_O_10 : (.lays "SettingsDeskModel" "SettingsDeskModel" "rules" "I" : Cond) ∈ sdB0 := sd_tb4 214 rfl rfl
theorem l_O_11 : (.laysFinal "SettingsDeskModel" "SettingsDeskModel" "ruleList" "[I" : Cond) ∈ sdB0 := sd_tb4 216 rfl rfl
theorem l_O_12 : (.laysFinal "SettingsDeskModel" "SettingsDeskModel" "ruleA" "[I" : Cond) ∈ sdB0 := sd_tb4 218 rfl rfl
theorem l_O_13 : (.laysFinal "SettingsDeskModel" "SettingsDeskModel" "ruleValue" "[I" : Cond) ∈ sdB0 := sd_tb4 220 rfl rfl
theorem l_O_14 : (.laysFinal "SettingsDeskModel" "SettingsDeskModel" "ruleB" "[I" : Cond) ∈ sdB0 := sd_tb4 222 rfl rfl
theorem l_O_15 : (.laysFinal "SettingsDeskModel" "SettingsDeskModel" "ruleThere" "[Z" : Cond) ∈ sdB0 := sd_tb4 224 rfl rfl
theorem l_O_16 : (.laysFinal "SettingsDeskModel" "SettingsDeskModel" "sizes" "[I" : Cond) ∈ sdB0 := sd_tb4 226 rfl rfl
theorem l_O_17 : (.laysFinal "SettingsDeskModel" "SettingsDeskModel" "keys" "[I" : Cond) ∈ sdB0 := sd_tb4 228 rfl rfl
theorem l_O_18 : (.laysFinal "SettingsDeskModel" "SettingsDeskModel" "bits" "[I" : Cond) ∈ sdB0 := sd_tb4 230 rfl rfl
theorem l_O_19 : (.laysFinal "SettingsDeskModel" "SettingsDeskModel" "values" "[I" : Cond) ∈ sdB0 := sd_tb4 232 rfl rfl
theorem l_O_20 : (.lays "SettingsDeskModel" "SettingsDeskModel" "older" "I" : Cond) ∈ sdB0 := sd_tb4 234 rfl rfl
theorem l_O_21 : (.lays "SettingsDeskModel" "SettingsDeskModel" "changes" "I" : Cond) ∈ sdB0 := sd_tb4 236 rfl rfl
theorem l_O_22 : (.laysFinal "SettingsDeskModel" "SettingsDeskModel" "begun" "[Z" : Cond) ∈ sdB0 := sd_tb4 238 rfl rfl
theorem l_O_23 : (.lays "SettingsDeskModel" "SettingsDeskModel" "holder" "I" : Cond) ∈ sdB0 := sd_tb5 0 rfl rfl
theorem l_O_24 : (.lays "SettingsDeskModel" "SettingsDeskModel" "waits" "I" : Cond) ∈ sdB0 := sd_tb5 2 rfl rfl
theorem l_O_25 : (.lays "SettingsDeskModel" "SettingsDeskModel" "off" "Z" : Cond) ∈ sdB0 := sd_tb5 4 rfl rfl
theorem l_O_26 : (.lays "SettingsDeskModel" "SettingsDeskModel" "failing" "I" : Cond) ∈ sdB0 := sd_tb5 6 rfl rfl
theorem l_O_27 : (.lays "SettingsDeskModel" "SettingsDeskModel" "fault" "I" : Cond) ∈ sdB0 := sd_tb5 8 rfl rfl
theorem l_O_28 : (.lays "SettingsDeskModel" "SettingsDeskModel" "faultList" "I" : Cond) ∈ sdB0 := sd_tb5 10 rfl rfl
theorem l_O_29 : (.lays "SettingsDeskModel" "SettingsDeskModel" "faultKey" "I" : Cond) ∈ sdB0 := sd_tb5 12 rfl rfl
theorem l_O_30 : (.lays "SettingsDeskModel" "SettingsDeskModel" "faultLeaf" "I" : Cond) ∈ sdB0 := sd_tb5 14 rfl rfl
theorem l_O_31 : (.lays "SettingsDeskModel" "SettingsDeskModel" "foundList" "I" : Cond) ∈ sdB0 := sd_tb5 16 rfl rfl
theorem l_O_32 : (.lays "SettingsDeskModel" "SettingsDeskModel" "foundKey" "I" : Cond) ∈ sdB0 := sd_tb5 18 rfl rfl
theorem l_O_33 : (.lays "SettingsDeskModel" "SettingsDeskModel" "foundLeaf" "I" : Cond) ∈ sdB0 := sd_tb5 20 rfl rfl
theorem l_O_34 : (.lays "SettingsDeskModel" "SettingsDeskModel" "foundKind" "I" : Cond) ∈ sdB0 := sd_tb5 22 rfl rfl
theorem lay_O {c : Cond} : ∀ w ∈ u_ws "SettingsDeskModel" T_O 35, w ∈ c :: sdB0 := by
  show ∀ w ∈ ([.lays "SettingsDeskModel" "SettingsDeskModel" "thrown" "I", .lays "SettingsDeskModel" "SettingsDeskModel" "ready" "Z", .lays "SettingsDeskModel" "SettingsDeskModel" "lists" "I", .laysFinal "SettingsDeskModel" "SettingsDeskModel" "leaves" "[I", .laysFinal "SettingsDeskModel" "SettingsDeskModel" "refers" "[Z", .laysFinal "SettingsDeskModel" "SettingsDeskModel" "lows" "[I", .laysFinal "SettingsDeskModel" "SettingsDeskModel" "highs" "[I", .laysFinal "SettingsDeskModel" "SettingsDeskModel" "flags" "[I", .laysFinal "SettingsDeskModel" "SettingsDeskModel" "hasStandard" "[Z", .laysFinal "SettingsDeskModel" "SettingsDeskModel" "standards" "[I", .lays "SettingsDeskModel" "SettingsDeskModel" "rules" "I", .laysFinal "SettingsDeskModel" "SettingsDeskModel" "ruleList" "[I", .laysFinal "SettingsDeskModel" "SettingsDeskModel" "ruleA" "[I", .laysFinal "SettingsDeskModel" "SettingsDeskModel" "ruleValue" "[I", .laysFinal "SettingsDeskModel" "SettingsDeskModel" "ruleB" "[I", .laysFinal "SettingsDeskModel" "SettingsDeskModel" "ruleThere" "[Z", .laysFinal "SettingsDeskModel" "SettingsDeskModel" "sizes" "[I", .laysFinal "SettingsDeskModel" "SettingsDeskModel" "keys" "[I", .laysFinal "SettingsDeskModel" "SettingsDeskModel" "bits" "[I", .laysFinal "SettingsDeskModel" "SettingsDeskModel" "values" "[I", .lays "SettingsDeskModel" "SettingsDeskModel" "older" "I", .lays "SettingsDeskModel" "SettingsDeskModel" "changes" "I", .laysFinal "SettingsDeskModel" "SettingsDeskModel" "begun" "[Z", .lays "SettingsDeskModel" "SettingsDeskModel" "holder" "I", .lays "SettingsDeskModel" "SettingsDeskModel" "waits" "I", .lays "SettingsDeskModel" "SettingsDeskModel" "off" "Z", .lays "SettingsDeskModel" "SettingsDeskModel" "failing" "I", .lays "SettingsDeskModel" "SettingsDeskModel" "fault" "I", .lays "SettingsDeskModel" "SettingsDeskModel" "faultList" "I", .lays "SettingsDeskModel" "SettingsDeskModel" "faultKey" "I", .lays "SettingsDeskModel" "SettingsDeskModel" "faultLeaf" "I", .lays "SettingsDeskModel" "SettingsDeskModel" "foundList" "I", .lays "SettingsDeskModel" "SettingsDeskModel" "foundKey" "I", .lays "SettingsDeskModel" "SettingsDeskModel" "foundLeaf" "I", .lays "SettingsDeskModel" "SettingsDeskModel" "foundKind" "I"] : List Cond), w ∈ c :: sdB0
  exact List.forall_mem_cons.mpr ⟨List.mem_cons_of_mem _ l_O_0, List.forall_mem_cons.mpr ⟨List.mem_cons_of_mem _ l_O_1, List.forall_mem_cons.mpr ⟨List.mem_cons_of_mem _ l_O_2, List.forall_mem_cons.mpr ⟨List.mem_cons_of_mem _ l_O_3, List.forall_mem_cons.mpr ⟨List.mem_cons_of_mem _ l_O_4, List.forall_mem_cons.mpr ⟨List.mem_cons_of_mem _ l_O_5, List.forall_mem_cons.mpr ⟨List.mem_cons_of_mem _ l_O_6, List.forall_mem_cons.mpr ⟨List.mem_cons_of_mem _ l_O_7, List.forall_mem_cons.mpr ⟨List.mem_cons_of_mem _ l_O_8, List.forall_mem_cons.mpr ⟨List.mem_cons_of_mem _ l_O_9, List.forall_mem_cons.mpr ⟨List.mem_cons_of_mem _ l_O_10, List.forall_mem_cons.mpr ⟨List.mem_cons_of_mem _ l_O_11, List.forall_mem_cons.mpr ⟨List.mem_cons_of_mem _ l_O_12, List.forall_mem_cons.mpr ⟨List.mem_cons_of_mem _ l_O_13, List.forall_mem_cons.mpr ⟨List.mem_cons_of_mem _ l_O_14, List.forall_mem_cons.mpr ⟨List.mem_cons_of_mem _ l_O_15, List.forall_mem_cons.mpr ⟨List.mem_cons_of_mem _ l_O_16, List.forall_mem_cons.mpr ⟨List.mem_cons_of_mem _ l_O_17, List.forall_mem_cons.mpr ⟨List.mem_cons_of_mem _ l_O_18, List.forall_mem_cons.mpr ⟨List.mem_cons_of_mem _ l_O_19, List.forall_mem_cons.mpr ⟨List.mem_cons_of_mem _ l_O_20, List.forall_mem_cons.mpr ⟨List.mem_cons_of_mem _ l_O_21, List.forall_mem_cons.mpr ⟨List.mem_cons_of_mem _ l_O_22, List.forall_mem_cons.mpr ⟨List.mem_cons_of_mem _ l_O_23, List.forall_mem_cons.mpr ⟨List.mem_cons_of_mem _ l_O_24, List.forall_mem_cons.mpr ⟨List.mem_cons_of_mem _ l_O_25, List.forall_mem_cons.mpr ⟨List.mem_cons_of_mem _ l_O_26, List.forall_mem_cons.mpr ⟨List.mem_cons_of_mem _ l_O_27, List.forall_mem_cons.mpr ⟨List.mem_cons_of_mem _ l_O_28, List.forall_mem_cons.mpr ⟨List.mem_cons_of_mem _ l_O_29, List.forall_mem_cons.mpr ⟨List.mem_cons_of_mem _ l_O_30, List.forall_mem_cons.mpr ⟨List.mem_cons_of_mem _ l_O_31, List.forall_mem_cons.mpr ⟨List.mem_cons_of_mem _ l_O_32, List.forall_mem_cons.mpr ⟨List.mem_cons_of_mem _ l_O_33, List.forall_mem_cons.mpr ⟨List.mem_cons_of_mem _ l_O_34, fun _ h => absurd h List.not_mem_nil⟩⟩⟩⟩⟩⟩⟩⟩⟩⟩⟩⟩⟩⟩⟩⟩⟩⟩⟩⟩⟩⟩⟩⟩⟩⟩⟩⟩⟩⟩⟩⟩⟩⟩⟩
abbrev sdCl : List vw_C := [("SettingsDesk", T_D, 12), ("SettingsDesk$Schema", T_C, 6), ("SettingsDesk$Settings", T_S, 4), ("SettingsDesk$Session", T_N, 3), ("SettingsDesk$Trouble", T_T, 4), ("SettingsDesk$Leaf", T_F, 7), ("SettingsDesk$Rule", T_R, 5), ("SettingsDesk$Merge", T_G, 5), ("SettingsDesk$Check", T_K, 3), ("SettingsDesk$Difference", T_E, 8), ("SettingsDeskModel", T_O, 35)]
def sd_tys (dA : Nat → ClassId) : List (ClassId × FieldType) := [(dA 0, .int), (dA 1, .boolean), (dA 2, .long), (dA 3, .object "SettingsDesk$Leaf"), (dA 4, .object "SettingsDesk$Rule"), (dA 5, .object "SettingsDesk$Settings"), (dA 6, .object "SettingsDesk$Session")]
def sdNw : List Cond := [.arrayOver (.object "SettingsDesk$Leaf"), .arrayOver (.object "SettingsDesk$Rule"), .methodLinkNest "SettingsDesk$Schema" 38 ⟨"SettingsDesk$Leaf", "<init>", "()V"⟩ "SettingsDesk", .methodLinkNest "SettingsDesk$Schema" 39 ⟨"SettingsDesk$Rule", "<init>", "()V"⟩ "SettingsDesk", .arrayOver (.object "SettingsDesk$Settings"), .arrayOver (.object "SettingsDesk$Session"), .methodLinkNest "SettingsDesk" 41 ⟨"SettingsDesk$Trouble", "<init>", "()V"⟩ "SettingsDesk", .methodLinkNest "SettingsDesk" 63 ⟨"SettingsDesk$Session", "<init>", "()V"⟩ "SettingsDesk", .castable "java/lang/IllegalStateException" "java/lang/IllegalStateException", .declares ⟨"java/lang/RuntimeException", "<init>", "()V"⟩, .declares ⟨"java/lang/RuntimeException", "<init>", "(Ljava/lang/String;)V"⟩, .declares ⟨"java/lang/Exception", "<init>", "()V"⟩, .declares ⟨"java/lang/Exception", "<init>", "(Ljava/lang/String;)V"⟩, .declares ⟨"java/lang/Throwable", "<init>", "()V"⟩, .declares ⟨"java/lang/Throwable", "<init>", "(Ljava/lang/String;)V"⟩, .castable "java/lang/IndexOutOfBoundsException" "java/lang/IndexOutOfBoundsException", .castable "java/lang/IllegalArgumentException" "java/lang/IllegalArgumentException", .castable "java/lang/UnsupportedOperationException" "java/lang/UnsupportedOperationException"]
def sdSs : List (String × Nat × String) := [("SettingsDesk", 292, "the power is off, or the schema is ready"), ("SettingsDesk", 72, "there are as many lists as there may be"), ("SettingsDesk", 299, "there is no such list"), ("SettingsDesk", 85, "the list has as many leaves as it may have"), ("SettingsDesk", 93, "there can be no such leaf"), ("SettingsDesk", 304, "there is no such list or leaf"), ("SettingsDesk", 117, "the leaf can have no such standard"), ("SettingsDesk", 128, "there are as many rules as there may be"), ("SettingsDesk", 294, "the power is off, or the schema is not ready"), ("SettingsDesk", 306, "there is no such session"), ("SettingsDesk", 308, "the session has not begun"), ("SettingsDesk", 166, "there can be no such entry"), ("SettingsDesk", 183, "the list has as many entries as it may have"), ("SettingsDesk", 310, "the candidate has no such entry"), ("SettingsDesk", 193, "the leaf takes no such value"), ("SettingsDesk", 208, "there is no such set"), ("SettingsDesk", 219, "there is no such entry, or the leaf is nothing"), ("SettingsDesk", 225, "there can be no such number of ticks"), ("SettingsDesk", 245, "there are not so many older sets"), ("SettingsDesk", 255, "there is no such difference, or nothing such of it"), ("SettingsDesk", 279, "there can be no such number of pages")]
abbrev sdE0 (sc : Option (Nat × Nat × (Nat → Int32))) : sdE := (sdCl, sdNw, sdSs, sc)
def isI (n : Nat) (L : Nat → sdL) (c : ClassId) (t len : Nat) : Prop := t < n ∧ L t = sd_I c len
def isQ (n : Nat) (L : Nat → sdL) (c : ClassId) (t len : Nat) (g : Nat → Nat) : Prop := t < n ∧ L t = sd_Q c len g
def isT (n : Nat) (L : Nat → sdL) (o : Nat) : Prop := o < n ∧ L o = sd_O 4 [none, none, none, none]
def isF (n : Nat) (L : Nat → sdL) (o : Nat) : Prop := o < n ∧ L o = sd_O 5 [none, none, none, none, none, none, none]
def isR (n : Nat) (L : Nat → sdL) (o : Nat) : Prop := o < n ∧ L o = sd_O 6 [none, none, none, none, none]
def isS (n : Nat) (L : Nat → sdL) (dA : Nat → ClassId) (o : Nat) : Prop := o < n ∧ L o = sd_O 2 [some (some (o + 1)), some (some (o + 2)), some (some (o + 3)), some (some (o + 4))] ∧ isI n L (dA 0) (o + 1) 4 ∧ isI n L (dA 0) (o + 2) 48 ∧ isI n L (dA 0) (o + 3) 192 ∧ isI n L (dA 0) (o + 4) 48
theorem isS.counts {n : Nat} {L : Nat → sdL} {dA : Nat → ClassId} {o : Nat} (h : isS n L dA o) : isI n L (dA 0) (o + 1) 4 := h.2.2.1
theorem isS.keys {n : Nat} {L : Nat → sdL} {dA : Nat → ClassId} {o : Nat} (h : isS n L dA o) : isI n L (dA 0) (o + 2) 48 := h.2.2.2.1
theorem isS.values {n : Nat} {L : Nat → sdL} {dA : Nat → ClassId} {o : Nat} (h : isS n L dA o) : isI n L (dA 0) (o + 3) 192 := h.2.2.2.2.1
theorem isS.given {n : Nat} {L : Nat → sdL} {dA : Nat → ClassId} {o : Nat} (h : isS n L dA o) : isI n L (dA 0) (o + 4) 48 := h.2.2.2.2.2
def isN (n : Nat) (L : Nat → sdL) (dA : Nat → ClassId) (o : Nat) : Prop := o < n ∧ L o = sd_O 3 [none, some (some (o + 1)), some (some (o + 6))] ∧ isS n L dA (o + 1) ∧ isS n L dA (o + 6)
theorem isN.candidate {n : Nat} {L : Nat → sdL} {dA : Nat → ClassId} {o : Nat} (h : isN n L dA o) : isS n L dA (o + 1) := h.2.2.1
theorem isN.base {n : Nat} {L : Nat → sdL} {dA : Nat → ClassId} {o : Nat} (h : isN n L dA o) : isS n L dA (o + 6) := h.2.2.2
def isC (n : Nat) (L : Nat → sdL) (dA : Nat → ClassId) : Prop := 1 < n ∧ L 1 = sd_O 1 [none, none, some (some 2), some (some 3), none, some (some 4)] ∧ isI n L (dA 0) 2 4 ∧ isQ n L (dA 3) 3 16 (fun j => 5 + j) ∧ isQ n L (dA 4) 4 4 (fun j => 21 + j) ∧ (∀ j, j < 16 → isF n L (5 + j)) ∧ ∀ j, j < 4 → isR n L (21 + j)
theorem isC.leaves {n : Nat} {L : Nat → sdL} {dA : Nat → ClassId} (h : isC n L dA) : isI n L (dA 0) 2 4 := h.2.2.1
theorem isC.leafTable {n : Nat} {L : Nat → sdL} {dA : Nat → ClassId} (h : isC n L dA) : isQ n L (dA 3) 3 16 (fun j => 5 + j) := h.2.2.2.1
theorem isC.rules {n : Nat} {L : Nat → sdL} {dA : Nat → ClassId} (h : isC n L dA) : isQ n L (dA 4) 4 4 (fun j => 21 + j) := h.2.2.2.2.1
theorem sd_lt {i : Int32} {n : Nat} (h : vp_in i n) : i.toNatClampNeg < n := Nat.not_le.mp fun q => h (Or.inr q)
theorem isC.leafTableAt {n : Nat} {L : Nat → sdL} {dA : Nat → ClassId} (h : isC n L dA) {i : Int32} (hi : vp_in i 16) : isF n L (5 + i.toNatClampNeg) := h.2.2.2.2.2.1 _ (sd_lt hi)
theorem isC.rulesAt {n : Nat} {L : Nat → sdL} {dA : Nat → ClassId} (h : isC n L dA) {i : Int32} (hi : vp_in i 4) : isR n L (21 + i.toNatClampNeg) := h.2.2.2.2.2.2 _ (sd_lt hi)
def isD (n : Nat) (L : Nat → sdL) (dA : Nat → ClassId) : Prop := 0 < n ∧ L 0 = sd_O 0 [some (some 1), some (some 25), some (some 30), some (some 35), some (some 40), some (some 41), some (some 42), none, none, none, none, none] ∧ isC n L dA ∧ isS n L dA 25 ∧ isS n L dA 30 ∧ isS n L dA 35 ∧ isQ n L (dA 5) 40 8 (fun j => 43 + 5 * j) ∧ isQ n L (dA 6) 41 3 (fun j => 83 + 11 * j) ∧ isT n L 42 ∧ (∀ j, j < 8 → isS n L dA (43 + 5 * j)) ∧ ∀ j, j < 3 → isN n L dA (83 + 11 * j)
theorem isD.schema {n : Nat} {L : Nat → sdL} {dA : Nat → ClassId} (h : isD n L dA) : isC n L dA := h.2.2.1
theorem isD.running {n : Nat} {L : Nat → sdL} {dA : Nat → ClassId} (h : isD n L dA) : isS n L dA 25 := h.2.2.2.1
theorem isD.saved {n : Nat} {L : Nat → sdL} {dA : Nat → ClassId} (h : isD n L dA) : isS n L dA 30 := h.2.2.2.2.1
theorem isD.outcome {n : Nat} {L : Nat → sdL} {dA : Nat → ClassId} (h : isD n L dA) : isS n L dA 35 := h.2.2.2.2.2.1
theorem isD.older {n : Nat} {L : Nat → sdL} {dA : Nat → ClassId} (h : isD n L dA) : isQ n L (dA 5) 40 8 (fun j => 43 + 5 * j) := h.2.2.2.2.2.2.1
theorem isD.sessions {n : Nat} {L : Nat → sdL} {dA : Nat → ClassId} (h : isD n L dA) : isQ n L (dA 6) 41 3 (fun j => 83 + 11 * j) := h.2.2.2.2.2.2.2.1
theorem isD.trouble {n : Nat} {L : Nat → sdL} {dA : Nat → ClassId} (h : isD n L dA) : isT n L 42 := h.2.2.2.2.2.2.2.2.1
theorem isD.olderAt {n : Nat} {L : Nat → sdL} {dA : Nat → ClassId} (h : isD n L dA) {i : Int32} (hi : vp_in i 8) : isS n L dA (43 + 5 * i.toNatClampNeg) := h.2.2.2.2.2.2.2.2.2.1 _ (sd_lt hi)
theorem isD.sessionsAt {n : Nat} {L : Nat → sdL} {dA : Nat → ClassId} (h : isD n L dA) {i : Int32} (hi : vp_in i 3) : isN n L dA (83 + 11 * i.toNatClampNeg) := h.2.2.2.2.2.2.2.2.2.2 _ (sd_lt hi)
def isG (n : Nat) (L : Nat → sdL) (dA : Nat → ClassId) (o ca ba ru ou tr : Nat) : Prop := o < n ∧ L o = sd_O 7 [some (some ca), some (some ba), some (some ru), some (some ou), some (some tr)] ∧ isS n L dA ca ∧ isS n L dA ba ∧ isS n L dA ru ∧ isS n L dA ou ∧ isT n L tr
theorem isG.candidate {n : Nat} {L : Nat → sdL} {dA : Nat → ClassId} {o ca ba ru ou tr : Nat} (h : isG n L dA o ca ba ru ou tr) : isS n L dA ca := h.2.2.1
theorem isG.base {n : Nat} {L : Nat → sdL} {dA : Nat → ClassId} {o ca ba ru ou tr : Nat} (h : isG n L dA o ca ba ru ou tr) : isS n L dA ba := h.2.2.2.1
theorem isG.running {n : Nat} {L : Nat → sdL} {dA : Nat → ClassId} {o ca ba ru ou tr : Nat} (h : isG n L dA o ca ba ru ou tr) : isS n L dA ru := h.2.2.2.2.1
theorem isG.outcome {n : Nat} {L : Nat → sdL} {dA : Nat → ClassId} {o ca ba ru ou tr : Nat} (h : isG n L dA o ca ba ru ou tr) : isS n L dA ou := h.2.2.2.2.2.1
theorem isG.trouble {n : Nat} {L : Nat → sdL} {dA : Nat → ClassId} {o ca ba ru ou tr : Nat} (h : isG n L dA o ca ba ru ou tr) : isT n L tr := h.2.2.2.2.2.2
def isK (n : Nat) (L : Nat → sdL) (dA : Nat → ClassId) (o se tr : Nat) : Prop := o < n ∧ L o = sd_O 8 [some (some 1), some (some se), some (some tr)] ∧ isC n L dA ∧ isS n L dA se ∧ isT n L tr
theorem isK.schema {n : Nat} {L : Nat → sdL} {dA : Nat → ClassId} {o se tr : Nat} (h : isK n L dA o se tr) : isC n L dA := h.2.2.1
theorem isK.settings {n : Nat} {L : Nat → sdL} {dA : Nat → ClassId} {o se tr : Nat} (h : isK n L dA o se tr) : isS n L dA se := h.2.2.2.1
theorem isK.trouble {n : Nat} {L : Nat → sdL} {dA : Nat → ClassId} {o se tr : Nat} (h : isK n L dA o se tr) : isT n L tr := h.2.2.2.2
def isE (n : Nat) (L : Nat → sdL) (dA : Nat → ClassId) (o ca ru : Nat) : Prop := o < n ∧ L o = sd_O 9 [some (some ca), some (some ru), none, none, none, none, none, none] ∧ isS n L dA ca ∧ isS n L dA ru
theorem isE.candidate {n : Nat} {L : Nat → sdL} {dA : Nat → ClassId} {o ca ru : Nat} (h : isE n L dA o ca ru) : isS n L dA ca := h.2.2.1
theorem isE.running {n : Nat} {L : Nat → sdL} {dA : Nat → ClassId} {o ca ru : Nat} (h : isE n L dA o ca ru) : isS n L dA ru := h.2.2.2
def isO (n : Nat) (L : Nat → sdL) (dA : Nat → ClassId) : Prop := 116 < n ∧ L 116 = sd_O 10 [none, none, none, some (some 117), some (some 118), some (some 119), some (some 120), some (some 121), some (some 122), some (some 123), none, some (some 124), some (some 125), some (some 126), some (some 127), some (some 128), some (some 129), some (some 130), some (some 131), some (some 132), none, none, some (some 133), none, none, none, none, none, none, none, none, none, none, none, none] ∧ isI n L (dA 0) 117 4 ∧ isI n L (dA 1) 118 16 ∧ isI n L (dA 0) 119 16 ∧ isI n L (dA 0) 120 16 ∧ isI n L (dA 0) 121 16 ∧ isI n L (dA 1) 122 16 ∧ isI n L (dA 0) 123 16 ∧ isI n L (dA 0) 124 4 ∧ isI n L (dA 0) 125 4 ∧ isI n L (dA 0) 126 4 ∧ isI n L (dA 0) 127 4 ∧ isI n L (dA 1) 128 4 ∧ isI n L (dA 0) 129 68 ∧ isI n L (dA 0) 130 816 ∧ isI n L (dA 0) 131 816 ∧ isI n L (dA 0) 132 3264 ∧ isI n L (dA 1) 133 3
theorem isO.leaves {n : Nat} {L : Nat → sdL} {dA : Nat → ClassId} (h : isO n L dA) : isI n L (dA 0) 117 4 := h.2.2.1
theorem isO.refers {n : Nat} {L : Nat → sdL} {dA : Nat → ClassId} (h : isO n L dA) : isI n L (dA 1) 118 16 := h.2.2.2.1
theorem isO.lows {n : Nat} {L : Nat → sdL} {dA : Nat → ClassId} (h : isO n L dA) : isI n L (dA 0) 119 16 := h.2.2.2.2.1
theorem isO.highs {n : Nat} {L : Nat → sdL} {dA : Nat → ClassId} (h : isO n L dA) : isI n L (dA 0) 120 16 := h.2.2.2.2.2.1
theorem isO.flags {n : Nat} {L : Nat → sdL} {dA : Nat → ClassId} (h : isO n L dA) : isI n L (dA 0) 121 16 := h.2.2.2.2.2.2.1
theorem isO.hasStandard {n : Nat} {L : Nat → sdL} {dA : Nat → ClassId} (h : isO n L dA) : isI n L (dA 1) 122 16 := h.2.2.2.2.2.2.2.1
theorem isO.standards {n : Nat} {L : Nat → sdL} {dA : Nat → ClassId} (h : isO n L dA) : isI n L (dA 0) 123 16 := h.2.2.2.2.2.2.2.2.1
theorem isO.ruleList {n : Nat} {L : Nat → sdL} {dA : Nat → ClassId} (h : isO n L dA) : isI n L (dA 0) 124 4 := h.2.2.2.2.2.2.2.2.2.1
theorem isO.ruleA {n : Nat} {L : Nat → sdL} {dA : Nat → ClassId} (h : isO n L dA) : isI n L (dA 0) 125 4 := h.2.2.2.2.2.2.2.2.2.2.1
theorem isO.ruleValue {n : Nat} {L : Nat → sdL} {dA : Nat → ClassId} (h : isO n L dA) : isI n L (dA 0) 126 4 := h.2.2.2.2.2.2.2.2.2.2.2.1
theorem isO.ruleB {n : Nat} {L : Nat → sdL} {dA : Nat → ClassId} (h : isO n L dA) : isI n L (dA 0) 127 4 := h.2.2.2.2.2.2.2.2.2.2.2.2.1
theorem isO.ruleThere {n : Nat} {L : Nat → sdL} {dA : Nat → ClassId} (h : isO n L dA) : isI n L (dA 1) 128 4 := h.2.2.2.2.2.2.2.2.2.2.2.2.2.1
theorem isO.sizes {n : Nat} {L : Nat → sdL} {dA : Nat → ClassId} (h : isO n L dA) : isI n L (dA 0) 129 68 := h.2.2.2.2.2.2.2.2.2.2.2.2.2.2.1
theorem isO.keys {n : Nat} {L : Nat → sdL} {dA : Nat → ClassId} (h : isO n L dA) : isI n L (dA 0) 130 816 := h.2.2.2.2.2.2.2.2.2.2.2.2.2.2.2.1
theorem isO.bits {n : Nat} {L : Nat → sdL} {dA : Nat → ClassId} (h : isO n L dA) : isI n L (dA 0) 131 816 := h.2.2.2.2.2.2.2.2.2.2.2.2.2.2.2.2.1
theorem isO.values {n : Nat} {L : Nat → sdL} {dA : Nat → ClassId} (h : isO n L dA) : isI n L (dA 0) 132 3264 := h.2.2.2.2.2.2.2.2.2.2.2.2.2.2.2.2.2.1
theorem isO.begun {n : Nat} {L : Nat → sdL} {dA : Nat → ClassId} (h : isO n L dA) : isI n L (dA 1) 133 3 := h.2.2.2.2.2.2.2.2.2.2.2.2.2.2.2.2.2.2

