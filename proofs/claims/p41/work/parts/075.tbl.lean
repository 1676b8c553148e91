/-! THE TABLES' WORDS AS LISTS; fields and calls by their places in a pool -/
def zNk : Cond → Bool
  | .fieldLinkNest .. => true
  | .methodLinkNest .. => true
  | .castable .. => true
  | .declares .. => true
  | .privateMethod .. => true
  | _ => false
def zTn : List Cond := lw_tbl.filter zNk
theorem zTn_in {w : Cond} (i : Nat) (h : lw_tbl[i]? = some w) (hg : zNk w = true) : w ∈ zTn := List.mem_filter.mpr ⟨List.mem_of_getElem? h, hg⟩
def zTs : List Cond := lw_tbl.filter goodWord
theorem zTs_in {w : Cond} (i : Nat) (h : lw_tbl[i]? = some w) (hg : goodWord w = true) : w ∈ zTs := List.mem_filter.mpr ⟨List.mem_of_getElem? h, hg⟩
theorem zTs_lw {w : Cond} (h : w ∈ zTs) : w ∈ lw_tbl := (List.mem_filter.mp h).1
theorem zTs_good {w : Cond} (h : w ∈ zTs) : (w.onTables && w.keeps) = true ∨ ∃ ty, w = .arrayClass ty := good_of_word (List.mem_filter.mp h).2
def zFd (own : String) (ix ci k : Nat) : Prop := ∃ r : vw_C, vwCl[ci]? = some r ∧ ci < 20 ∧ k < r.2.2 ∧ (∀ w ∈ u_ws r.1 r.2.1 r.2.2, w ∈ zTs) ∧ (Cond.fieldLink own ix (r.2.1 k).1 (r.2.1 k).2.1 (r.2.1 k).2.2.1 ∈ zTs ∨ ∃ host, Cond.fieldLinkNest own ix (r.2.1 k).1 (r.2.1 k).2.1 (r.2.1 k).2.2.1 host ∈ zTn)
def zPf (ci : Nat) : Prop := ∃ r : vw_C, vwCl[ci]? = some r ∧ (∀ k, k < r.2.2 → parseFieldDescriptor (r.2.1 k).2.2.1 = some (zft ci k)) ∧ (∀ a, a < r.2.2 → ∀ b, b < r.2.2 → a ≠ b → (r.2.1 a).2.1 ≠ (r.2.1 b).2.1)
def zLk (own : String) (ix : Nat) (y : MethodName) (cc2 : ByteArray) (nL2 : Nat) (ret2 : Option FieldType) (n : Nat) : Prop := Cond.methodLink own ix y ∈ zTs ∧ Cond.initialized y.cls ∈ zTs ∧ Cond.code y cc2 nL2 ret2 ∈ zTs ∧ (y.cls ≠ "java/lang/invoke/MethodHandle" ∧ y.cls ≠ "java/lang/invoke/VarHandle") ∧ (parseMethodDescriptor y.desc).map (fun d => d.parameters.length) = some n
def zLkN (own : String) (ix : Nat) (y : MethodName) (cc2 : ByteArray) (nL2 : Nat) (ret2 : Option FieldType) (n : Nat) : Prop := (∃ host, Cond.methodLinkNest own ix y host ∈ zTn) ∧ Cond.initialized y.cls ∈ zTs ∧ Cond.code y cc2 nL2 ret2 ∈ zTs ∧ (y.cls ≠ "java/lang/invoke/MethodHandle" ∧ y.cls ≠ "java/lang/invoke/VarHandle") ∧ (parseMethodDescriptor y.desc).map (fun d => d.parameters.length) = some n
def zLkS (own : String) (ix : Nat) (y : MethodName) (cc2 : ByteArray) (nL2 : Nat) (ret2 : Option FieldType) (n : Nat) : Prop := zLk own ix y cc2 nL2 ret2 n ∧ Cond.static y ∈ zTs
def zLkV (own : String) (ix : Nat) (y : MethodName) (cc2 : ByteArray) (nL2 : Nat) (ret2 : Option FieldType) (n : Nat) : Prop := zLk own ix y cc2 nL2 ret2 n ∧ Cond.instanceMethod y ∈ zTs ∧ Cond.selects y.cls y y ∈ zTs
def zLkI (own : String) (ix : Nat) (y : MethodName) (cc2 : ByteArray) (nL2 : Nat) (ret2 : Option FieldType) (n : Nat) : Prop := zLk own ix y cc2 nL2 ret2 n ∧ Cond.instanceMethod y ∈ zTs ∧ y.name = "<init>"
def zLkIN (own : String) (ix : Nat) (y : MethodName) (cc2 : ByteArray) (nL2 : Nat) (ret2 : Option FieldType) (n : Nat) : Prop := zLkN own ix y cc2 nL2 ret2 n ∧ Cond.instanceMethod y ∈ zTs ∧ y.name = "<init>"
theorem zTs_all (ws : List Cond) (h : ws.all (fun w => decide (w ∈ lw_tbl) && goodWord w) = true) : ∀ w ∈ ws, w ∈ zTs := fun w hw => by
  have h1 := List.all_eq_true.mp h w hw
  simp only [Bool.and_eq_true, decide_eq_true_eq] at h1
  exact List.mem_filter.mpr ⟨h1.1, h1.2⟩
