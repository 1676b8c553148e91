/-! PURE 17: a turn of the reference's loops; derivations counted -/
/-- how many insertions of a list lead from x to y -/
def cm (G : zGr) (x y : Int) (l : List Nat) : Int := (l.countP (fun r => decide (insV G x r = y)) : Nat)
theorem cm_nil (G : zGr) (x y : Int) : cm G x y [] = 0 := rfl
theorem cm_app {G : zGr} {x y : Int} {l : List Nat} {r : Nat} : cm G x y (l ++ [r]) = cm G x y l + (if insV G x r = y then 1 else 0) := by
  unfold cm
  rw [List.countP_append, List.countP_singleton]
  by_cases h : insV G x r = y
  · rw [if_pos h, decide_eq_true h]; simp
  · rw [if_neg h, decide_eq_false h]; simp
theorem cm_0 {G : zGr} {x y : Int} {l : List Nat} (h : ∀ r ∈ l, insV G x r ≠ y) : cm G x y l = 0 := by
  unfold cm
  rw [List.countP_eq_zero.mpr (fun r hr => by rw [decide_eq_false (h r hr)]; decide)]
  rfl
theorem wl_zl {a b : Int} (h : zl a = zl b) : wl a = wl b := by unfold wl; rw [h]
theorem zladd_e (a b : Int) : zladd a b = wl (a + b) := by
  unfold zladd wl
  rw [show zl a + zl b = zl (a + b) from (Int64.ofInt_add a b).symm]
theorem wl_add (a b : Int) : wl (wl a + b) = wl (a + b) := wl_zl (by rw [show zl (wl a + b) = zl (wl a) + zl b from Int64.ofInt_add _ _, zl_wl, show zl a + zl b = zl (a + b) from (Int64.ofInt_add _ _).symm])
/-- ways, word by word -/
noncomputable def wyL (G : zGr) : List Int → (Int → Int) → (Int → Int)
  | [], f => f
  | x :: t, f => wyL G t (fun y => wl (f y + cm G x y (insL G x) * f x))
theorem wyL_app (G : zGr) : ∀ (a b : List Int) (f : Int → Int), wyL G (a ++ b) f = wyL G b (wyL G a f)
  | [], _, _ => rfl
  | x :: t, b, f => wyL_app G t b _
theorem wyL_inL {G : zGr} : ∀ {a : List Int} {f : Int → Int}, (∀ y, inL (f y)) → ∀ y, inL (wyL G a f y)
  | [], _, h, y => h y
  | x :: t, f, h, y => wyL_inL (a := t) (fun _ => inL_wl _) y
def ini (ax : List Int) (y : Int) : Int := if y ∈ ax then 1 else 0
theorem ini_inL (ax : List Int) (y : Int) : inL (ini ax y) := by unfold ini; split <;> decide
/-- the number of derivations of a word -/
noncomputable def wys (G : zGr) (ax : List Int) (y : Int) : Int := wyL G (wl_ (lcA G ax)) (ini ax) y
theorem wl_take {D : Int → Prop} {y : Int} {i : Nat} (hi : (wl_ D)[i]? = some y) : ∀ x ∈ (wl_ D).take i, x < y := fun x hx => by
  obtain ⟨j, hj⟩ := List.mem_iff_getElem?.mp hx
  rw [List.getElem?_take] at hj
  split at hj
  · rename_i hlt
    obtain ⟨l1, e1⟩ := List.getElem?_eq_some_iff.mp hj
    obtain ⟨l2, e2⟩ := List.getElem?_eq_some_iff.mp hi
    have := List.pairwise_iff_getElem.mp (pw_wl D) j i l1 l2 hlt
    omega
  · cases hj
/-! the class's edges -/
noncomputable def ep (G : zGr) (D : Int → Prop) (i : Nat) : Nat := (((wl_ D).take i).flatMap (eln G D)).length
theorem ep_s {G : zGr} {D : Int → Prop} {i : Nat} {x : Int} (hi : (wl_ D)[i]? = some x) : ep G D (i + 1) = ep G D i + (insL G x).length := by
  obtain ⟨l1, e1⟩ := List.getElem?_eq_some_iff.mp hi
  unfold ep
  rw [List.take_succ_eq_append_getElem l1, List.flatMap_append, List.length_append, List.flatMap_cons, List.flatMap_nil, List.append_nil, e1]
  unfold eln
  rw [List.length_map]
theorem fm_at {f : Int → List Int} {l : List Int} {i j : Nat} {x v : Int} (hi : l[i]? = some x) (hj : (f x)[j]? = some v) : (l.flatMap f)[((l.take i).flatMap f).length + j]? = some v := by
  obtain ⟨l1, e1⟩ := List.getElem?_eq_some_iff.mp hi
  have hs : l.flatMap f = (l.take i).flatMap f ++ (f x ++ (l.drop (i + 1)).flatMap f) := by
    rw [← List.flatMap_cons, ← List.flatMap_append, ← e1, ← List.drop_eq_getElem_cons l1, List.take_append_drop]
  have hjl := (List.getElem?_eq_some_iff.mp hj).1
  rw [hs, List.getElem?_append_right (by omega), Nat.add_sub_cancel_left, List.getElem?_append_left hjl]
  exact hj
theorem ep_at {M : zM} {G : zGr} {ax : List Int} {i j r : Nat} {x : Int} (h : rowl (M 14) ((wl_ (lcA G ax)).flatMap (eln G (lcA G ax)))) (hi : (wl_ (lcA G ax))[i]? = some x) (hj : (insL G x)[j]? = some r) : M 14 ((ep G (lcA G ax) i + j : Nat) : Int) = mvc (pos (lcA G ax) (insV G x r)) r := by
  refine h _ _ (fm_at hi (j := j) ?_)
  unfold eln
  rw [List.getElem?_map, hj]
  rfl
theorem ep_b {G : zGr} {D : Int → Prop} {i : Nat} (hG : grok G) (hi : i ≤ (wl_ D).length) (h3 : (wl_ D).length ≤ 300) : ep G D i ≤ 67500 := by
  have := fm_len (f := eln G D) (n := 225) (l := (wl_ D).take i) (fun y _ => by unfold eln; rw [List.length_map]; exact len_insL hG)
  rw [List.length_take, Nat.min_eq_left hi] at this
  unfold ep
  omega
