/-! PURE 26: the class: best derivations, breadth first -/
/-- word y was found from p by r: p before y, and all that was looked at before leads to words before y -/
def fnd (G : zGr) (Q : List Int) (M : zM) (D : Int → Prop) (iy : Nat) (y : Int) : Prop := ∃ (ip : Nat) (p : Int) (r : Nat), Q[ip]? = some p ∧ ip < iy ∧ insP G p r ∧ insV G p r = y ∧ M 22 (pos D y) = pos D p ∧ M 21 (pos D y) = mvc (pos D y) r ∧ M 20 (pos D y) = M 20 (pos D p) + 1 ∧ ∀ (ix : Nat) (x : Int) (r2 : Nat), Q[ix]? = some x → insP G x r2 → (ix < ip ∨ (ix = ip ∧ r2 < r)) → ∃ iz : Nat, iz < iy ∧ Q[iz]? = some (insV G x r2)
def bfs (G : zGr) (ax : List Int) (M : zM) (Q : List Int) : Prop := (∀ (i j : Nat) (y : Int), Q[i]? = some y → Q[j]? = some y → i = j) ∧ (∀ y ∈ Q, lcA G ax y) ∧ (∀ y, lcA G ax y → y ∈ ax → y ∈ Q) ∧ (∀ (i : Nat) (y : Int), Q[i]? = some y → y ∈ ax → M 20 (pos (lcA G ax) y) = 0 ∧ ∀ (j : Nat) (z : Int), Q[j]? = some z → (z ∉ ax ∨ y < z) → i < j) ∧ ∀ (i : Nat) (y : Int), Q[i]? = some y → y ∉ ax → fnd G Q M (lcA G ax) i y
/-- at the end -/
def bfsF (G : zGr) (ax : List Int) (M : zM) : Prop := ∃ Q : List Int, bfs G ax M Q ∧ (∀ y, lcA G ax y → y ∈ Q) ∧ (∀ y, lcA G ax y → 0 ≤ M 20 (pos (lcA G ax) y)) ∧ ∀ (x : Int) (r : Nat), lcA G ax x → insP G x r → M 20 (pos (lcA G ax) (insV G x r)) ≤ M 20 (pos (lcA G ax) x) + 1
/-- on the way -/
def bfsI (G : zGr) (ax : List Int) (M : zM) (Q : List Int) (q : Nat) : Prop := bfs G ax M Q ∧ Q.length ≤ (wl_ (lcA G ax)).length ∧ rowl (M 19) (Q.map (pos (lcA G ax))) ∧ (∀ y, lcA G ax y → (y ∈ Q → 0 ≤ M 20 (pos (lcA G ax) y)) ∧ (y ∉ Q → M 20 (pos (lcA G ax) y) = -1)) ∧ q ≤ Q.length ∧ (∀ (i : Nat) (x : Int) (r : Nat), i < q → Q[i]? = some x → insP G x r → insV G x r ∈ Q ∧ M 20 (pos (lcA G ax) (insV G x r)) ≤ M 20 (pos (lcA G ax) x) + 1) ∧ (∀ (i j : Nat) (x y : Int), i ≤ j → Q[i]? = some x → Q[j]? = some y → M 20 (pos (lcA G ax) x) ≤ M 20 (pos (lcA G ax) y)) ∧ (∀ (j : Nat) (x y : Int), Q[q]? = some x → Q[j]? = some y → M 20 (pos (lcA G ax) y) ≤ M 20 (pos (lcA G ax) x) + 1) ∧ ∀ (i : Nat) (y : Int), Q[i]? = some y → M 20 (pos (lcA G ax) y) ≤ i
theorem nd_len {D : Int → Prop} {n : Nat} : ∀ (Q : List Int), (∀ (i j : Nat) (y : Int), Q[i]? = some y → Q[j]? = some y → i = j) → (∀ y ∈ Q, 0 ≤ y ∧ y < n ∧ D y) → Q.length ≤ cnt D n
  | [], _, _ => Nat.zero_le _
  | x :: t, h, hm => by
    have hx := hm x List.mem_cons_self
    have h2 : ∀ (i j : Nat) (y : Int), t[i]? = some y → t[j]? = some y → i = j := fun i j y a b => by
      have := h (i + 1) (j + 1) y (by simpa using a) (by simpa using b)
      omega
    have hnx : ∀ y ∈ t, y ≠ x := fun y hy e => by
      obtain ⟨j, hj⟩ := List.mem_iff_getElem?.mp hy
      have := h 0 (j + 1) x (by simp) (by simp [hj, e])
      omega
    have ih := nd_len (D := fun z => D z ∧ z ≠ x) (n := n) t h2 (fun y hy => ⟨(hm y (List.mem_cons_of_mem _ hy)).1, (hm y (List.mem_cons_of_mem _ hy)).2.1, (hm y (List.mem_cons_of_mem _ hy)).2.2, hnx y hy⟩)
    have h3 := cnt_add (D := fun z => D z ∧ z ≠ x) (y := x) (fun a => a.2 rfl) hx.1 (n := n) hx.2.1
    have h4 := cnt_le (D := fun z => (D z ∧ z ≠ x) ∨ z = x) (E := D) (n := n) (fun k _ a => by
      rcases a with a | a
      · exact a.1
      · rw [a]; exact hx.2.2)
    rw [List.length_cons]
    omega
theorem app_get {Q : List Int} {y z : Int} {i : Nat} (h : (Q ++ [y])[i]? = some z) : (i < Q.length ∧ Q[i]? = some z) ∨ (i = Q.length ∧ z = y) := by
  by_cases hi : i < Q.length
  · rw [List.getElem?_append_left hi] at h
    exact Or.inl ⟨hi, h⟩
  · rw [List.getElem?_append_right (by omega)] at h
    have hl := (List.getElem?_eq_some_iff.mp h).1
    simp at hl
    have e : i - Q.length = 0 := by omega
    rw [e] at h
    exact Or.inr ⟨by omega, by simpa using h.symm⟩
theorem app_l {Q : List Int} {y z : Int} {i : Nat} (h : Q[i]? = some z) : (Q ++ [y])[i]? = some z := by
  rw [List.getElem?_append_left (List.getElem?_eq_some_iff.mp h).1]
  exact h
theorem fnd.app {G : zGr} {Q : List Int} {M M1 : zM} {D : Int → Prop} {iy : Nat} {y v : Int} (h : fnd G Q M D iy y) (hiy : iy < Q.length) (e22 : M1 22 (pos D y) = M 22 (pos D y)) (e21 : M1 21 (pos D y) = M 21 (pos D y)) (e20 : ∀ z ∈ Q, M1 20 (pos D z) = M 20 (pos D z)) (hy : y ∈ Q) : fnd G (Q ++ [v]) M1 D iy y := by
  obtain ⟨ip, p, r, h1, h2, h3, h4, h5, h6, h7, h8⟩ := h
  refine ⟨ip, p, r, app_l h1, h2, h3, h4, e22.trans h5, e21.trans h6, by rw [e20 y hy, e20 p (List.mem_of_getElem? h1)]; exact h7, fun ix x r2 a1 a2 a3 => ?_⟩
  rcases app_get a1 with ⟨_, a4⟩ | ⟨a4, _⟩
  · obtain ⟨iz, b1, b2⟩ := h8 ix x r2 a4 a2 a3
    exact ⟨iz, b1, app_l b2⟩
  · omega
