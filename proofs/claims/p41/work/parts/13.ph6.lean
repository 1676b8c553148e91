/-! PURE 70: texts: names -/
/-- how many characters of a name stand at a position -/
def preT (T : List Int) : Nat → List Nat → Nat
  | _, [] => 0
  | p, c :: r => if chT T p = (c : Int) then preT T (p + 1) r + 1 else 0
theorem preT_le {T : List Int} : ∀ (nm : List Nat) (p : Nat), preT T p nm ≤ nm.length := by
  intro nm
  induction nm with
  | nil => intro p; exact Nat.le_refl 0
  | cons c r ih =>
    intro p
    unfold preT
    by_cases e : chT T p = (c : Int)
    · rw [if_pos e]; exact Nat.succ_le_succ (ih (p + 1))
    · rw [if_neg e]; exact Nat.zero_le _
theorem preT_u {T : List Int} : ∀ (nm : List Nat) (p j : Nat), j ≤ nm.length → (∀ i, i < j → chT T (p + i) = ((nm.getD i 0 : Nat) : Int)) → (j < nm.length → chT T (p + j) ≠ ((nm.getD j 0 : Nat) : Int)) → preT T p nm = j := by
  intro nm
  induction nm with
  | nil => intro p j h1 _ _; have : j = 0 := by simpa using h1
           rw [this]; rfl
  | cons c r ih =>
    intro p j h1 h2 h3
    unfold preT
    cases j with
    | zero =>
      have h := h3 (by simp)
      rw [Nat.add_zero, List.getD_cons_zero] at h
      rw [if_neg h]
    | succ j =>
      have h := h2 0 (Nat.succ_pos j)
      rw [Nat.add_zero, List.getD_cons_zero] at h
      rw [if_pos h, ih (p + 1) j (by simpa using h1) (fun i hi => by
        have q := h2 (i + 1) (by omega)
        rw [List.getD_cons_succ] at q
        rw [show p + 1 + i = p + (i + 1) by omega]; exact q) (fun hj => by
        have q := h3 (by simpa using hj)
        rw [List.getD_cons_succ] at q
        rw [show p + 1 + j = p + (j + 1) by omega]; exact q)]
theorem preT_h {T : List Int} {c p : Nat} {r : List Nat} (h : chT T p ≠ (c : Int)) : preT T p (c :: r) = 0 := by
  unfold preT
  rw [if_neg h]
theorem preT_in {T : List Int} : ∀ (nm : List Nat) (p : Nat), (∀ c ∈ nm, c ≠ 0) → p ≤ T.length → p + preT T p nm ≤ T.length := by
  intro nm
  induction nm with
  | nil => intro p _ h; exact h
  | cons c r ih =>
    intro p hc h
    unfold preT
    by_cases e : chT T p = (c : Int)
    · rw [if_pos e]
      have h0 := hc c (List.mem_cons_self ..)
      have hl := chT_lt (T := T) (p := p) (by omega)
      have h1 := ih (p + 1) (fun d hd => hc d (List.mem_cons_of_mem _ hd)) (by omega)
      omega
    · rw [if_neg e]; exact h
theorem preT_c (T : List Int) (p c : Nat) (r : List Nat) : preT T p (c :: r) = if chT T p = (c : Int) then preT T (p + 1) r + 1 else 0 := rfl
/-- one more character behind a name -/
theorem preT_snoc {T : List Int} {c : Nat} : ∀ (nm : List Nat) (p : Nat), preT T p (nm ++ [c]) = if preT T p nm = nm.length then (if chT T (p + nm.length) = (c : Int) then nm.length + 1 else nm.length) else preT T p nm := by
  intro nm
  induction nm with
  | nil =>
    intro p
    have e0 : preT T p [] = 0 := rfl
    have e1 : preT T (p + 1) [] = 0 := rfl
    rw [List.nil_append, preT_c, e1, e0, List.length_nil, if_pos rfl, Nat.add_zero]
    rfl
  | cons d r ih =>
    intro p
    rw [List.cons_append, preT_c, preT_c, ih (p + 1), List.length_cons, show p + (r.length + 1) = p + 1 + r.length by omega]
    by_cases e : chT T p = (d : Int)
    · rw [if_pos e, if_pos e]
      by_cases e2 : preT T (p + 1) r = r.length
      · have e4 : preT T (p + 1) r + 1 = r.length + 1 := by omega
        by_cases e3 : chT T (p + 1 + r.length) = (c : Int)
        · rw [if_pos e2, if_pos e3, if_pos e4, if_pos e3]
        · rw [if_pos e2, if_neg e3, if_pos e4, if_neg e3]
      · have e4 : ¬ (preT T (p + 1) r + 1 = r.length + 1) := by omega
        rw [if_neg e2, if_neg e4]
    · have e4 : ¬ (0 = r.length + 1) := by omega
      rw [if_neg e, if_neg e, if_neg e4]
/-- the first number below n with k = l, or n -/
def isF (k l : Nat → Nat) (n t : Nat) : Prop := t ≤ n ∧ (∀ j, j < t → k j ≠ l j) ∧ (t < n → k t = l t)
theorem isF_u {k l : Nat → Nat} {n t u : Nat} (h : isF k l n t) (i : isF k l n u) : t = u := by
  obtain ⟨h1, h2, h3⟩ := h
  obtain ⟨i1, i2, i3⟩ := i
  rcases Nat.lt_trichotomy t u with q | q | q
  · exact absurd (h3 (by omega)) (i2 t q)
  · exact q
  · exact absurd (i3 (by omega)) (h2 u q)
def mxN (k : Nat → Nat) : Nat → Nat
  | 0 => 0
  | t + 1 => if mxN k t < k t then k t else mxN k t
/-- the names: 0 to 3 kinds with a space, 4 to 8 modes -/
def nmA (i : Nat) : List Nat := zST.getD i []
def nmB (i : Nat) : List Nat := if i < 4 then (nmA i).dropLast else nmA i
theorem nmA_le : ∀ i, i < 9 → (nmA i).length ≤ 8 := by decide
theorem nmB_le : ∀ i, i < 9 → (nmB i).length ≤ 8 := by decide
theorem nmB_z : ∀ i, i < 9 → ∀ j, j < (nmB i).length → (nmB i).getD j 0 ≠ 0 := by decide
theorem nmB_m : ∀ i, i < 9 → ∀ c ∈ nmB i, c ≠ 0 := by decide
theorem nmA_m : ∀ i, i < 9 → ∀ c ∈ nmA i, c ≠ 0 := by decide
theorem nmA_4 : ∀ i, i < 4 → nmA i = nmB i ++ [32] := by decide
theorem nmB_4 : ∀ i, i < 9 → 4 ≤ i → nmB i = nmA i := by decide
theorem nameAt_v : ∀ i : Nat, i < 9 → ∀ j : Nat, j < 9 → F_X11_nameAt (i : Int) (j : Int) = some (((nmB i).getD j 0 : Nat) : Int) := by decide +kernel
section
variable {T pr : List Int} {p : Nat} {op : Int} {M : zM}
theorem CP_same (hT : txtT T) (h : cpS T pr p M) {i : Nat} (hi : i < 9) (hp : p ≤ 60) : F_X1_sameCharacters i M = some ((preT T p (nmA i) : Nat) : Int) := by
  have h8 := nmA_le i hi
  have hz : zsl i = ((nmA i).length : Int) := rfl
  refine Ok.eqs (b := ((preT T p (nmA i) : Nat) : Int)) ?_
  unfold F_X1_sameCharacters F_X1_sameCharacters_L4
  refine Ok.loop (fun z => ∃ j : Nat, z.1 = j ∧ z.2 = j ∧ j ≤ (nmA i).length ∧ ∀ t, t < j → chT T (p + t) = (((nmA i).getD t 0 : Nat) : Int)) (fun z => (100 - z.1).toNat) (fun e => e = ((preT T p (nmA i) : Nat) : Int)) ⟨0, rfl, rfl, Nat.zero_le _, fun t ht => absurd ht (Nat.not_lt_zero t)⟩ (by show (100 - (0 : Int)).toNat < zN; decide) ?_ (fun e he => by unfold F_X1_sameCharacters_J39; exact Ok.ret he)
  rintro ⟨v2, v3⟩ ⟨j, i1, i2, i3, i4⟩
  dsimp only at i1 i2 i3 i4 ⊢
  subst i1
  subst i2
  unfold F_X1_sameCharacters_B4
  rw [hz]
  refine Ok.chk hi (Ok.ite (fun c => ?_) (fun c => Ok.ret ?_))
  · rw [h.2.2.1, w_id (a := (p : Int) + j) (by omega), show (p : Int) + j = ((p + j : Nat) : Int) by omega, CP_at hT h (p + j)]
    simp only [zb1_some]
    have hs : zsc i (j : Int) = (((nmA i).getD j 0 : Nat) : Int) := rfl
    rw [hs]
    refine Ok.chk hi (Ok.chk ⟨by omega, c⟩ (Ok.ite (fun e => ?_) (fun e => Ok.ret ?_)))
    · rw [w_id (a := (j : Int) + 1) (by omega)]
      refine Ok.lett (Ok.lett (Ok.ret ⟨⟨j + 1, by show (j : Int) + 1 = _; omega, by show (j : Int) + 1 = _; omega, by omega, fun t ht => ?_⟩, by show (100 - ((j : Int) + 1)).toNat < (100 - (j : Int)).toNat; omega⟩))
      by_cases q : t = j
      · rw [q]; exact e
      · exact i4 t (by omega)
    · show (j : Int) = _
      rw [preT_u (nmA i) p j i3 i4 (fun _ => e)]
  · show (j : Int) = _
    rw [preT_u (nmA i) p j i3 i4 (fun q => absurd q (by omega))]
theorem zmax_n {a b : Nat} : zmax (a : Int) (b : Int) = ((if a < b then b else a : Nat) : Int) := by
  unfold zmax
  by_cases e : a < b
  · rw [if_pos e, if_pos (by omega)]
  · rw [if_neg e, if_neg (by omega)]
theorem CP_kind (hT : txtT T) (h : cpS T pr 0 M) : Ok (F_X1_readKind M) (fun r => ∃ t, isF (fun j => preT T 0 (nmA j)) (fun j => (nmA j).length) 4 t ∧ pfr M r.2 ∧ ((t < 4 ∧ r.1 = (t : Int) ∧ cpS T pr (nmA t).length r.2) ∨ (t = 4 ∧ r.1 = -1 ∧ r.2 2 4 = ((mxN (fun j => preT T 0 (nmA j)) 4 : Nat) : Int)))) := by
  unfold F_X1_readKind F_X1_readKind_L4
  refine Ok.loop (fun z => ∃ t : Nat, z.2 = t ∧ t ≤ 4 ∧ z.1 = ((mxN (fun j => preT T 0 (nmA j)) t : Nat) : Int) ∧ ∀ j, j < t → preT T 0 (nmA j) ≠ (nmA j).length) (fun z => (100 - z.2).toNat) (fun e => match e with | .inl r => ∃ t : Nat, t < 4 ∧ r.1 = (t : Int) ∧ r.2 = ((nmA t).length : Int) ∧ isF (fun j => preT T 0 (nmA j)) (fun j => (nmA j).length) 4 t | .inr r => r = ((mxN (fun j => preT T 0 (nmA j)) 4 : Nat) : Int) ∧ isF (fun j => preT T 0 (nmA j)) (fun j => (nmA j).length) 4 4) ⟨0, rfl, by omega, rfl, fun j hj => absurd hj (Nat.not_lt_zero j)⟩ (by show (100 - (0 : Int)).toNat < zN; decide) ?_ ?_
  · rintro ⟨v1, v2⟩ ⟨t, i1, i2, i3, i4⟩
    dsimp only at i1 i2 i3 i4 ⊢
    subst i1
    subst i3
    unfold F_X1_readKind_B4
    refine Ok.ite (fun c => ?_) (fun c => Ok.ret ?_)
    · have ht : t < 4 := by omega
      have hk : F_X1_kindName (t : Int) = some t := by
        unfold F_X1_kindName
        obtain e | e | e | e : t = 0 ∨ t = 1 ∨ t = 2 ∨ t = 3 := by omega
        · rw [e]; rfl
        · rw [e]; rfl
        · rw [e]; rfl
        · rw [e]; rfl
      rw [hk]
      simp only [zb1_some]
      rw [CP_same hT h (i := t) (by omega) (by decide)]
      simp only [zb1_some]
      have hz : zsl t = ((nmA t).length : Int) := rfl
      rw [zmax_n, hz]
      refine Ok.lett (Ok.chk (by omega) (Ok.ite (fun e => Ok.ret ?_) (fun e => ?_)))
      · exact ⟨t, ht, rfl, e, i2, i4, fun _ => by dsimp only; omega⟩
      · rw [w_id (a := (t : Int) + 1) (by omega)]
        refine Ok.lett (Ok.ret ⟨⟨t + 1, by show (t : Int) + 1 = _; omega, by omega, rfl, fun j hj => ?_⟩, by show (100 - ((t : Int) + 1)).toNat < (100 - (t : Int)).toNat; omega⟩)
        by_cases q : j = t
        · rw [q]; omega
        · exact i4 j (by omega)
    · have e4 : t = 4 := by omega
      subst e4
      exact ⟨rfl, by omega, i4, fun q => absurd q (by omega)⟩
  · intro e he
    cases e with
    | inl r =>
      obtain ⟨t, a1, a2, a3, a4⟩ := he
      show Ok (F_X1_readKind_J37 r.1 r.2 M) _
      unfold F_X1_readKind_J37
      rw [a3]
      exact Ok.lett (Ok.ret ⟨t, a4, (h.mv (nmA t).length).2, Or.inl ⟨a1, a2, (h.mv (nmA t).length).1⟩⟩)
    | inr r =>
      obtain ⟨a1, a2⟩ := he
      show Ok (F_X1_readKind_J51 r M) _
      unfold F_X1_readKind_J51
      rw [a1]
      exact Ok.lett (Ok.ret ⟨4, a2, (h.mv (mxN (fun j => preT T 0 (nmA j)) 4)).2, Or.inr ⟨rfl, rfl, (h.mv (mxN (fun j => preT T 0 (nmA j)) 4)).1.2.2.1⟩⟩)
theorem CP_mode (hT : txtT T) (h : cpS T pr p M) (hp : p ≤ 60) : Ok (F_X1_readMode M) (fun r => ∃ t, isF (fun j => preT T p (nmA (4 + j))) (fun j => (nmA (4 + j)).length) 5 t ∧ (∀ b, b ≠ 2 → r.2 b = M b) ∧ r.2 2 3 = M 2 3 ∧ ((t < 5 ∧ r.1 = 1 ∧ r.2 2 4 = ((p + mxN (fun j => preT T p (nmA (4 + j))) (t + 1) : Nat) : Int) ∧ r.2 2 8 = (t : Int)) ∨ (t = 5 ∧ r.1 = 0 ∧ r.2 2 4 = ((p + mxN (fun j => preT T p (nmA (4 + j))) 5 : Nat) : Int)))) := by
  have hmx : ∀ t, t ≤ 5 → mxN (fun j => preT T p (nmA (4 + j))) t ≤ 8 := by
    intro t
    induction t with
    | zero => intro _; exact Nat.zero_le 8
    | succ t ih =>
      intro ht
      have h1 := ih (by omega)
      have h2 := preT_le (T := T) (nmA (4 + t)) p
      have h3 := nmA_le (4 + t) (by omega)
      unfold mxN
      by_cases e : mxN (fun j => preT T p (nmA (4 + j))) t < preT T p (nmA (4 + t))
      · rw [if_pos e]; omega
      · rw [if_neg e]; exact h1
  unfold F_X1_readMode F_X1_readMode_L6
  refine Ok.loop (fun z => ∃ t u : Nat, z.2.2.1 = u ∧ u ≤ 5 ∧ z.1 = ((mxN (fun j => preT T p (nmA (4 + j))) u : Nat) : Int) ∧ ((z.2.1 = 0 ∧ t = u ∧ z.2.2.2 = M ∧ ∀ j, j < t → preT T p (nmA (4 + j)) ≠ (nmA (4 + j)).length) ∨ (z.2.1 = 1 ∧ u = t + 1 ∧ z.2.2.2 = zs M 2 8 (t : Int) ∧ isF (fun j => preT T p (nmA (4 + j))) (fun j => (nmA (4 + j)).length) 5 t))) (fun z => (100 - z.2.2.1).toNat) (fun e => ∃ t u : Nat, u ≤ 5 ∧ e.1 = ((mxN (fun j => preT T p (nmA (4 + j))) u : Nat) : Int) ∧ isF (fun j => preT T p (nmA (4 + j))) (fun j => (nmA (4 + j)).length) 5 t ∧ ((e.2.1 = 0 ∧ t = u ∧ t = 5 ∧ e.2.2 = M) ∨ (e.2.1 = 1 ∧ u = t + 1 ∧ t < 5 ∧ e.2.2 = zs M 2 8 (t : Int)))) ⟨0, 0, rfl, by omega, rfl, Or.inl ⟨rfl, rfl, rfl, fun j hj => absurd hj (Nat.not_lt_zero j)⟩⟩ (by show (100 - (0 : Int)).toNat < zN; decide) ?_ ?_
  · rintro ⟨v1, v2, v3, M1⟩ ⟨t, u, i1, i2, i3, i4⟩
    dsimp only at i1 i2 i3 i4 ⊢
    subst i1
    subst i3
    unfold F_X1_readMode_B6
    rcases i4 with ⟨j1, j2, j3, j4⟩ | ⟨j1, j2, j3, j4⟩
    · subst j1
      subst j2
      subst j3
      refine Ok.ite (fun c => ?_) (fun c => Ok.ret ?_)
      · have ht : t < 5 := by omega
        have hk : F_X1_modeName (t : Int) = some (4 + t) := by
          unfold F_X1_modeName
          obtain e | e | e | e | e : t = 0 ∨ t = 1 ∨ t = 2 ∨ t = 3 ∨ t = 4 := by omega
          · rw [e]; rfl
          · rw [e]; rfl
          · rw [e]; rfl
          · rw [e]; rfl
          · rw [e]; rfl
        rw [hk]
        simp only [zb1_some]
        rw [CP_same hT h (i := 4 + t) (by omega) hp]
        simp only [zb1_some]
        have hz : zsl (4 + t) = ((nmA (4 + t)).length : Int) := rfl
        rw [zmax_n, hz]
        unfold F_X1_readMode_J53
        rw [w_id (a := (t : Int) + 1) (by omega)]
        refine Ok.pos trivial (Ok.lett (Ok.chk (by omega) (Ok.ite (fun e => ?_) (fun e => ?_))))
        · refine Ok.lett (Ok.lett (Ok.ret ⟨⟨t, t + 1, by show (t : Int) + 1 = _; omega, by omega, rfl, Or.inr ⟨rfl, rfl, rfl, i2, j4, fun _ => by dsimp only; omega⟩⟩, by show (100 - ((t : Int) + 1)).toNat < (100 - (t : Int)).toNat; omega⟩))
        · refine Ok.lett (Ok.ret ⟨⟨t + 1, t + 1, by show (t : Int) + 1 = _; omega, by omega, rfl, Or.inl ⟨rfl, rfl, rfl, fun j hj => ?_⟩⟩, by show (100 - ((t : Int) + 1)).toNat < (100 - (t : Int)).toNat; omega⟩)
          by_cases q : j = t
          · rw [q]; omega
          · exact j4 j (by omega)
      · have e5 : t = 5 := by omega
        subst e5
        exact ⟨5, 5, by omega, rfl, ⟨by omega, j4, fun q => absurd q (by omega)⟩, Or.inl ⟨rfl, rfl, rfl, rfl⟩⟩
    · subst j1
      subst j2
      subst j3
      have hx : Turn (fun z : Int × Int × Int × zM => ∃ t u : Nat, z.2.2.1 = u ∧ u ≤ 5 ∧ z.1 = ((mxN (fun j => preT T p (nmA (4 + j))) u : Nat) : Int) ∧ ((z.2.1 = 0 ∧ t = u ∧ z.2.2.2 = M ∧ ∀ j, j < t → preT T p (nmA (4 + j)) ≠ (nmA (4 + j)).length) ∨ (z.2.1 = 1 ∧ u = t + 1 ∧ z.2.2.2 = zs M 2 8 (t : Int) ∧ isF (fun j => preT T p (nmA (4 + j))) (fun j => (nmA (4 + j)).length) 5 t))) (fun z => (100 - z.2.2.1).toNat) (fun e : Int × Int × zM => ∃ t u : Nat, u ≤ 5 ∧ e.1 = ((mxN (fun j => preT T p (nmA (4 + j))) u : Nat) : Int) ∧ isF (fun j => preT T p (nmA (4 + j))) (fun j => (nmA (4 + j)).length) 5 t ∧ ((e.2.1 = 0 ∧ t = u ∧ t = 5 ∧ e.2.2 = M) ∨ (e.2.1 = 1 ∧ u = t + 1 ∧ t < 5 ∧ e.2.2 = zs M 2 8 (t : Int)))) (((mxN (fun j => preT T p (nmA (4 + j))) (t + 1) : Nat) : Int), 1, ((t + 1 : Nat) : Int), zs M 2 8 (t : Int)) (.inr (((mxN (fun j => preT T p (nmA (4 + j))) (t + 1) : Nat) : Int), 1, zs M 2 8 (t : Int))) := ⟨t, t + 1, i2, rfl, j4, Or.inr ⟨rfl, rfl, by omega, rfl⟩⟩
      exact Ok.ite (fun _ => Ok.neg (by decide) (Ok.ret hx)) (fun _ => Ok.ret hx)
  · rintro ⟨v1, v2, M1⟩ ⟨t, u, a1, a2, a3, a4⟩
    dsimp only at a1 a2 a3 a4 ⊢
    unfold F_X1_readMode_J59
    subst a2
    have hb := hmx u a1
    rcases a4 with ⟨b1, b2, b3, b4⟩ | ⟨b1, b2, b3, b4⟩
    · subst b1
      subst b4
      subst b2
      rw [h.2.2.1, w_id (by omega), show (p : Int) + ((mxN (fun j => preT T p (nmA (4 + j))) t : Nat) : Int) = ((p + mxN (fun j => preT T p (nmA (4 + j))) t : Nat) : Int) by omega]
      refine Ok.lett (Ok.chk (by decide) (Ok.ret ⟨t, a3, fun b hb => zs_ne _ _ _ hb, ?_, Or.inr ⟨b3, rfl, ?_⟩⟩))
      · dsimp only
        rw [zs_off _ _ (Or.inr (by decide))]
      · rw [← b3]
        dsimp only
        rw [zs_at]
    · subst b1
      subst b4
      subst b2
      have e4 : zs M 2 8 (t : Int) 2 4 = (p : Int) := by rw [zs_off _ _ (Or.inr (by decide))]; exact h.2.2.1
      rw [e4, w_id (by omega), show (p : Int) + ((mxN (fun j => preT T p (nmA (4 + j))) (t + 1) : Nat) : Int) = ((p + mxN (fun j => preT T p (nmA (4 + j))) (t + 1) : Nat) : Int) by omega]
      refine Ok.lett (Ok.chk (by decide) (Ok.ret ⟨t, a3, fun b hb => ?_, ?_, Or.inl ⟨b3, rfl, by dsimp only; rw [zs_at], ?_⟩⟩))
      · dsimp only
        rw [zs_ne _ _ _ hb, zs_ne _ _ _ hb]
      · dsimp only
        rw [zs_off _ _ (Or.inr (by decide)), zs_off _ _ (Or.inr (by decide))]
      · dsimp only
        rw [zs_off _ _ (Or.inr (by decide)), zs_at]
end
