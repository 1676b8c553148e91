/-! PURE 71: texts: names on the reference's side; both sides compared -/
theorem nm_out {l : List Nat} {j : Nat} (h : l.length ≤ j) : l.getD j 0 = 0 := by
  rw [List.getD_eq_getElem?_getD, List.getElem?_eq_none h]; rfl
section
variable {T pr : List Int} {p : Nat} {op : Int} {M : zM}
theorem MP_name {a n : Nat} (hT : txtT T) (h : mpS T pr p op M) (hp : p ≤ 10) (ha : a + n ≤ 9) (hn : 0 < n) : Ok (F_X11_readName (a : Int) ((a + n - 1 : Nat) : Int) M) (fun r => ∃ t, isF (fun j => preT T p (nmB (a + j))) (fun j => (nmB (a + j)).length) n t ∧ ((t < n ∧ r.1 = ((a + t : Nat) : Int) ∧ mOk T pr (p + (nmB (a + t)).length) op M r.2) ∨ (t = n ∧ r.1 = -1 ∧ mFt (p + mxN (fun j => preT T p (nmB (a + j))) n) M r.2))) := by
  have h60 := hT.1
  have inner : ∀ t : Nat, t < n → ∀ v3 : Int, F_X11_readName_L14 ((a + n - 1 : Nat) : Int) v3 ((a + t : Nat) : Int) 0 M = F_X11_readName_J66 ((a + n - 1 : Nat) : Int) v3 ((a + t : Nat) : Int) ((preT T p (nmB (a + t)) : Nat) : Int) M := fun t ht v3 => by
    have h8 := nmB_le (a + t) (by omega)
    have hz := nmB_z (a + t) (by omega)
    unfold F_X11_readName_L14
    have hl : Ok (zloop (fun (s : Int) => F_X11_readName_B14 ((a + n - 1 : Nat) : Int) v3 ((a + t : Nat) : Int) s M) zN 0) (fun e => e = ((preT T p (nmB (a + t)) : Nat) : Int)) := by
      refine lp_all (fun z : Int => ∃ j : Nat, z = j ∧ j ≤ (nmB (a + t)).length ∧ ∀ i, i < j → chT T (p + i) = (((nmB (a + t)).getD i 0 : Nat) : Int)) (fun z : Int => (100 - z).toNat) (fun e => e = ((preT T p (nmB (a + t)) : Nat) : Int)) ?_ zN 0 ⟨0, rfl, Nat.zero_le _, fun i hi => absurd hi (Nat.not_lt_zero i)⟩ (by show (100 - (0 : Int)).toNat < zN; decide)
      rintro v5 ⟨j, rfl, i2, i3⟩
      unfold F_X11_readName_B14
      rw [h.2.1, h.1, w_id (a := (p : Int) + j) (by omega), nameAt_v (a + t) (by omega) j (by omega)]
      simp only [zb1_some]
      refine Ok.ite (fun c => Ok.ite (fun e => Ok.ret ?_) (fun e => Ok.chk ⟨by omega, by omega⟩ ?_)) (fun c => Ok.ret ?_)
      · show (j : Int) = _
        rw [preT_u (nmB (a + t)) p j i2 i3 (fun q => absurd (by omega) (hz j q))]
      · have hv : M 54 ((p : Int) + j) = chT T (p + j) := by
          rw [show (p : Int) + j = ((p + j : Nat) : Int) by omega]
          exact h.2.2.2.2.2.1 (p + j) _ (chT_in (by omega))
        rw [hv]
        have hj : j < (nmB (a + t)).length := by
          rcases Nat.lt_or_ge j (nmB (a + t)).length with q | q
          · exact q
          · refine absurd ?_ e
            rw [nm_out q]
            rfl
        refine Ok.ite (fun e2 => ?_) (fun e2 => Ok.ret ?_)
        · rw [w_id (a := (j : Int) + 1) (by omega)]
          refine Ok.lett (Ok.ret ⟨⟨j + 1, by omega, by omega, fun i hi => ?_⟩, by show (100 - ((j : Int) + 1)).toNat < (100 - (j : Int)).toNat; omega⟩)
          by_cases q : i = j
          · rw [q]; exact e2
          · exact i3 i (by omega)
        · show (j : Int) = _
          rw [preT_u (nmB (a + t)) p j i2 i3 (fun _ => e2)]
      · show (j : Int) = _
        rw [preT_u (nmB (a + t)) p j i2 i3 (fun q => by rw [chT_out (by omega)]; have := hz j q; omega)]
    obtain ⟨e, e1, e2⟩ := hl
    rw [e1, e2]
    exact zb1_some _ _
  unfold F_X11_readName F_X11_readName_L5
  refine Ok.loop (fun z => ∃ t : Nat, z.2 = ((a + t : Nat) : Int) ∧ t ≤ n ∧ z.1 = ((mxN (fun j => preT T p (nmB (a + j))) t : Nat) : Int) ∧ ∀ j, j < t → preT T p (nmB (a + j)) ≠ (nmB (a + j)).length) (fun z => (100 - z.2).toNat) (fun e => match e with | .inl r => ∃ t : Nat, t < n ∧ r.1 = ((a + t : Nat) : Int) ∧ r.2 = ((nmB (a + t)).length : Int) ∧ isF (fun j => preT T p (nmB (a + j))) (fun j => (nmB (a + j)).length) n t | .inr r => r = ((mxN (fun j => preT T p (nmB (a + j))) n : Nat) : Int) ∧ isF (fun j => preT T p (nmB (a + j))) (fun j => (nmB (a + j)).length) n n) ⟨0, rfl, by omega, rfl, fun j hj => absurd hj (Nat.not_lt_zero j)⟩ (by show (100 - (a : Int)).toNat < zN; rw [zN_v]; omega) ?_ ?_
  · rintro ⟨v3, v4⟩ ⟨t, i1, i2, i3, i4⟩
    dsimp only at i1 i2 i3 i4 ⊢
    subst i1
    subst i3
    unfold F_X11_readName_B5
    refine Ok.ite (fun c => Ok.ret ?_) (fun c => ?_)
    · have e4 : t = n := by omega
      subst e4
      exact ⟨rfl, by omega, i4, fun q => absurd q (by omega)⟩
    · have ht : t < n := by omega
      have h8 := nmB_le (a + t) (by omega)
      have hz := nmB_z (a + t) (by omega)
      have hle := preT_le (T := T) (nmB (a + t)) p
      rw [inner t ht]
      unfold F_X11_readName_J66
      rw [nameAt_v (a + t) (by omega) _ (by omega)]
      simp only [zb1_some]
      by_cases e : preT T p (nmB (a + t)) = (nmB (a + t)).length
      · have e0 : (((nmB (a + t)).getD (preT T p (nmB (a + t))) 0 : Nat) : Int) = 0 := by
          rw [nm_out (by omega)]
          rfl
        refine Ok.pos e0 (Ok.ret ?_)
        refine ⟨t, ht, rfl, ?_, i2, i4, fun _ => e⟩
        show ((preT T p (nmB (a + t)) : Nat) : Int) = _
        rw [e]
      · have e0 := hz (preT T p (nmB (a + t))) (by omega)
        refine Ok.neg (by omega) ?_
        rw [zmax_n, w_id (a := ((a + t : Nat) : Int) + 1) (by omega)]
        refine Ok.lett (Ok.lett (Ok.ret ⟨⟨t + 1, by show ((a + t : Nat) : Int) + 1 = _; omega, by omega, rfl, fun j hj => ?_⟩, by show (100 - (((a + t : Nat) : Int) + 1)).toNat < (100 - ((a + t : Nat) : Int)).toNat; omega⟩))
        by_cases q : j = t
        · rw [q]; exact e
        · exact i4 j (by omega)
  · intro e he
    cases e with
    | inl r =>
      obtain ⟨t, a1, a2, a3, a4⟩ := he
      have h8 := nmB_le (a + t) (by omega)
      show Ok (F_X11_readName_J76 r.1 r.2 M) _
      unfold F_X11_readName_J76
      rw [a3, h.2.1, w_id (by omega), show (p : Int) + ((nmB (a + t)).length : Int) = ((p + (nmB (a + t)).length : Nat) : Int) by omega]
      exact Ok.lett (Ok.ret ⟨t, a4, Or.inl ⟨a1, a2, h.mv (p + (nmB (a + t)).length)⟩⟩)
    | inr r =>
      obtain ⟨a1, a2⟩ := he
      have hmx : ∀ t, t ≤ n → mxN (fun j => preT T p (nmB (a + j))) t ≤ 8 := by
        intro t
        induction t with
        | zero => intro _; exact Nat.zero_le 8
        | succ t ih =>
          intro ht
          have h1 := ih (by omega)
          have h2 := preT_le (T := T) (nmB (a + t)) p
          have h3 := nmB_le (a + t) (by omega)
          unfold mxN
          by_cases e : mxN (fun j => preT T p (nmB (a + j))) t < preT T p (nmB (a + t))
          · rw [if_pos e]; omega
          · rw [if_neg e]; exact h1
      have h9 := hmx n (Nat.le_refl n)
      show Ok (F_X11_readName_J103 r M) _
      unfold F_X11_readName_J103
      rw [a1, h.2.1, w_id (by omega), show (p : Int) + ((mxN (fun j => preT T p (nmB (a + j))) n : Nat) : Int) = ((p + mxN (fun j => preT T p (nmB (a + j))) n : Nat) : Int) by omega]
      exact Ok.lett (Ok.ret ⟨n, a2, Or.inr ⟨rfl, rfl, h.ft _⟩⟩)
end
/-- kinds: with the space on the one side, without it on the other -/
theorem kinds_eq {T : List Int} {t u : Nat} (ht : isF (fun j => preT T 0 (nmA j)) (fun j => (nmA j).length) 4 t) (hu : isF (fun j => preT T 0 (nmB (0 + j))) (fun j => (nmB (0 + j)).length) 4 u) : (u < 4 ∧ chT T (nmB u).length = 32 ∧ t = u ∧ (nmA u).length = (nmB u).length + 1) ∨ (u < 4 ∧ chT T (nmB u).length ≠ 32 ∧ t = 4 ∧ mxN (fun j => preT T 0 (nmA j)) 4 = (nmB u).length) ∨ (u = 4 ∧ t = 4 ∧ mxN (fun j => preT T 0 (nmA j)) 4 = mxN (fun j => preT T 0 (nmB (0 + j))) 4) := by
  have l0 : (nmB 0).length = 5 ∧ (nmB 1).length = 7 ∧ (nmB 2).length = 4 ∧ (nmB 3).length = 5 := by decide
  have l1 : (nmA 0).length = 6 ∧ (nmA 1).length = 8 ∧ (nmA 2).length = 5 ∧ (nmA 3).length = 6 := by decide
  have hA : ∀ j, j < 4 → preT T 0 (nmA j) = if preT T 0 (nmB j) = (nmB j).length then (if chT T (nmB j).length = 32 then (nmB j).length + 1 else (nmB j).length) else preT T 0 (nmB j) := fun j hj => by
    rw [nmA_4 j hj, preT_snoc, Nat.zero_add]
    rfl
  have first : ∃ i, i < 4 ∧ ∀ j, j < 4 → j ≠ i → preT T 0 (nmB j) = 0 := by
    have f0 : chT T 0 ≠ 97 → preT T 0 (nmB 0) = 0 := fun h => preT_h h
    have f1 : chT T 0 ≠ 99 → preT T 0 (nmB 1) = 0 := fun h => preT_h h
    have f2 : chT T 0 ≠ 109 → preT T 0 (nmB 2) = 0 := fun h => preT_h h
    have f3 : chT T 0 ≠ 108 → preT T 0 (nmB 3) = 0 := fun h => preT_h h
    have all : ∀ i, (i ≠ 0 → preT T 0 (nmB 0) = 0) → (i ≠ 1 → preT T 0 (nmB 1) = 0) → (i ≠ 2 → preT T 0 (nmB 2) = 0) → (i ≠ 3 → preT T 0 (nmB 3) = 0) → ∀ j, j < 4 → j ≠ i → preT T 0 (nmB j) = 0 := fun i a b c d j hj hi => by
      obtain e | e | e | e : j = 0 ∨ j = 1 ∨ j = 2 ∨ j = 3 := by omega
      · rw [e]; exact a (by omega)
      · rw [e]; exact b (by omega)
      · rw [e]; exact c (by omega)
      · rw [e]; exact d (by omega)
    by_cases c0 : chT T 0 = 97
    · exact ⟨0, by omega, all 0 (fun h => absurd rfl h) (fun _ => f1 (by omega)) (fun _ => f2 (by omega)) (fun _ => f3 (by omega))⟩
    by_cases c1 : chT T 0 = 99
    · exact ⟨1, by omega, all 1 (fun _ => f0 (by omega)) (fun h => absurd rfl h) (fun _ => f2 (by omega)) (fun _ => f3 (by omega))⟩
    by_cases c2 : chT T 0 = 109
    · exact ⟨2, by omega, all 2 (fun _ => f0 (by omega)) (fun _ => f1 (by omega)) (fun h => absurd rfl h) (fun _ => f3 (by omega))⟩
    · exact ⟨3, by omega, all 3 (fun _ => f0 (by omega)) (fun _ => f1 (by omega)) (fun _ => f2 (by omega)) (fun h => absurd rfl h)⟩
  obtain ⟨i, hi, hz⟩ := first
  have ht0 := ht.1
  have ht1 := ht.2.1
  have ht2 := ht.2.2
  have hu0 := hu.1
  have hu1 := hu.2.1
  have hu2 := hu.2.2
  dsimp only at ht1 ht2 hu1 hu2
  simp only [Nat.zero_add] at hu1 hu2 ⊢
  have hb := preT_le (T := T) (nmB i) 0
  have pos : ∀ j, j < 4 → 0 < (nmB j).length := by decide
  have lA : ∀ j, j < 4 → (nmA j).length = (nmB j).length + 1 := by decide
  have hAz : ∀ j, j < 4 → j ≠ i → preT T 0 (nmA j) = 0 := fun j hj hji => by
    have hp := pos j hj
    rw [hA j hj, if_neg (by rw [hz j hj hji]; omega), hz j hj hji]
  have mx : ∀ (k : Nat → Nat), (∀ j, j < 4 → j ≠ i → k j = 0) → mxN k 4 = k i := fun k hk => by
    have m : ∀ t, t ≤ 4 → mxN k t = if i < t then k i else 0 := by
      intro t
      induction t with
      | zero => intro _; rw [if_neg (by omega)]; rfl
      | succ t ih =>
        intro h4
        unfold mxN
        rw [ih (by omega)]
        by_cases e : t = i
        · subst e
          rw [if_neg (Nat.lt_irrefl t), if_pos (Nat.lt_succ_self t)]
          by_cases e2 : 0 < k t
          · rw [if_pos e2]
          · rw [if_neg e2]; omega
        · rw [hk t (by omega) e, if_neg (Nat.not_lt_zero _)]
          by_cases e2 : i < t
          · rw [if_pos e2, if_pos (by omega)]
          · rw [if_neg e2, if_neg (by omega)]
    rw [m 4 (Nat.le_refl 4), if_pos hi]
  rw [mx _ hAz, mx _ hz, hA i hi]
  have tz : ∀ j, j < 4 → j ≠ i → t ≠ j := fun j hj hji q => by
    have h1 := ht2 (by omega)
    rw [q, hAz j hj hji, lA j hj] at h1
    omega
  have uz : ∀ j, j < 4 → j ≠ i → u ≠ j := fun j hj hji q => by
    have h1 := hu2 (by omega)
    have h2 := pos j hj
    rw [q, hz j hj hji] at h1
    omega
  have hu' : u = i ∨ u = 4 := by
    rcases Nat.lt_or_ge u 4 with q | q
    · left
      by_cases e : u = i
      · exact e
      · exact absurd rfl (uz u q e)
    · right; omega
  have ht' : t = i ∨ t = 4 := by
    rcases Nat.lt_or_ge t 4 with q | q
    · left
      by_cases e : t = i
      · exact e
      · exact absurd rfl (tz t q e)
    · right; omega
  have hl := lA i hi
  by_cases e : preT T 0 (nmB i) = (nmB i).length
  · rw [if_pos e]
    have eu : u = i := by
      rcases hu' with q | q
      · exact q
      · exact absurd e (hu1 i (by omega))
    subst eu
    by_cases e2 : chT T (nmB u).length = 32
    · have e3 : preT T 0 (nmA u) = (nmA u).length := by rw [hA u hi, if_pos e, if_pos e2, hl]
      have et : t = u := by
        rcases ht' with q | q
        · exact q
        · exact absurd e3 (ht1 u (by omega))
      exact Or.inl ⟨hi, e2, et, hl⟩
    · have et : t = 4 := by
        rcases ht' with q | q
        · have h1 := ht2 (by omega)
          rw [q, hA u hi, if_pos e, if_neg e2] at h1
          omega
        · exact q
      rw [if_neg e2]
      exact Or.inr (Or.inl ⟨hi, e2, et, rfl⟩)
  · rw [if_neg e]
    have eu : u = 4 := by
      rcases hu' with q | q
      · exact absurd (by rw [q] at hu2; exact hu2 hi) e
      · exact q
    have et : t = 4 := by
      rcases ht' with q | q
      · have h1 := ht2 (by omega)
        rw [q, hA i hi, if_neg e] at h1
        omega
      · exact q
    exact Or.inr (Or.inr ⟨eu, et, rfl⟩)
/-- where a mode's name stands, no other name reaches farther -/
theorem modes_mx {T : List Int} {p t : Nat} (ht : t < 5) (h : preT T p (nmA (4 + t)) = (nmA (4 + t)).length) : mxN (fun j => preT T p (nmA (4 + j))) (t + 1) = (nmA (4 + t)).length := by
  have hd : ∀ (nm : List Nat) (q j : Nat), j < preT T q nm → chT T (q + j) = ((nm.getD j 0 : Nat) : Int) := by
    intro nm
    induction nm with
    | nil => intro q j hj; exact absurd hj (Nat.not_lt_zero j)
    | cons c r ih =>
      intro q j hj
      unfold preT at hj
      by_cases e : chT T q = (c : Int)
      · rw [if_pos e] at hj
        cases j with
        | zero => rw [List.getD_cons_zero]; exact e
        | succ j => rw [List.getD_cons_succ, show q + (j + 1) = q + 1 + j by omega]; exact ih (q + 1) j (by omega)
      · rw [if_neg e] at hj; exact absurd hj (Nat.not_lt_zero j)
  have two : ∀ i, i < 5 → ∀ j, j < i → ∃ k, k < (nmA (4 + i)).length ∧ (nmA (4 + i)).getD k 0 ≠ (nmA (4 + j)).getD k 0 ∧ k ≤ (nmA (4 + i)).length := by decide
  have le : ∀ j, j < t → preT T p (nmA (4 + j)) ≤ (nmA (4 + t)).length := fun j hj => by
    obtain ⟨k, k1, k2, k3⟩ := two t ht j hj
    rcases Nat.lt_or_ge k (preT T p (nmA (4 + j))) with q | q
    · have h1 := hd (nmA (4 + j)) p k q
      have h2 := hd (nmA (4 + t)) p k (by omega)
      rw [h1] at h2
      exact absurd (by omega) k2
    · omega
  have m : ∀ u, u ≤ t → mxN (fun j => preT T p (nmA (4 + j))) u ≤ (nmA (4 + t)).length := by
    intro u
    induction u with
    | zero => intro _; exact Nat.zero_le _
    | succ u ih =>
      intro hu
      have h1 := ih (by omega)
      have h2 := le u (by omega)
      unfold mxN
      by_cases e : mxN (fun j => preT T p (nmA (4 + j))) u < preT T p (nmA (4 + u))
      · rw [if_pos e]; exact h2
      · rw [if_neg e]; exact h1
  have h1 := m t (Nat.le_refl t)
  unfold mxN
  by_cases e : mxN (fun j => preT T p (nmA (4 + j))) t < preT T p (nmA (4 + t))
  · rw [if_pos e]; exact h
  · rw [if_neg e]; omega
