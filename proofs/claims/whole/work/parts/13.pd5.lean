/-! PURE 41: a place in order -/
noncomputable def rkn (ks : List Int) (v : Int) : Nat := (ks.filter (fun u => decide (u < v))).length
theorem flt_le : ∀ {l : List Int} {v v2 : Int}, v ≤ v2 → rkn l v ≤ rkn l v2
  | [], _, _, _ => Nat.le_refl _
  | a :: t, v, v2, h => by
    have ih := flt_le (l := t) h
    unfold rkn at ih ⊢
    rw [List.filter_cons, List.filter_cons]
    by_cases q : a < v
    · rw [if_pos (by simpa using q), if_pos (by simp; omega), List.length_cons, List.length_cons]; omega
    · rw [if_neg (by simpa using q)]
      by_cases q2 : a < v2
      · rw [if_pos (by simpa using q2), List.length_cons]; omega
      · rw [if_neg (by simpa using q2)]; exact ih
theorem flt_lt : ∀ {l : List Int} {v v2 : Int}, v ∈ l → v < v2 → rkn l v < rkn l v2
  | a :: t, v, v2, hm, h => by
    rcases List.mem_cons.mp hm with e | hm
    · subst e
      have ih := flt_le (l := t) (Int.le_of_lt h)
      unfold rkn at ih ⊢
      rw [List.filter_cons, List.filter_cons, if_neg (by simp), if_pos (by simpa using h), List.length_cons]
      omega
    · have ih := flt_lt hm h
      unfold rkn at ih ⊢
      rw [List.filter_cons, List.filter_cons]
      by_cases q : a < v
      · rw [if_pos (by simpa using q), if_pos (by simp; omega), List.length_cons, List.length_cons]; omega
      · rw [if_neg (by simpa using q)]
        by_cases q2 : a < v2
        · rw [if_pos (by simpa using q2), List.length_cons]; omega
        · rw [if_neg (by simpa using q2)]; exact ih
theorem rkn_inj {l : List Int} {v v2 : Int} (h : v ∈ l) (h2 : v2 ∈ l) (e : rkn l v = rkn l v2) : v = v2 := by
  by_cases q : v < v2
  · have := flt_lt h q; omega
  · by_cases q2 : v2 < v
    · have := flt_lt h2 q2; omega
    · omega
theorem rkn_len {l : List Int} {v : Int} (h : v ∈ l) : rkn l v < l.length := by
  have h1 := flt_lt h (show v < v + 1 by omega)
  have h2 : rkn l (v + 1) ≤ l.length := List.length_filter_le _ _
  omega
theorem rkn_ex {l : List Int} (hn : l.Nodup) {i : Nat} (hi : i < l.length) : ∃ v ∈ l, rkn l v = i := by
  by_cases h : ∃ v ∈ l, rkn l v = i
  · exact h
  · exfalso
    have h2 : ∀ v ∈ l, rkn l v ≠ i := fun v hv e => h ⟨v, hv, e⟩
    have hnd : (l.map (fun v => (rkn l v : Int))).Nodup := by
      rw [List.Nodup, List.pairwise_map]
      refine List.Pairwise.imp_of_mem ?_ hn
      intro a b ha hb hab e
      exact hab (rkn_inj ha hb (by omega))
    have hL : ((List.range l.length).map (fun k : Nat => (k : Int))).length = l.length := by rw [List.length_map, List.length_range]
    have hmi : (i : Int) ∈ (List.range l.length).map (fun k : Nat => (k : Int)) := List.mem_map.mpr ⟨i, List.mem_range.mpr hi, rfl⟩
    have := pg (l.map (fun v => (rkn l v : Int))) (((List.range l.length).map (fun k : Nat => (k : Int))).erase (i : Int)) hnd (fun y hy => by
      obtain ⟨v, hv, rfl⟩ := List.mem_map.mp hy
      refine (List.mem_erase_of_ne ?_).mpr (List.mem_map.mpr ⟨rkn l v, List.mem_range.mpr (rkn_len hv), rfl⟩)
      have := h2 v hv
      omega)
    rw [List.length_map, List.length_erase_of_mem hmi, hL] at this
    omega
theorem srt_rk : ∀ {s : List Int} {t : Nat} {v : Int}, s.Pairwise (· < ·) → s[t]? = some v → rkn s v = t
  | a :: s, 0, v, hs, h => by
    have e : a = v := by simpa using h
    subst e
    have hs2 := (List.pairwise_cons.mp hs).1
    unfold rkn
    rw [List.length_eq_zero_iff, List.filter_eq_nil_iff]
    intro u hu
    rcases List.mem_cons.mp hu with e | hu
    · rw [e]; simp
    · have := hs2 u hu; simp; omega
  | a :: s, t + 1, v, hs, h => by
    have h : s[t]? = some v := by simpa using h
    obtain ⟨hs1, hs2⟩ := List.pairwise_cons.mp hs
    have ih := srt_rk hs2 h
    have := hs1 v (List.mem_of_getElem? h)
    unfold rkn at ih ⊢
    rw [List.filter_cons, if_pos (by simpa using this), List.length_cons, ih]
theorem Ok.and {α : Type} {x : Option α} {P Q : α → Prop} (h : Ok x P) (i : Ok x Q) : Ok x (fun a => P a ∧ Q a) := by
  obtain ⟨a, h1, h2⟩ := h
  obtain ⟨b, i1, i2⟩ := i
  rw [h1] at i1
  cases i1
  exact ⟨a, h1, h2, i2⟩
theorem FX6_putInOrder_out {M : zM} {S : zS} {a : Nat} {k : Nat} {v : Int} (hk : zkd S a = 20) (hl : zlen S a < 1000000) (hlt : (k : Int) < zlen S a) : Ok (F_X6_putInOrder a (k : Int) v M S) (fun M1 => ∀ j : Int, (k : Int) < j → M1 a j = M a j) := by
  unfold F_X6_putInOrder
  refine Ok.lett ?_
  rw [w_id (a := (k : Int) - 1) (by omega)]
  unfold F_X6_putInOrder_L7
  refine Ok.loop (fun z => ∃ p : Nat, z.1 = p ∧ z.2.1 = (p : Int) - 1 ∧ p ≤ k ∧ ∀ j : Int, (k : Int) < j → z.2.2 a j = M a j) (fun z => (z.2.1 + 1).toNat) (fun e => ∃ p : Nat, e.1 = p ∧ p ≤ k ∧ ∀ j : Int, (k : Int) < j → e.2 a j = M a j) ⟨k, rfl, rfl, Nat.le_refl k, fun _ _ => rfl⟩ (by show ((k : Int) - 1 + 1).toNat < zN; rw [zN_v]; omega) ?_ ?_
  · rintro ⟨v3, v4, M1⟩ ⟨p, i1, i2, i3, i4⟩
    dsimp only at i1 i2 i3 i4 ⊢
    subst i1 i2
    unfold F_X6_putInOrder_B7
    refine Ok.ite (fun q => Ok.ret ⟨p, rfl, i3, i4⟩) (fun q => ?_)
    rw [FX6_at hk (by omega) (by omega)]
    simp only [zb1_some]
    refine Ok.ite (fun q2 => ?_) (fun q2 => Ok.ret ⟨p, rfl, i3, i4⟩)
    rw [w_id (a := (p : Int) - 1 + 1) (by omega), FX6_put hk (by omega) (by omega), w_id (a := (p : Int) - 1 + (-1)) (by omega)]
    simp only [zb1_some]
    refine Ok.lett (Ok.ret ⟨⟨p - 1, by show (p : Int) - 1 = _; omega, by show (p : Int) - 1 + -1 = _; omega, by omega, fun j hj => ?_⟩, by show ((p : Int) - 1 + -1 + 1).toNat < ((p : Int) - 1 + 1).toNat; omega⟩)
    show zs M1 a _ _ a j = M a j
    rw [zs_off _ _ (Or.inr (by omega))]
    exact i4 j hj
  · rintro ⟨v3, M1⟩ ⟨p, i1, i2, i3⟩
    dsimp only at i1 i2 i3 ⊢
    subst i1
    unfold F_X6_putInOrder_J45
    rw [FX6_put hk (by omega) (by omega)]
    simp only [zb1_some]
    refine Ok.ret (fun j hj => ?_)
    rw [zs_off _ _ (Or.inr (by omega))]
    exact i3 j hj
theorem pio_le {ws : List Int} {v : Int} {p : Nat} (hs : ws.Pairwise (· ≤ ·)) (h : pio ws v p) : (ws.take p ++ v :: ws.drop p).Pairwise (· ≤ ·) := by
  obtain ⟨h1, h2, h3⟩ := h
  rw [List.pairwise_append, List.pairwise_cons]
  have hs2 := hs
  rw [← List.take_append_drop p ws, List.pairwise_append] at hs2
  have hd : ∀ u ∈ ws.drop p, v < u := fun u hu => by
    obtain ⟨j, hj⟩ := List.mem_iff_getElem?.mp hu
    rw [List.getElem?_drop] at hj
    exact h3 (p + j) u (by omega) hj
  have ht : ∀ u ∈ ws.take p, u ≤ v := fun u hu => by
    obtain ⟨j, hj⟩ := List.mem_iff_getElem?.mp hu
    rw [List.getElem?_take] at hj
    by_cases q : j < p
    · rw [if_pos q] at hj; exact h2 j u q hj
    · rw [if_neg q] at hj; cases hj
  refine ⟨hs2.1, ⟨fun u hu => Int.le_of_lt (hd u hu), hs2.2.1⟩, fun a ha b hb => ?_⟩
  have := ht a ha
  rcases List.mem_cons.mp hb with e | hb
  · omega
  · have := hd b hb; omega
theorem FX6_sort {M : zM} {S : zS} {a : Nat} {ks : List Int} (hk : zkd S a = 20) (hl : zlen S a < 1000000) (hlt : (ks.length : Int) ≤ zlen S a) (hw : rowl (M a) ks) : Ok (F_X6_sort a (ks.length : Int) M S) (fun M1 => (∃ s : List Int, s.Perm ks ∧ s.Pairwise (· ≤ ·) ∧ rowl (M1 a) s) ∧ ∀ b, b ≠ a → M1 b = M b) := by
  unfold F_X6_sort F_X6_sort_L2
  refine Ok.loop (fun z => ∃ i : Nat, z.1 = i ∧ 1 ≤ i ∧ (∀ b, b ≠ a → z.2 b = M b) ∧ (∃ s : List Int, s.Perm (ks.take i) ∧ s.Pairwise (· ≤ ·) ∧ rowl (z.2 a) s) ∧ ∀ (j : Nat) (v : Int), i ≤ j → ks[j]? = some v → z.2 a j = v) (fun z => ((ks.length : Int) - z.1).toNat) (fun M1 => (∃ s : List Int, s.Perm ks ∧ s.Pairwise (· ≤ ·) ∧ rowl (M1 a) s) ∧ ∀ b, b ≠ a → M1 b = M b) ⟨1, rfl, Nat.le_refl 1, fun _ _ => rfl, ⟨ks.take 1, List.Perm.refl _, ?_, ?_⟩, fun j v _ h => hw j v h⟩ (by show ((ks.length : Int) - 1).toNat < zN; rw [zN_v]; omega) ?_ (fun M1 h => by unfold F_X6_sort_J23; exact Ok.ret h)
  · cases ks with
    | nil => exact List.Pairwise.nil
    | cons x t => exact List.pairwise_singleton _ _
  · intro i v hi
    rw [List.getElem?_take] at hi
    by_cases q : i < 1
    · rw [if_pos q] at hi; exact hw i v hi
    · rw [if_neg q] at hi; cases hi
  · rintro ⟨v2, M1⟩ ⟨i, i1, i2, i3, ⟨s, i4, i5, i6⟩, i7⟩
    dsimp only at i1 i2 i3 i4 i5 i6 i7 ⊢
    subst i1
    unfold F_X6_sort_B2
    refine Ok.ite (fun q => ?_) (fun q => Ok.ret ⟨⟨s, by rw [List.take_of_length_le (by omega)] at i4; exact i4, i5, i6⟩, i3⟩)
    have hi : i < ks.length := by omega
    have hg := List.getElem?_eq_getElem hi
    have htk : ks.take (i + 1) = ks.take i ++ [ks[i]] := List.take_succ_eq_append_getElem hi
    generalize ks[i] = v at hg htk
    have hat : M1 a i = v := i7 i v (Nat.le_refl i) hg
    have hsl : s.length = i := by rw [i4.length_eq, List.length_take]; omega
    rw [FX6_at hk (by omega) (by omega), hat]
    simp only [zb1_some]
    have hb := FX6_putInOrder (M := M1) (v := v) (k := (i : Int)) hk hl (by omega) i6 (by omega) i5
    have hb2 := FX6_putInOrder_out (M := M1) (v := v) (k := i) hk hl (by omega)
    refine Ok.b1 (hb.and hb2) (fun M2 ⟨⟨⟨p, p1, p2⟩, p3⟩, p4⟩ => ?_)
    rw [w_id (a := (i : Int) + 1) (by omega)]
    refine Ok.lett (Ok.ret ⟨⟨i + 1, by show (i : Int) + 1 = _; omega, by omega, fun b hb => (p3 b hb).trans (i3 b hb), ⟨_, ?_, pio_le i5 p1, p2⟩, fun j u hj hu => ?_⟩, by show ((ks.length : Int) - ((i : Int) + 1)).toNat < ((ks.length : Int) - (i : Int)).toNat; omega⟩)
    · rw [htk]
      have e1 : (s.take p ++ v :: s.drop p).Perm (v :: (s.take p ++ s.drop p)) := List.perm_middle
      rw [List.take_append_drop] at e1
      refine e1.trans ((i4.cons v).trans ?_)
      exact (List.perm_append_singleton v (ks.take i)).symm
    · show M2 a j = u
      rw [p4 j (by omega)]
      exact i7 j u (by omega) hu
