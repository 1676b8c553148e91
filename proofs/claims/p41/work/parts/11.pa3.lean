/-! PURE 12: the class's rows in order; words collected -/
theorem xk {S : zS} (hF : zFx S) (a : Nat) (k n : Nat) (e : (decide (0 < a) && decide (a < 90) && (zKL.getD a (0, 0)).1 == k && (zKL.getD a (0, 0)).2 == n) = true) : zkd S a = k ∧ zlen S a = (n : Int) := by
  simp only [Bool.and_eq_true] at e
  exact ⟨zFx_kd hF a (by rw [e.1.1.1, e.1.1.2, e.1.2]; rfl), zFx_ln hF a (by rw [e.1.1.1, e.1.1.2, e.2]; rfl)⟩
/-- ints of a fixed row -/
theorem xat {S : zS} (hF : zFx S) {M : zM} {i : Int} (a n : Nat) (e : (decide (0 < a) && decide (a < 90) && (zKL.getD a (0, 0)).1 == 20 && (zKL.getD a (0, 0)).2 == n) = true) (h0 : 0 ≤ i) (h1 : i < (n : Int)) : F_X6_at a i M S = some (M a i) := by
  obtain ⟨h2, h3⟩ := xk hF a 20 n e
  exact FX6_at h2 h0 (by rw [h3]; exact h1)
theorem xput {S : zS} (hF : zFx S) {M : zM} {i v : Int} (a n : Nat) (e : (decide (0 < a) && decide (a < 90) && (zKL.getD a (0, 0)).1 == 20 && (zKL.getD a (0, 0)).2 == n) = true) (h0 : 0 ≤ i) (h1 : i < (n : Int)) : F_X6_put a i v M S = some (zs M a i v) := by
  obtain ⟨h2, h3⟩ := xk hF a 20 n e
  exact FX6_put h2 h0 (by rw [h3]; exact h1)
theorem xput_out {S : zS} (hF : zFx S) {M : zM} {i v : Int} (a n : Nat) (e : (decide (0 < a) && decide (a < 90) && (zKL.getD a (0, 0)).1 == 20 && (zKL.getD a (0, 0)).2 == n) = true) (h : i < 0 ∨ (n : Int) ≤ i) : F_X6_put a i v M S = some M := by
  obtain ⟨h2, h3⟩ := xk hF a 20 n e
  exact FX6_put_out h2 (by rw [h3]; exact h)
/-- where a value goes in a row in order -/
def pio (ws : List Int) (v : Int) (p : Nat) : Prop := p ≤ ws.length ∧ (∀ (j : Nat) (u : Int), j < p → ws[j]? = some u → u ≤ v) ∧ ∀ (j : Nat) (u : Int), p ≤ j → ws[j]? = some u → v < u
theorem rowl_ext {f : Int → Int} {l : List Int} : rowl f l ↔ ∀ i : Nat, ∀ h : i < l.length, f i = l[i] := ⟨fun h i hi => h i _ (List.getElem?_eq_getElem hi), fun h i v hv => by
  obtain ⟨h1, h2⟩ := List.getElem?_eq_some_iff.mp hv
  rw [h i h1, h2]⟩
theorem FX6_putInOrder {M : zM} {S : zS} {a : Nat} {ws : List Int} {k v : Int} (hk : zkd S a = 20) (hl : zlen S a < 1000000) (hlt : (ws.length : Int) < zlen S a) (hw : rowl (M a) ws) (hkl : k = (ws.length : Int)) (hs : ws.Pairwise (· ≤ ·)) : Ok (F_X6_putInOrder a k v M S) (fun M1 => (∃ p, pio ws v p ∧ rowl (M1 a) (ws.take p ++ v :: ws.drop p)) ∧ ∀ b, b ≠ a → M1 b = M b) := by
  subst hkl
  have hw2 := rowl_ext.mp hw
  unfold F_X6_putInOrder
  refine Ok.lett ?_
  rw [w_id (a := (ws.length : Int) - 1) (by omega)]
  unfold F_X6_putInOrder_L7
  refine Ok.loop (fun z => ∃ p : Nat, z.1 = p ∧ z.2.1 = (p : Int) - 1 ∧ p ≤ ws.length ∧ (∀ b, b ≠ a → z.2.2 b = M b) ∧ (∀ j : Nat, j < p → z.2.2 a j = M a j) ∧ (∀ j : Nat, p < j → j ≤ ws.length → z.2.2 a j = M a ((j : Int) - 1)) ∧ ∀ (j : Nat) (u : Int), p ≤ j → ws[j]? = some u → v < u) (fun z => (z.2.1 + 1).toNat) (fun e => ∃ p : Nat, e.1 = p ∧ p ≤ ws.length ∧ (∀ b, b ≠ a → e.2 b = M b) ∧ (∀ j : Nat, j < p → e.2 a j = M a j) ∧ (∀ j : Nat, p < j → j ≤ ws.length → e.2 a j = M a ((j : Int) - 1)) ∧ pio ws v p) ⟨ws.length, rfl, rfl, Nat.le_refl _, fun _ _ => rfl, fun _ _ => rfl, fun j h1 h2 => by omega, fun j u h1 h2 => by rw [List.getElem?_eq_none h1] at h2; cases h2⟩ (by show ((ws.length : Int) - 1 + 1).toNat < zN; rw [zN_v]; omega) ?_ ?_
  · rintro ⟨v3, v4, M1⟩ ⟨p, i1, i2, i3, i4, i5, i6, i7⟩
    dsimp only at i1 i2 i3 i4 i5 i6 i7 ⊢
    subst i1 i2
    unfold F_X6_putInOrder_B7
    refine Ok.ite (fun q => Ok.ret ⟨p, rfl, i3, i4, i5, i6, i3, fun j u h1 => by omega, i7⟩) (fun q => ?_)
    obtain ⟨p1, rfl⟩ : ∃ p1 : Nat, p = p1 + 1 := ⟨p - 1, by omega⟩
    have hg := List.getElem?_eq_getElem (show p1 < ws.length by omega)
    have hv1 : M1 a ((p1 + 1 : Nat) - 1 : Int) = ws[p1] := by
      rw [show ((p1 + 1 : Nat) - 1 : Int) = (p1 : Int) by omega, i5 p1 (by omega)]
      exact hw2 p1 (by omega)
    rw [FX6_at hk (by omega) (by omega), hv1]
    simp only [zb1_some]
    refine Ok.ite (fun q2 => ?_) (fun q2 => Ok.ret ⟨p1 + 1, rfl, i3, i4, i5, i6, i3, fun j u h1 h2 => ?_, i7⟩)
    · rw [w_id (a := ((p1 + 1 : Nat) : Int) - 1 + 1) (by omega), FX6_put hk (by omega) (by omega)]
      simp only [zb1_some, zlet_eq]
      rw [w_id (a := ((p1 + 1 : Nat) : Int) - 1 + (-1)) (by omega)]
      refine Ok.ret ⟨⟨p1, by show ((p1 + 1 : Nat) : Int) - 1 = p1; omega, by show ((p1 + 1 : Nat) : Int) - 1 + -1 = _; omega, by omega, fun b hb => ?_, fun j hj => ?_, fun j h1 h2 => ?_, fun j u h1 h2 => ?_⟩, by show (((p1 + 1 : Nat) : Int) - 1 + -1 + 1).toNat < (((p1 + 1 : Nat) : Int) - 1 + 1).toNat; omega⟩
      · show zs M1 a _ _ b = _
        rw [zs_ne _ _ _ hb]; exact i4 b hb
      · show zs M1 a _ _ a j = _
        rw [zs_off _ _ (Or.inr (by omega))]; exact i5 j (by omega)
      · show zs M1 a _ _ a j = _
        by_cases e : j = p1 + 1
        · subst e
          rw [show ((p1 + 1 : Nat) : Int) - 1 + 1 = ((p1 + 1 : Nat) : Int) by omega, zs_at, show ((p1 + 1 : Nat) : Int) - 1 = (p1 : Int) by omega]
          exact (hw2 p1 (by omega)).symm
        · rw [zs_off _ _ (Or.inr (by omega))]; exact i6 j (by omega) h2
      · by_cases e : j = p1
        · subst e; rw [hg] at h2; cases h2; exact q2
        · exact i7 j u (by omega) h2
    · by_cases e : j = p1
      · subst e; rw [hg] at h2; cases h2; omega
      · obtain ⟨hj, hu⟩ := List.getElem?_eq_some_iff.mp h2
        have := (List.pairwise_iff_getElem.mp hs) j p1 hj (by omega) (by omega)
        rw [hu] at this; omega
  · rintro ⟨v3, M1⟩ ⟨p, i1, i2, i3, i4, i5, i6⟩
    dsimp only at i1 i2 i3 i4 i5 i6 ⊢
    subst i1
    unfold F_X6_putInOrder_J45
    rw [FX6_put hk (by omega) (by omega)]
    simp only [zb1_some]
    refine Ok.ret ⟨⟨p, i6, ?_⟩, fun b hb => by rw [zs_ne _ _ _ hb]; exact i3 b hb⟩
    rw [zs_eq]
    have hlen : (ws.take p ++ v :: ws.drop p).length = ws.length + 1 := by simp; omega
    refine rowl_ext.mpr (fun j hj => ?_)
    rw [hlen] at hj
    rcases Nat.lt_trichotomy j p with h | h | h
    · rw [up_ne _ _ (by omega), i4 j h, hw2 j (by omega), List.getElem_append_left (by simp; omega), List.getElem_take]
    · subst h
      rw [up_eq, List.getElem_append_right (by simp; omega)]
      simp [Nat.min_eq_left i2]
    · obtain ⟨j1, rfl⟩ : ∃ j1 : Nat, j = j1 + 1 := ⟨j - 1, by omega⟩
      rw [up_ne _ _ (by omega), i5 (j1 + 1) h (by omega), show ((j1 + 1 : Nat) : Int) - 1 = (j1 : Int) by omega, hw2 j1 (by omega), List.getElem_append_right (by simp; omega)]
      simp only [List.length_take, Nat.min_eq_left i2]
      rw [List.getElem_cons, dif_neg (by omega), List.getElem_drop]
      congr 1
      omega
/-- the value is put into a list in order -/
def inl (ws : List Int) (v : Int) (p : Nat) : List Int := ws.take p ++ v :: ws.drop p
theorem mem_inl {ws : List Int} {v u : Int} {p : Nat} : u ∈ inl ws v p ↔ u ∈ ws ∨ u = v := by
  unfold inl
  rw [List.mem_append, List.mem_cons]
  constructor
  · rintro (h | h | h)
    · exact Or.inl (List.mem_of_mem_take h)
    · exact Or.inr h
    · exact Or.inl (List.mem_of_mem_drop h)
  · rintro (h | h)
    · rw [← List.take_append_drop p ws, List.mem_append] at h
      rcases h with h | h
      · exact Or.inl h
      · exact Or.inr (Or.inr h)
    · exact Or.inr (Or.inl h)
theorem len_inl {ws : List Int} {v : Int} {p : Nat} (h : p ≤ ws.length) : (inl ws v p).length = ws.length + 1 := by unfold inl; simp; omega
theorem pio_t {ws : List Int} {v : Int} {p : Nat} (h : pio ws v p) : (∀ u ∈ ws.take p, u ≤ v) ∧ ∀ u ∈ ws.drop p, v < u := by
  constructor
  · intro u hu
    obtain ⟨j, hj⟩ := List.mem_iff_getElem?.mp hu
    rw [List.getElem?_take] at hj
    split at hj
    · exact h.2.1 j u (by assumption) hj
    · cases hj
  · intro u hu
    obtain ⟨j, hj⟩ := List.mem_iff_getElem?.mp hu
    rw [List.getElem?_drop] at hj
    exact h.2.2 (p + j) u (by omega) hj
theorem pw_inl {ws : List Int} {v : Int} {p : Nat} (hs : ws.Pairwise (· < ·)) (hv : v ∉ ws) (h : pio ws v p) : (inl ws v p).Pairwise (· < ·) := by
  obtain ⟨h1, h2⟩ := pio_t h
  have hs2 := hs
  rw [← List.take_append_drop p ws, List.pairwise_append] at hs2
  unfold inl
  rw [List.pairwise_append, List.pairwise_cons]
  refine ⟨hs2.1, ⟨fun u hu => h2 u hu, hs2.2.1⟩, fun u hu t ht => ?_⟩
  have hle := h1 u hu
  have hne : u ≠ v := fun e => hv (e ▸ List.mem_of_mem_take hu)
  rcases List.mem_cons.mp ht with rfl | ht
  · omega
  · have := h2 t ht; omega
theorem pw_le {ws : List Int} (hs : ws.Pairwise (· < ·)) : ws.Pairwise (· ≤ ·) := hs.imp (fun h => Int.le_of_lt h)
theorem take_inl {ws : List Int} {v : Int} {p i : Nat} (h : pio ws v p) (hi : ∀ u ∈ ws.take i, u ≤ v) (hl : i ≤ ws.length) : i ≤ p := by
  by_cases e : p < i
  · have hg := List.getElem?_eq_getElem (show p < ws.length by omega)
    have h1 := h.2.2 p _ (Nat.le_refl p) hg
    have h2 := hi ws[p] (List.mem_iff_getElem?.mpr ⟨p, by rw [List.getElem?_take, if_pos e]; exact hg⟩)
    omega
  · omega
theorem inl_take {ws : List Int} {v : Int} {p i : Nat} (h : i ≤ p) (hp : p ≤ ws.length) : (inl ws v p).take i = ws.take i := by
  unfold inl
  rw [List.take_append_of_le_length (by simp; omega), List.take_take, Nat.min_eq_left h]
