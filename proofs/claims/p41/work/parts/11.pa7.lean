/-! PURE 16: the words numbered -/
theorem frl_pre {P : Nat → Prop} {m n : Nat} (h : m ≤ n) : ∃ t, frl P n = frl P m ++ t := by
  induction n with
  | zero => rw [show m = 0 by omega]; exact ⟨[], by simp⟩
  | succ n ih =>
    by_cases e : m = n + 1
    · rw [e]; exact ⟨[], by simp⟩
    · obtain ⟨t, ht⟩ := ih (by omega)
      by_cases hp : P n
      · rw [frl_t hp, ht]; exact ⟨t ++ [n], by rw [List.append_assoc]⟩
      · rw [frl_f hp, ht]; exact ⟨t, rfl⟩
theorem frl_at {P : Nat → Prop} {k n : Nat} (hk : k < n) (hp : P k) : (frl P n)[(frl P k).length]? = some k := by
  obtain ⟨t, ht⟩ := frl_pre (P := P) (show k + 1 ≤ n by omega)
  rw [ht, frl_t hp, List.append_assoc, List.getElem?_append_right (Nat.le_refl _), Nat.sub_self]
  rfl
/-- the number of a word among those of D -/
noncomputable def pos (D : Int → Prop) (y : Int) : Int := (cnt D y.toNat : Int)
theorem wl_at {D : Int → Prop} {y : Int} (hy : wd y) (hD : D y) : (wl_ D)[cnt D y.toNat]? = some y := by
  have e : ((y.toNat : Nat) : Int) = y := by have := hy.1; omega
  unfold wl_
  rw [List.getElem?_map, show cnt D y.toNat = (frl (fun k : Nat => D k) y.toNat).length from rfl, frl_at (by have := hy.1; have := hy.2; omega) (by show D ((y.toNat : Nat) : Int); rw [e]; exact hD)]
  show some ((y.toNat : Nat) : Int) = some y
  rw [e]
theorem wl_idx {D : Int → Prop} {i : Nat} {y : Int} (h : (wl_ D)[i]? = some y) : cnt D y.toNat = i ∧ wd y ∧ D y := by
  have hm := mem_wl.mp (List.mem_of_getElem? h)
  have h2 := wl_at hm.1 hm.2
  refine ⟨?_, hm⟩
  obtain ⟨l1, e1⟩ := List.getElem?_eq_some_iff.mp h
  obtain ⟨l2, e2⟩ := List.getElem?_eq_some_iff.mp h2
  have hp := List.pairwise_iff_getElem.mp (pw_wl D)
  rcases Nat.lt_trichotomy (cnt D y.toNat) i with q | q | q
  · have := hp _ _ l2 l1 q; omega
  · exact q
  · have := hp _ _ l1 l2 q; omega
theorem pos_lt {D : Int → Prop} {y : Int} (hy : wd y) (hD : D y) : 0 ≤ pos D y ∧ pos D y < ((wl_ D).length : Int) := by
  have h := wl_at hy hD
  have := (List.getElem?_eq_some_iff.mp h).1
  unfold pos
  omega
/-- edges with the numbers of their words -/
noncomputable def eln (G : zGr) (D : Int → Prop) (x : Int) : List Int := (insL G x).map (fun r => mvc (pos D (insV G x r)) r)
def lang1 (G : zGr) (ax : List Int) (M : zM) : Prop := M 11 13 = ((wl_ (lcA G ax)).length : Int) ∧ (wl_ (lcA G ax)).length ≤ 300 ∧ rowl (M 12) (wl_ (lcA G ax)) ∧ (∀ y, wd y → (lcA G ax y → M 13 y = pos (lcA G ax) y + 1) ∧ (¬ lcA G ax y → M 13 y = 0)) ∧ rowl (M 14) ((wl_ (lcA G ax)).flatMap (eln G (lcA G ax))) ∧ (∀ k : Nat, k ≤ (wl_ (lcA G ax)).length → M 15 k = ((((wl_ (lcA G ax)).take k).flatMap (eln G (lcA G ax))).length : Int)) ∧ ∀ (i : Nat) (x : Int), (wl_ (lcA G ax))[i]? = some x → M 17 i = if x ∈ ax then 1 else 0
theorem ge_congr {l : List Int} {i j : Nat} (hi : i < l.length) (hj : j < l.length) (h : i = j) : l[i] = l[j] := by subst h; rfl
theorem fm_len_congr {f g : Int → List Int} : ∀ {l : List Int}, (∀ x, (f x).length = (g x).length) → (l.flatMap f).length = (l.flatMap g).length
  | [], _ => rfl
  | a :: l, h => by rw [List.flatMap_cons, List.flatMap_cons, List.length_append, List.length_append, h a, fm_len_congr (l := l) h]
theorem fm_map_congr {f g : Int → List Int} {c : Int → Int} : ∀ {l : List Int}, (∀ x ∈ l, (f x).map c = g x) → (l.flatMap f).map c = l.flatMap g
  | [], _ => rfl
  | a :: l, h => by rw [List.flatMap_cons, List.flatMap_cons, List.map_append, h a List.mem_cons_self, fm_map_congr (l := l) (fun x hx => h x (List.mem_cons_of_mem _ hx))]
theorem el_len {G : zGr} {D : Int → Prop} {x : Int} : (el G x).length = (eln G D x).length := by unfold el eln; rw [List.length_map, List.length_map]
theorem FX4_withWord {v m : Int} (hv : 0 ≤ v ∧ v < 29524) (hm : 0 ≤ m ∧ m < 2147483648) : F_X4_withWord m v = some (v * 2048 + m % 2048) := by
  unfold F_X4_withWord
  have e1 : zshl v 11 = v * 2048 := zshl_k hv.1 11 11 (by decide) (by show v * 2048 < _; omega)
  have z1 : zor (v * 2048) (m % 2048) = v * 2048 + m % 2048 := zor_add 11 v hv.1 rfl (by omega) (by omega) (by show m % 2048 < 2048; omega) (by decide)
  rw [e1, zand_2047 hm.1 hm.2, z1]
theorem mvc_m {y v : Int} {r : Nat} (hy : 0 ≤ y) (hr : r < 500) : v * 2048 + mvc y r % 2048 = mvc v r := by
  unfold mvc rs re
  omega
theorem FX3_placeOf {M : zM} {S : zS} {y : Int} (hF : zFx S) (hy : wd y) (hb : 0 ≤ M 13 y ∧ M 13 y ≤ 1000) : F_X3_placeOf y M S = some (M 13 y - 1) := by
  unfold F_X3_placeOf
  rw [xat hF 13 29524 rfl hy.1 hy.2]
  simp only [zb1_some]
  rw [w_id (by omega)]
theorem FX3_numberWords {M : zM} {S : zS} {G : zGr} {ax : List Int} (hF : zFx S) (hG : grok G) (hA : axC M ax) (hax : axok ax) (hcol : col M (wl_ (lcA G ax))) (hraw : raw G M (wl_ (lcA G ax))) (h17 : ∀ i : Int, 0 ≤ i → i < 300 → M 17 i = 0) : Ok (F_X3_numberWords M S) (fun M1 => lang1 G ax M1 ∧ lfr (fun b => b = 13 ∨ b = 14 ∨ b = 17) (fun _ => False) M M1) := by
  obtain ⟨c1, c2, c3, c4, c5, c6⟩ := hcol
  obtain ⟨r1, r2, r3⟩ := hraw
  generalize hDe : lcA G ax = D at *
  have hW : ∀ {y}, y ∈ wl_ D ↔ wd y ∧ D y := mem_wl
  have hDw : ∀ {y}, D y → wd y := fun h => by rw [← hDe] at h; exact (lc_wd hG hax h).1
  unfold F_X3_numberWords F_X3_numberWords_L2
  refine Ok.loop (fun z => ∃ j : Nat, z.1 = j ∧ j ≤ (wl_ D).length ∧ lfr (fun b => b = 13) (fun _ => False) M z.2 ∧ ∀ y, wd y → (D y → cnt D y.toNat < j → z.2 13 y = pos D y + 1) ∧ (¬ D y → z.2 13 y = 0)) (fun z => (400 - z.1).toNat) (fun M1 => lfr (fun b => b = 13) (fun _ => False) M M1 ∧ ∀ y, wd y → (D y → M1 13 y = pos D y + 1) ∧ (¬ D y → M1 13 y = 0)) ⟨0, rfl, by omega, lfr.refl, fun y hy => ⟨fun _ h => by omega, fun h => ?_⟩⟩ (by show (400 - (0 : Int)).toNat < zN; decide) ?_ ?_
  · by_cases e : M 13 y = 0
    · exact e
    · exact absurd (hW.mp ((c6 y hy).mp e)).2 h
  · rintro ⟨v2, M1⟩ ⟨j, i1, i2, i3, i4⟩
    dsimp only at i1 i2 i3 i4 ⊢
    subst i1
    unfold F_X3_numberWords_B2
    rw [i3.2 13 (fun q => q), c1]
    refine Ok.ite (fun q => ?_) (fun q => Ok.ret ⟨i3, fun y hy => ⟨fun h => (i4 y hy).1 h ?_, (i4 y hy).2⟩⟩)
    · have hj : j < (wl_ D).length := by omega
      have hg := List.getElem?_eq_getElem hj
      have hidx := wl_idx hg
      unfold F_X3_wordAt
      rw [xat hF 12 300 rfl (by omega) (by omega)]
      simp only [zb1_some]
      rw [i3.1 12 (by decide) (by decide), c3 j _ hg]
      generalize (wl_ D)[j] = x at hg hidx
      rw [w_id (a := (j : Int) + 1) (by omega), xput hF 13 29524 rfl hidx.2.1.1 hidx.2.1.2]
      simp only [zb1_some]
      refine Ok.lett (Ok.ret ⟨⟨j + 1, by show (j : Int) + 1 = _; omega, by omega, i3.trans (lfr.cell rfl (by decide)), fun y hy => ?_⟩, by show (400 - ((j : Int) + 1)).toNat < (400 - (j : Int)).toNat; omega⟩)
      show (D y → _ → zs M1 13 x _ 13 y = _) ∧ (_ → zs M1 13 x _ 13 y = 0)
      by_cases e : y = x
      · subst e
        rw [zs_at]
        exact ⟨fun _ _ => by unfold pos; rw [hidx.1], fun h => absurd hidx.2.2 h⟩
      · rw [zs_off _ _ (Or.inr e)]
        refine ⟨fun h1 h2 => (i4 y hy).1 h1 ?_, (i4 y hy).2⟩
        by_cases e2 : cnt D y.toNat = j
        · have := wl_at hy h1
          rw [e2, hg] at this
          exact absurd (Option.some.inj this).symm e
        · omega
    · have := (List.getElem?_eq_some_iff.mp (wl_at hy h)).1
      omega
  intro M1 ⟨hf1, hp1⟩
  have hpb : ∀ {M9 : zM}, M9 13 = M1 13 → ∀ {y}, wd y → 0 ≤ M9 13 y ∧ M9 13 y ≤ 1000 := fun e y hy => by
    rw [e]
    by_cases h : D y
    · rw [(hp1 y hy).1 h]; have := pos_lt hy h; omega
    · rw [(hp1 y hy).2 h]; decide
  -- the edges
  generalize hE : (wl_ D).flatMap (el G) = E at r1 r2
  have hEl : E.length ≤ 67500 := by
    have := fm_len (f := el G) (n := 225) (l := wl_ D) (fun y _ => by unfold el; rw [List.length_map]; exact len_insL hG)
    rw [hE] at this
    omega
  have hEm : ∀ m ∈ E, ∃ (y : Int) (r : Nat), m = mvc y r ∧ wd y ∧ D y ∧ r < 500 := fun m hm => by
    rw [← hE, List.mem_flatMap] at hm
    obtain ⟨x, hx, hm⟩ := hm
    have hxx := hW.mp hx
    obtain ⟨r, hp, e1, _⟩ := mem_el hG hxx.1 hm
    refine ⟨_, r, e1, (insV_r hG hxx.1 hp).1, ?_, insP_500 hG hxx.1 hp⟩
    have h2 := hxx.2
    rw [← hDe] at h2 ⊢
    exact lc_ins h2 hp trivial
  unfold F_X3_numberWords_J31 F_X3_numberWords_L33
  refine Ok.loop (fun z => ∃ j : Nat, z.1 = j ∧ j ≤ E.length ∧ lfr (fun b => b = 14) (fun _ => False) M1 z.2 ∧ rowl (z.2 14) ((E.take j).map (fun m => pos D (m / 2048) * 2048 + m % 2048) ++ E.drop j)) (fun z => ((E.length : Int) - z.1).toNat) (fun M2 => lfr (fun b => b = 14) (fun _ => False) M1 M2 ∧ rowl (M2 14) (E.map (fun m => pos D (m / 2048) * 2048 + m % 2048))) ⟨0, rfl, by omega, lfr.refl, by show rowl (M1 14) _; rw [hf1.1 14 (by decide) (by decide)]; simpa using r1⟩ (by show ((E.length : Int) - 0).toNat < zN; rw [zN_v]; omega) ?_ ?_
  · rintro ⟨v2, M2⟩ ⟨j, i1, i2, i3, i4⟩
    dsimp only at i1 i2 i3 i4 ⊢
    subst i1
    unfold F_X3_numberWords_B33
    rw [i3.2 14 (fun q => q), hf1.2 14 (fun q => q), r2]
    refine Ok.ite (fun q => ?_) (fun q => Ok.ret ⟨i3, by rw [show j = E.length by omega] at i4; simpa using i4⟩)
    have hj : j < E.length := by omega
    have hg := List.getElem?_eq_getElem hj
    obtain ⟨y, r, em, hy, hDy, hr⟩ := hEm _ (List.getElem_mem hj)
    have hv : M2 14 j = E[j] := by
      have := i4 j E[j] (by rw [List.getElem?_append_right (by simp; omega)]; simp [Nat.min_eq_left i2])
      exact this
    rw [xat hF 14 67500 rfl (Int.natCast_nonneg j) (by show (j : Int) < 67500; omega)]
    simp only [zb1_some]
    rw [hv, em]
    obtain ⟨d1, d2, d3⟩ := mvc_d hy hr
    have hpl := pos_lt hy hDy
    rw [FX4_word d2 d3]
    simp only [zb1_some]
    rw [d1, FX3_placeOf hF hy (hpb (i3.1 13 (by decide) (by decide)) hy)]
    simp only [zb1_some]
    rw [i3.1 13 (by decide) (by decide), (hp1 y hy).1 hDy, FX4_withWord (by omega) ⟨d2, d3⟩]
    simp only [zb1_some]
    rw [xput hF 14 67500 rfl (by omega) (by omega)]
    simp only [zb1_some]
    rw [w_id (a := (j : Int) + 1) (by omega)]
    refine Ok.lett (Ok.ret ⟨⟨j + 1, by show (j : Int) + 1 = _; omega, by omega, i3.trans (lfr.cell rfl (by decide)), ?_⟩, by show ((E.length : Int) - ((j : Int) + 1)).toNat < ((E.length : Int) - (j : Int)).toNat; omega⟩)
    show rowl (zs M2 14 j _ 14) _
    rw [zs_eq]
    rw [show pos D y + 1 - 1 = pos D y by omega]
    have i5 := rowl_ext.mp i4
    refine rowl_ext.mpr (fun k hk => ?_)
    have hk2 : k < E.length := by simp at hk; omega
    by_cases e : k = j
    · subst e
      rw [up_eq, List.getElem_append_left (by simp; omega), List.getElem_map, List.getElem_take, em, d1]
    · rw [up_ne _ _ (by omega), i5 k (by simp; omega)]
      by_cases h : k < j
      · rw [List.getElem_append_left (by simp; omega), List.getElem_append_left (by simp; omega), List.getElem_map, List.getElem_map, List.getElem_take, List.getElem_take]
      · rw [List.getElem_append_right (by simp; omega), List.getElem_append_right (by simp; omega), List.getElem_drop, List.getElem_drop]
        simp only [List.length_map, List.length_take, Nat.min_eq_left i2, Nat.min_eq_left (show j + 1 ≤ E.length by omega)]
        exact ge_congr _ _ (by omega)
  intro M2 ⟨hf2, hr2⟩
  have hEn : E.map (fun m => pos D (m / 2048) * 2048 + m % 2048) = (wl_ D).flatMap (eln G D) := by
    rw [← hE]
    refine fm_map_congr (fun x hx => ?_)
    have hxx := hW.mp hx
    unfold el eln
    rw [List.map_map]
    refine List.map_congr_left (fun r hr => ?_)
    have hp := (mem_insL hG hxx.1).mp hr
    have hi := insV_r hG hxx.1 hp
    show pos D (mvc (insV G x r) r / 2048) * 2048 + mvc (insV G x r) r % 2048 = _
    rw [(mvc_d hi.1 (insP_500 hG hxx.1 hp)).1]
    exact mvc_m hi.1.1 (insP_500 hG hxx.1 hp)
  rw [hEn] at hr2
  have hax6 := hax.1
  unfold F_X3_numberWords_J76 F_X3_numberWords_L78
  refine Ok.loop (fun z => ∃ j : Nat, z.1 = j ∧ j ≤ ax.length ∧ lfr (fun b => b = 17) (fun _ => False) M2 z.2 ∧ ∀ (i : Nat) (x : Int), (wl_ D)[i]? = some x → z.2 17 i = if x ∈ ax.take j then 1 else 0) (fun z => (30 - z.1).toNat) (fun M3 => lfr (fun b => b = 17) (fun _ => False) M2 M3 ∧ ∀ (i : Nat) (x : Int), (wl_ D)[i]? = some x → M3 17 i = if x ∈ ax then 1 else 0) ⟨0, rfl, by omega, lfr.refl, fun i x hi => ?_⟩ (by show (30 - (0 : Int)).toNat < zN; decide) ?_ ?_
  · have := (List.getElem?_eq_some_iff.mp hi).1
    show M2 17 i = _
    rw [hf2.1 17 (by decide) (by decide), hf1.1 17 (by decide) (by decide), h17 i (by omega) (by omega)]
    simp
  · rintro ⟨v2, M3⟩ ⟨j, i1, i2, i3, i4⟩
    dsimp only at i1 i2 i3 i4 ⊢
    subst i1
    have e5 : M3 5 = M 5 := by rw [i3.1 5 (by decide) (by decide), hf2.1 5 (by decide) (by decide), hf1.1 5 (by decide) (by decide)]
    have e6 : M3 6 = M 6 := by rw [i3.1 6 (by decide) (by decide), hf2.1 6 (by decide) (by decide), hf1.1 6 (by decide) (by decide)]
    have e13 : M3 13 = M1 13 := by rw [i3.1 13 (by decide) (by decide), hf2.1 13 (by decide) (by decide)]
    have hA2 : axC M3 ax := by unfold axC; rw [e5, e6]; exact hA
    unfold F_X3_numberWords_B78
    rw [hA2.1]
    refine Ok.ite (fun q => ?_) (fun q => Ok.ret ⟨i3, by rw [show j = ax.length by omega, List.take_length] at i4; exact i4⟩)
    have hj : j < ax.length := by omega
    have hg := List.getElem?_eq_getElem hj
    have hmem := List.getElem_mem hj
    have htk : ax.take (j + 1) = ax.take j ++ [ax[j]] := List.take_succ_eq_append_getElem hj
    rw [FX2_axiom hF hA2 hax hg]
    simp only [zb1_some]
    generalize ax[j] = a at hg hmem htk
    have hwa := axok_wd hax hmem
    rw [FX3_placeOf hF hwa (hpb e13 hwa)]
    simp only [zb1_some]
    rw [e13, w_id (a := (j : Int) + 1) (by omega)]
    by_cases hDa : D a
    · have hpl := pos_lt hwa hDa
      rw [(hp1 a hwa).1 hDa, xput hF 17 300 rfl (by omega) (by omega)]
      simp only [zb1_some]
      refine Ok.lett (Ok.ret ⟨⟨j + 1, by show (j : Int) + 1 = _; omega, by omega, i3.trans (lfr.cell rfl (by decide)), fun i x hi => ?_⟩, by show (30 - ((j : Int) + 1)).toNat < (30 - (j : Int)).toNat; omega⟩)
      show zs M3 17 _ 1 17 i = _
      have hix := wl_idx hi
      rw [htk]
      by_cases e : x = a
      · subst e
        rw [show (i : Int) = pos D x + 1 - 1 by unfold pos; omega, zs_at, if_pos (List.mem_append_right _ List.mem_cons_self)]
      · have hne : (i : Int) ≠ pos D a + 1 - 1 := fun e2 => by
          have e3 : cnt D a.toNat = i := by unfold pos at e2; omega
          have h4 := wl_at hwa hDa
          rw [e3, hi] at h4
          exact e (Option.some.inj h4)
        rw [zs_off _ _ (Or.inr hne), i4 i x hi]
        by_cases h5 : x ∈ ax.take j
        · rw [if_pos h5, if_pos (List.mem_append_left _ h5)]
        · rw [if_neg h5, if_neg (fun h6 => by rcases List.mem_append.mp h6 with h7 | h7; exact h5 h7; exact e (List.mem_singleton.mp h7))]
    · rw [(hp1 a hwa).2 hDa, xput_out hF 17 300 rfl (Or.inl (by decide))]
      simp only [zb1_some]
      refine Ok.lett (Ok.ret ⟨⟨j + 1, by show (j : Int) + 1 = _; omega, by omega, i3, fun i x hi => ?_⟩, by show (30 - ((j : Int) + 1)).toNat < (30 - (j : Int)).toNat; omega⟩)
      show M3 17 i = _
      have hix := wl_idx hi
      have e : x ≠ a := fun e => hDa (e ▸ hix.2.2)
      rw [i4 i x hi, htk]
      by_cases h5 : x ∈ ax.take j
      · rw [if_pos h5, if_pos (List.mem_append_left _ h5)]
      · rw [if_neg h5, if_neg (fun h6 => by rcases List.mem_append.mp h6 with h7 | h7; exact h5 h7; exact e (List.mem_singleton.mp h7))]
  · intro M3 ⟨hf3, h3⟩
    unfold F_X3_numberWords_J109
    have e : ∀ b, b ≠ 11 → b ≠ 13 → b ≠ 14 → b ≠ 17 → M3 b = M b := fun b q1 q2 q3 q4 => by rw [hf3.1 b q4 q1, hf2.1 b q3 q1, hf1.1 b q2 q1]
    have e11 : ∀ k, M3 11 k = M 11 k := fun k => by rw [hf3.2 k (fun q => q), hf2.2 k (fun q => q), hf1.2 k (fun q => q)]
    refine Ok.ret ⟨?_, fun b hb h11 => e b h11 (fun q => hb (Or.inl q)) (fun q => hb (Or.inr (Or.inl q))) (fun q => hb (Or.inr (Or.inr q))), fun k _ => e11 k⟩
    unfold lang1
    rw [hDe, e11 13, e 12 (by decide) (by decide) (by decide) (by decide), e 15 (by decide) (by decide) (by decide) (by decide), hf3.1 14 (by decide) (by decide), hf3.1 13 (by decide) (by decide), hf2.1 13 (by decide) (by decide)]
    exact ⟨c1, c2, c3, hp1, hr2, fun k hk => by rw [r3 k hk, fm_len_congr (f := el G) (g := eln G D) (fun x => el_len)], h3⟩
