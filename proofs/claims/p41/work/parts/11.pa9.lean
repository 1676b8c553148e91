/-! PURE 18: derivations counted by the class -/
theorem xat_ {S : zS} (hF : zFx S) {M : zM} {i : Int} (a n : Nat) (e : (decide (0 < a) && decide (a < 90) && (zKL.getD a (0, 0)).1 == 21 && (zKL.getD a (0, 0)).2 == n) = true) (h0 : 0 ≤ i) (h1 : i < (n : Int)) : F_X6_at_ a i M S = some (M a i) := by
  obtain ⟨h2, h3⟩ := xk hF a 21 n e
  exact FX6_at_ h2 h0 (by rw [h3]; exact h1)
theorem xput_ {S : zS} (hF : zFx S) {M : zM} {i v : Int} (a n : Nat) (e : (decide (0 < a) && decide (a < 90) && (zKL.getD a (0, 0)).1 == 21 && (zKL.getD a (0, 0)).2 == n) = true) (h0 : 0 ≤ i) (h1 : i < (n : Int)) : F_X6_put_ a i v M S = some (zs M a i v) := by
  obtain ⟨h2, h3⟩ := xk hF a 21 n e
  exact FX6_put_ h2 h0 (by rw [h3]; exact h1)
/-- reading an edge: its number of a word, its insertion -/
theorem edge {G : zGr} {ax : List Int} {x : Int} {i j r : Nat} (hG : grok G) (hax : axok ax) (h3 : (wl_ (lcA G ax)).length ≤ 300) (hi : (wl_ (lcA G ax))[i]? = some x) (hj : (insL G x)[j]? = some r) : insP G x r ∧ r < 500 ∧ wd x ∧ lcA G ax x ∧ wd (insV G x r) ∧ lcA G ax (insV G x r) ∧ x < insV G x r ∧ (0 ≤ pos (lcA G ax) (insV G x r) ∧ pos (lcA G ax) (insV G x r) < 300) ∧ mvc (pos (lcA G ax) (insV G x r)) r / 2048 = pos (lcA G ax) (insV G x r) ∧ 0 ≤ mvc (pos (lcA G ax) (insV G x r)) r ∧ mvc (pos (lcA G ax) (insV G x r)) r < 2147483648 := by
  obtain ⟨_, hx, hD⟩ := wl_idx hi
  have hp := (mem_insL hG hx).mp (List.mem_of_getElem? hj)
  have hv := insV_r hG hx hp
  have h5 := insP_500 hG hx hp
  have hDv : lcA G ax (insV G x r) := lc_ins hD hp trivial
  have hpl := pos_lt hv.1 hDv
  have hm := mvc_d (y := pos (lcA G ax) (insV G x r)) (r := r) (by omega) h5
  exact ⟨hp, h5, hx, hD, hv.1, hDv, hv.2.2.2.2, ⟨hpl.1, by omega⟩, hm⟩
theorem pos_inj {D : Int → Prop} {y z : Int} (hy : wd y) (hD : D y) (hz : wd z) (hE : D z) (h : pos D y = pos D z) : y = z := by
  have h1 := wl_at hy hD
  have h2 := wl_at hz hE
  have e : cnt D y.toNat = cnt D z.toNat := by unfold pos at h; omega
  rw [e, h2] at h1
  exact (Option.some.inj h1).symm
theorem FX3_countPaths {M : zM} {S : zS} {G : zGr} {ax : List Int} (hF : zFx S) (hG : grok G) (hax : axok ax) (hL : lang1 G ax M) : Ok (F_X3_countPaths M S) (fun M1 => (∀ y, lcA G ax y → M1 23 (pos (lcA G ax) y) = wys G ax y) ∧ lfr (fun b => b = 23) (fun _ => False) M M1) := by
  obtain ⟨l1, l2, l3, l4, l5, l6, l7⟩ := hL
  have hDw : ∀ {y}, lcA G ax y → wd y := fun h => (lc_wd hG hax h).1
  unfold F_X3_countPaths F_X3_countPaths_L2
  refine Ok.loop (fun z => ∃ j : Nat, z.1 = j ∧ j ≤ (wl_ (lcA G ax)).length ∧ lfr (fun b => b = 23) (fun _ => False) M z.2 ∧ ∀ y, lcA G ax y → pos (lcA G ax) y < j → z.2 23 (pos (lcA G ax) y) = ini ax y) (fun z => (400 - z.1).toNat) (fun M1 => lfr (fun b => b = 23) (fun _ => False) M M1 ∧ ∀ y, lcA G ax y → M1 23 (pos (lcA G ax) y) = ini ax y) ⟨0, rfl, by omega, lfr.refl, fun y hy h => by unfold pos at h; omega⟩ (by show (400 - (0 : Int)).toNat < zN; decide) ?_ ?_
  · rintro ⟨v1, M1⟩ ⟨j, i1, i2, i3, i4⟩
    dsimp only at i1 i2 i3 i4 ⊢
    subst i1
    unfold F_X3_countPaths_B2
    rw [i3.2 13 (fun q => q), l1]
    refine Ok.ite (fun q => ?_) (fun q => Ok.ret ⟨i3, fun y hy => i4 y hy (by have := (pos_lt (hDw hy) hy).2; omega)⟩)
    have hj : j < (wl_ (lcA G ax)).length := by omega
    have hg := List.getElem?_eq_getElem hj
    rw [xat hF 17 300 rfl (by omega) (by omega)]
    simp only [zb1_some]
    rw [i3.1 17 (by decide) (by decide), l7 j _ hg]
    generalize (wl_ (lcA G ax))[j] = x at hg
    have hix := wl_idx hg
    rw [xput_ hF 23 300 rfl (by omega) (by omega)]
    simp only [zb1_some]
    rw [w_id (a := (j : Int) + 1) (by omega)]
    refine Ok.lett (Ok.ret ⟨⟨j + 1, by show (j : Int) + 1 = _; omega, by omega, i3.trans (lfr.cell rfl (by decide)), fun y hy h => ?_⟩, by show (400 - ((j : Int) + 1)).toNat < (400 - (j : Int)).toNat; omega⟩)
    show zs M1 23 j _ 23 _ = _
    by_cases e : pos (lcA G ax) y = j
    · rw [e, zs_at]
      have exy : y = x := pos_inj (hDw hy) hy hix.2.1 hix.2.2 (by unfold pos at e ⊢; omega)
      rw [exy]; rfl
    · rw [zs_off _ _ (Or.inr e)]
      exact i4 y hy (by omega)
  intro M1 ⟨hf1, h1⟩
  unfold F_X3_countPaths_J33 F_X3_countPaths_L35
  refine Ok.loop (fun z => ∃ i : Nat, z.1 = i ∧ i ≤ (wl_ (lcA G ax)).length ∧ lfr (fun b => b = 23) (fun _ => False) M z.2 ∧ ∀ y, lcA G ax y → z.2 23 (pos (lcA G ax) y) = wyL G ((wl_ (lcA G ax)).take i) (ini ax) y) (fun z => (400 - z.1).toNat) (fun M1 => (∀ y, lcA G ax y → M1 23 (pos (lcA G ax) y) = wys G ax y) ∧ lfr (fun b => b = 23) (fun _ => False) M M1) ⟨0, rfl, by omega, hf1, h1⟩ (by show (400 - (0 : Int)).toNat < zN; decide) ?_ (fun e he => Ok.ret he)
  rintro ⟨v1, M2⟩ ⟨i, i1, i2, i3, i4⟩
  dsimp only at i1 i2 i3 i4 ⊢
  subst i1
  unfold F_X3_countPaths_B35
  rw [i3.2 13 (fun q => q), l1]
  refine Ok.ite (fun q => ?_) (fun q => Ok.ret ⟨fun y hy => by rw [i4 y hy, show i = (wl_ (lcA G ax)).length by omega, List.take_length]; rfl, i3⟩)
  have hi : i < (wl_ (lcA G ax)).length := by omega
  have hg := List.getElem?_eq_getElem hi
  have htk : (wl_ (lcA G ax)).take (i + 1) = (wl_ (lcA G ax)).take i ++ [(wl_ (lcA G ax))[i]] := List.take_succ_eq_append_getElem hi
  generalize (wl_ (lcA G ax))[i] = x at hg htk
  have hix := wl_idx hg
  have hposx : pos (lcA G ax) x = i := by unfold pos; omega
  have hep := ep_s (G := G) hg
  have hepb := ep_b (G := G) (D := lcA G ax) (i := i + 1) hG (by omega) l2
  have hlin := len_insL hG (x := x)
  rw [xat hF 15 301 rfl (by omega) (by omega)]
  simp only [zb1_some]
  rw [i3.1 15 (by decide) (by decide), l6 i (by omega)]
  show Ok (F_X3_countPaths_L52 i (ep G (lcA G ax) i) M2 S) _
  generalize hf : wyL G ((wl_ (lcA G ax)).take i) (ini ax) = f at i4
  have hfL : ∀ y, inL (f y) := by rw [← hf]; exact wyL_inL (ini_inL ax)
  unfold F_X3_countPaths_L52
  refine Ok.loop (fun z => ∃ j : Nat, z.1 = ((ep G (lcA G ax) i + j : Nat) : Int) ∧ j ≤ (insL G x).length ∧ lfr (fun b => b = 23) (fun _ => False) M z.2 ∧ ∀ y, lcA G ax y → z.2 23 (pos (lcA G ax) y) = wl (f y + cm G x y ((insL G x).take j) * f x)) (fun z => (((ep G (lcA G ax) (i + 1) : Nat) : Int) - z.1).toNat) (fun M3 => lfr (fun b => b = 23) (fun _ => False) M M3 ∧ ∀ y, lcA G ax y → M3 23 (pos (lcA G ax) y) = wl (f y + cm G x y (insL G x) * f x)) ⟨0, rfl, by omega, i3, fun y hy => by rw [List.take_zero, cm_nil, Int.zero_mul, Int.add_zero, wl_id (hfL y)]; exact i4 y hy⟩ (by show (((ep G (lcA G ax) (i + 1) : Nat) : Int) - ((ep G (lcA G ax) i + 0 : Nat) : Int)).toNat < zN; rw [zN_v]; omega) ?_ ?_
  · rintro ⟨v2, M3⟩ ⟨j, j1, j2, j3, j4⟩
    dsimp only at j1 j2 j3 j4 ⊢
    subst j1
    unfold F_X3_countPaths_B52
    rw [w_id (a := (i : Int) + 1) (by omega), xat hF 15 301 rfl (by omega) (by omega)]
    simp only [zb1_some]
    rw [j3.1 15 (by decide) (by decide), show (i : Int) + 1 = ((i + 1 : Nat) : Int) by omega, l6 (i + 1) (by omega), show (((wl_ (lcA G ax)).take (i + 1)).flatMap (eln G (lcA G ax))).length = ep G (lcA G ax) (i + 1) from rfl]
    refine Ok.ite (fun q1 => ?_) (fun q1 => Ok.ret ⟨j3, by rw [show j = (insL G x).length by omega, List.take_length] at j4; exact j4⟩)
    have hj : j < (insL G x).length := by omega
    have hgj := List.getElem?_eq_getElem hj
    have htj : (insL G x).take (j + 1) = (insL G x).take j ++ [(insL G x)[j]] := List.take_succ_eq_append_getElem hj
    generalize (insL G x)[j] = r at hgj htj
    obtain ⟨e1, e2, e3, e4, e5, e6, e7, e8, e9, e10, e11⟩ := edge hG hax l2 hg hgj
    rw [xat hF 14 67500 rfl (by omega) (by omega)]
    simp only [zb1_some]
    rw [j3.1 14 (by decide) (by decide), ep_at l5 hg hgj, FX4_word e10 e11]
    simp only [zb1_some]
    rw [e9, xat_ hF 23 300 rfl (by omega) (by omega)]
    simp only [zb1_some]
    rw [xat_ hF 23 300 rfl (by omega) (by omega)]
    simp only [zb1_some]
    rw [xput_ hF 23 300 rfl (by omega) (by omega)]
    simp only [zb1_some]
    have hxv : M3 23 (i : Int) = f x := by
      have h9 := j4 x hix.2.2
      rw [hposx, cm_0 (fun r2 hr2 => by
        have := (insV_r hG e3 ((mem_insL hG e3).mp (List.mem_of_mem_take hr2))).2.2.2.2
        omega), Int.zero_mul, Int.add_zero, wl_id (hfL x)] at h9
      exact h9
    rw [hxv, j4 _ e6, zladd_e, wl_add, w_id (a := ((ep G (lcA G ax) i + j : Nat) : Int) + 1) (by omega)]
    refine Ok.lett (Ok.ret ⟨⟨j + 1, by show ((ep G (lcA G ax) i + j : Nat) : Int) + 1 = _; omega, by omega, j3.trans (lfr.cell rfl (by decide)), fun y hy => ?_⟩, by show (((ep G (lcA G ax) (i + 1) : Nat) : Int) - (((ep G (lcA G ax) i + j : Nat) : Int) + 1)).toNat < (((ep G (lcA G ax) (i + 1) : Nat) : Int) - ((ep G (lcA G ax) i + j : Nat) : Int)).toNat; omega⟩)
    show zs M3 23 _ _ 23 _ = _
    rw [htj, cm_app]
    by_cases e : insV G x r = y
    · rw [← e, zs_at, if_pos rfl, Int.add_mul, Int.one_mul, Int.add_assoc]
    · have hne : pos (lcA G ax) y ≠ pos (lcA G ax) (insV G x r) := fun h => e (pos_inj e5 e6 (hDw hy) hy h.symm)
      rw [zs_off _ _ (Or.inr hne), if_neg e, Int.add_zero]
      exact j4 y hy
  · intro M3 ⟨h2, h3⟩
    unfold F_X3_countPaths_J109
    rw [w_id (a := (i : Int) + 1) (by omega)]
    refine Ok.lett (Ok.ret ⟨⟨i + 1, by show (i : Int) + 1 = _; omega, by omega, h2, fun y hy => ?_⟩, by show (400 - ((i : Int) + 1)).toNat < (400 - (i : Int)).toNat; omega⟩)
    show M3 23 _ = _
    rw [h3 y hy, htk, wyL_app, hf]
    rfl
