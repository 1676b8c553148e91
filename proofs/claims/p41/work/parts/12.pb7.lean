/-! PURE 25: the class: sets of contexts that generate; loops; words of a length -/
theorem lc_inv {G : zGr} {ax : List Int} {C : Nat → Prop} {y : Int} (h : lc G ax C y) : (y ∈ ax ∧ ln y ≤ G.1) ∨ ∃ (x : Int) (r : Nat), lc G ax C x ∧ insP G x r ∧ C (r / 100) ∧ insV G x r = y :=
  (h (fun y => lc G ax C y ∧ ((y ∈ ax ∧ ln y ≤ G.1) ∨ ∃ (x : Int) (r : Nat), lc G ax C x ∧ insP G x r ∧ C (r / 100) ∧ insV G x r = y)) (fun a ha hl => ⟨lc_ax ha hl, Or.inl ⟨ha, hl⟩⟩) (fun x r hx hp hc => ⟨lc_ins hx.1 hp hc, Or.inr ⟨x, r, hx.1, hp, hc, rfl⟩⟩)).2
theorem wl_before {D : Int → Prop} {i : Nat} {x z : Int} (hg : (wl_ D)[i]? = some x) (hz : wd z) (hD : D z) (h : z < x) : z ∈ (wl_ D).take i := by
  have hza := wl_at hz hD
  have hzi : cnt D z.toNat < i := by
    obtain ⟨q1, q2⟩ := List.getElem?_eq_some_iff.mp hza
    obtain ⟨q3, q4⟩ := List.getElem?_eq_some_iff.mp hg
    rcases Nat.lt_or_ge (cnt D z.toNat) i with q5 | q5
    · exact q5
    · rcases Nat.eq_or_lt_of_le q5 with q6 | q6
      · have : z = x := by rw [← q2, ← q4]; exact ge_congr _ _ q6.symm
        omega
      · have := List.pairwise_iff_getElem.mp (pw_wl D) _ _ q3 q1 q6
        omega
  exact List.mem_iff_getElem?.mpr ⟨_, by rw [List.getElem?_take, if_pos hzi]; exact hza⟩
theorem FX3_isGeneratedBy {M : zM} {S : zS} {G : zGr} {ax : List Int} {v : Int} {C : Nat → Prop} (hF : zFx S) (hG : grok G) (hax : axok ax) (hL : lang1 G ax M) (hv : 0 ≤ v ∧ v < 32) (hC : ∀ c, c < G.2.2.length → (bs v c ↔ C c)) : Ok (F_X3_isGeneratedBy v M S) (fun r => tv r.1 (gen G ax C) ∧ lfr (fun b => b = 18) (fun _ => False) M r.2) := by
  obtain ⟨l1, l2, l3, l4, l5, l6, l7⟩ := hL
  have hG3 := hG.2.2.1
  have hDw : ∀ {y}, lcA G ax y → wd y := fun h => (lc_wd hG hax h).1
  unfold F_X3_isGeneratedBy
  refine Ok.chk (by omega) (Ok.lett ?_)
  have hcp : ∀ b, b ≠ 18 → zcpy M 17 0 18 0 300 b = M b := fun b hb => up_ne _ _ hb
  have hcv : ∀ k : Int, 0 ≤ k → k < 300 → zcpy M 17 0 18 0 300 18 k = M 17 k := fun k h0 h1 => by
    unfold zcpy
    rw [up_eq, if_pos ⟨h0, by omega⟩]
    congr 1
    omega
  generalize zcpy M 17 0 18 0 300 = M1 at hcp hcv
  have hf1 : lfr (fun b => b = 18) (fun _ => False) M M1 := ⟨fun b hb _ => hcp b hb, fun k _ => by rw [hcp 11 (by decide)]⟩
  unfold F_X3_isGeneratedBy_L18
  refine Ok.loop (fun z => ∃ i : Nat, z.1 = i ∧ i ≤ (wl_ (lcA G ax)).length ∧ lfr (fun b => b = 18) (fun _ => False) M z.2 ∧ (∀ x ∈ (wl_ (lcA G ax)).take i, lc G ax C x) ∧ ∀ y, lcA G ax y → (z.2 18 (pos (lcA G ax) y) ≠ 0 ↔ (y ∈ ax ∨ ∃ x ∈ (wl_ (lcA G ax)).take i, ∃ r, insP G x r ∧ insV G x r = y ∧ C (r / 100)))) (fun z => (400 - z.1).toNat) (fun e => match e with | .inl M2 => ¬ gen G ax C ∧ lfr (fun b => b = 18) (fun _ => False) M M2 | .inr M2 => gen G ax C ∧ lfr (fun b => b = 18) (fun _ => False) M M2) ⟨0, rfl, by omega, hf1, fun x a => by simp at a, fun y hy => ?_⟩ (by show (400 - (0 : Int)).toNat < zN; decide) ?_ ?_
  · have hp := pos_lt (hDw hy) hy
    show M1 18 _ ≠ 0 ↔ _
    have h9 := l7 (cnt (lcA G ax) y.toNat) y (wl_at (hDw hy) hy)
    rw [hcv _ hp.1 (by omega), show pos (lcA G ax) y = ((cnt (lcA G ax) y.toNat : Nat) : Int) from rfl, h9]
    by_cases e : y ∈ ax
    · rw [if_pos e]; exact ⟨fun _ => Or.inl e, fun _ => by decide⟩
    · rw [if_neg e]; exact ⟨fun a => absurd rfl a, fun a => by rcases a with a | ⟨x, a, _⟩; exact absurd a e; simp at a⟩
  · rintro ⟨v2, M2⟩ ⟨i, i1, i2, i3, i4, i5⟩
    dsimp only at i1 i2 i3 i4 i5 ⊢
    subst i1
    unfold F_X3_isGeneratedBy_B18
    rw [i3.2 13 (fun a => a), l1]
    refine Ok.ite (fun q => ?_) (fun q => Ok.ret ⟨fun y hy => i4 y ?_, i3⟩)
    · have hi : i < (wl_ (lcA G ax)).length := by omega
      have hg := List.getElem?_eq_getElem hi
      have htk : (wl_ (lcA G ax)).take (i + 1) = (wl_ (lcA G ax)).take i ++ [(wl_ (lcA G ax))[i]] := List.take_succ_eq_append_getElem hi
      generalize (wl_ (lcA G ax))[i] = x at hg htk
      have hix := wl_idx hg
      have hposx : pos (lcA G ax) x = i := by unfold pos; omega
      have hmemt : ∀ z, z ∈ (wl_ (lcA G ax)).take (i + 1) ↔ z ∈ (wl_ (lcA G ax)).take i ∨ z = x := fun z => by rw [htk, List.mem_append, List.mem_singleton]
      have hep := ep_s (G := G) hg
      have hepb := ep_b (G := G) (D := lcA G ax) (i := i + 1) hG (by omega) l2
      have hlin := len_insL hG (x := x)
      have hx5 := i5 x hix.2.2
      rw [hposx] at hx5
      rw [xat hF 18 300 rfl (by omega) (by omega)]
      simp only [zb1_some]
      refine Ok.ite (fun q1 => Ok.ret ⟨fun hgen => ?_, i3⟩) (fun q1 => ?_)
      · refine absurd q1 (hx5.mpr ?_)
        rcases lc_inv (hgen x hix.2.2) with ⟨a, _⟩ | ⟨z, r, a1, a2, a3, a4⟩
        · exact Or.inl a
        · have hzA : lcA G ax z := lc_mono a1 (fun _ _ => trivial)
          have hlt := (insV_r hG (hDw hzA) a2).2.2.2.2
          exact Or.inr ⟨z, wl_before hg (hDw hzA) hzA (by omega), r, a2, a4, a3⟩
      have hxC : lc G ax C x := by
        rcases hx5.mp q1 with a | ⟨z, a1, r, a2, a3, a4⟩
        · exact lc_ax a (lc_wd hG hax hix.2.2).2
        · rw [← a3]; exact lc_ins (i4 z a1) a2 a4
      rw [xat hF 15 301 rfl (by omega) (by omega)]
      simp only [zb1_some]
      rw [i3.1 15 (by decide) (by decide), l6 i (by omega)]
      show Ok (F_X3_isGeneratedBy_L48 v i (ep G (lcA G ax) i) M2 S) _
      unfold F_X3_isGeneratedBy_L48
      refine Ok.loop (fun z => ∃ j : Nat, z.1 = ((ep G (lcA G ax) i + j : Nat) : Int) ∧ j ≤ (insL G x).length ∧ lfr (fun b => b = 18) (fun _ => False) M z.2 ∧ ∀ y, lcA G ax y → (z.2 18 (pos (lcA G ax) y) ≠ 0 ↔ ((y ∈ ax ∨ ∃ x ∈ (wl_ (lcA G ax)).take i, ∃ r, insP G x r ∧ insV G x r = y ∧ C (r / 100)) ∨ ∃ r ∈ (insL G x).take j, insV G x r = y ∧ C (r / 100)))) (fun z => (((ep G (lcA G ax) (i + 1) : Nat) : Int) - z.1).toNat) (fun M3 => lfr (fun b => b = 18) (fun _ => False) M M3 ∧ ∀ y, lcA G ax y → (M3 18 (pos (lcA G ax) y) ≠ 0 ↔ ((y ∈ ax ∨ ∃ x ∈ (wl_ (lcA G ax)).take i, ∃ r, insP G x r ∧ insV G x r = y ∧ C (r / 100)) ∨ ∃ r ∈ insL G x, insV G x r = y ∧ C (r / 100)))) ⟨0, rfl, by omega, i3, fun y hy => (i5 y hy).trans ⟨Or.inl, fun a => by rcases a with a | ⟨r, a, _⟩; exact a; simp at a⟩⟩ (by show (((ep G (lcA G ax) (i + 1) : Nat) : Int) - ((ep G (lcA G ax) i + 0 : Nat) : Int)).toNat < zN; rw [zN_v]; omega) ?_ ?_
      · rintro ⟨v3, M3⟩ ⟨j, j1, j2, j3, j5⟩
        dsimp only at j1 j2 j3 j5 ⊢
        subst j1
        unfold F_X3_isGeneratedBy_B48
        rw [w_id (a := (i : Int) + 1) (by omega), xat hF 15 301 rfl (by omega) (by omega)]
        simp only [zb1_some]
        rw [j3.1 15 (by decide) (by decide), show (i : Int) + 1 = ((i + 1 : Nat) : Int) by omega, l6 (i + 1) (by omega), show (((wl_ (lcA G ax)).take (i + 1)).flatMap (eln G (lcA G ax))).length = ep G (lcA G ax) (i + 1) from rfl]
        refine Ok.ite (fun q1 => ?_) (fun q1 => Ok.ret ⟨j3, by rw [show j = (insL G x).length by omega, List.take_length] at j5; exact j5⟩)
        have hj : j < (insL G x).length := by omega
        have hgj := List.getElem?_eq_getElem hj
        have htj : (insL G x).take (j + 1) = (insL G x).take j ++ [(insL G x)[j]] := List.take_succ_eq_append_getElem hj
        generalize (insL G x)[j] = r at hgj htj
        have hmj : ∀ z, z ∈ (insL G x).take (j + 1) ↔ z ∈ (insL G x).take j ∨ z = r := fun z => by rw [htj, List.mem_append, List.mem_singleton]
        obtain ⟨e1, e2, e3, e4, e5, e6, e7, e8, e9, e10, e11⟩ := edge hG hax l2 hg hgj
        have hcl := insP_c e1
        rw [xat hF 14 67500 rfl (by omega) (by omega)]
        simp only [zb1_some]
        rw [j3.1 14 (by decide) (by decide), ep_at l5 hg hgj, FX4_context (by omega) e2]
        simp only [zb1_some]
        have go : ∀ M4 : zM, lfr (fun b => b = 18) (fun _ => False) M M4 → (∀ y, lcA G ax y → (M4 18 (pos (lcA G ax) y) ≠ 0 ↔ ((y ∈ ax ∨ ∃ x ∈ (wl_ (lcA G ax)).take i, ∃ r, insP G x r ∧ insV G x r = y ∧ C (r / 100)) ∨ ∃ r ∈ (insL G x).take (j + 1), insV G x r = y ∧ C (r / 100)))) → Ok (F_X3_isGeneratedBy_J97 v i ((ep G (lcA G ax) i + j : Nat) : Int) M4 S) (Turn (fun z : Int × zM => ∃ j : Nat, z.1 = ((ep G (lcA G ax) i + j : Nat) : Int) ∧ j ≤ (insL G x).length ∧ lfr (fun b => b = 18) (fun _ => False) M z.2 ∧ ∀ y, lcA G ax y → (z.2 18 (pos (lcA G ax) y) ≠ 0 ↔ ((y ∈ ax ∨ ∃ x ∈ (wl_ (lcA G ax)).take i, ∃ r, insP G x r ∧ insV G x r = y ∧ C (r / 100)) ∨ ∃ r ∈ (insL G x).take j, insV G x r = y ∧ C (r / 100)))) (fun z => (((ep G (lcA G ax) (i + 1) : Nat) : Int) - z.1).toNat) (fun M3 => lfr (fun b => b = 18) (fun _ => False) M M3 ∧ ∀ y, lcA G ax y → (M3 18 (pos (lcA G ax) y) ≠ 0 ↔ ((y ∈ ax ∨ ∃ x ∈ (wl_ (lcA G ax)).take i, ∃ r, insP G x r ∧ insV G x r = y ∧ C (r / 100)) ∨ ∃ r ∈ insL G x, insV G x r = y ∧ C (r / 100)))) (((ep G (lcA G ax) i + j : Nat) : Int), M3)) := fun M4 b1 b2 => by
          unfold F_X3_isGeneratedBy_J97
          rw [w_id (a := ((ep G (lcA G ax) i + j : Nat) : Int) + 1) (by omega)]
          exact Ok.lett (Ok.ret ⟨⟨j + 1, by show ((ep G (lcA G ax) i + j : Nat) : Int) + 1 = _; omega, by omega, b1, b2⟩, by show (((ep G (lcA G ax) (i + 1) : Nat) : Int) - (((ep G (lcA G ax) i + j : Nat) : Int) + 1)).toNat < (((ep G (lcA G ax) (i + 1) : Nat) : Int) - ((ep G (lcA G ax) i + j : Nat) : Int)).toNat; omega⟩)
        have hand := msk_and (z := v) (P := bs v) ⟨hv.1, hv.2, fun _ _ => Iff.rfl⟩ (c := r / 100) (by omega)
        rw [hC _ hcl] at hand
        refine Ok.ite (fun q2 => go M3 j3 (fun y hy => (j5 y hy).trans ⟨?_, ?_⟩)) (fun q2 => ?_)
        · rintro (a | ⟨r2, a1, a2⟩)
          · exact Or.inl a
          · exact Or.inr ⟨r2, (hmj r2).mpr (Or.inl a1), a2⟩
        · rintro (a | ⟨r2, a1, a2, a3⟩)
          · exact Or.inl a
          · rcases (hmj r2).mp a1 with a1 | a1
            · exact Or.inr ⟨r2, a1, a2, a3⟩
            · rw [a1] at a3; exact absurd a3 (hand.mp q2)
        · have hCr : C (r / 100) := Classical.byContradiction (fun h => q2 (hand.mpr h))
          rw [FX4_word e10 e11]
          simp only [zb1_some]
          rw [e9, xput hF 18 300 rfl (by omega) (by omega)]
          simp only [zb1_some]
          refine go _ (j3.trans (lfr.cell rfl (by decide))) (fun y hy => ?_)
          by_cases e : insV G x r = y
          · rw [← e, zs_at]
            exact ⟨fun _ => Or.inr ⟨r, (hmj r).mpr (Or.inr rfl), rfl, hCr⟩, fun _ => by decide⟩
          · have hne : pos (lcA G ax) y ≠ pos (lcA G ax) (insV G x r) := fun h => e (pos_inj e5 e6 (hDw hy) hy h.symm)
            rw [zs_off _ _ (Or.inr hne)]
            refine (j5 y hy).trans ⟨?_, ?_⟩
            · rintro (a | ⟨r2, a1, a2⟩)
              · exact Or.inl a
              · exact Or.inr ⟨r2, (hmj r2).mpr (Or.inl a1), a2⟩
            · rintro (a | ⟨r2, a1, a2, a3⟩)
              · exact Or.inl a
              · rcases (hmj r2).mp a1 with a1 | a1
                · exact Or.inr ⟨r2, a1, a2, a3⟩
                · rw [a1] at a2; exact absurd a2 e
      · intro M3 ⟨b1, b2⟩
        unfold F_X3_isGeneratedBy_J103
        rw [w_id (a := (i : Int) + 1) (by omega)]
        refine Ok.lett (Ok.ret ⟨⟨i + 1, by show (i : Int) + 1 = _; omega, by omega, b1, fun z hz => ?_, fun y hy => (b2 y hy).trans ⟨?_, ?_⟩⟩, by show (400 - ((i : Int) + 1)).toNat < (400 - (i : Int)).toNat; omega⟩)
        · rcases (hmemt z).mp hz with a | a
          · exact i4 z a
          · rw [a]; exact hxC
        · rintro ((a | ⟨z, a1, a2⟩) | ⟨r, a1, a2, a3⟩)
          · exact Or.inl a
          · exact Or.inr ⟨z, (hmemt z).mpr (Or.inl a1), a2⟩
          · exact Or.inr ⟨x, (hmemt x).mpr (Or.inr rfl), r, (mem_insL hG hix.2.1).mp a1, a2, a3⟩
        · rintro (a | ⟨z, a1, r, a2, a3, a4⟩)
          · exact Or.inl (Or.inl a)
          · rcases (hmemt z).mp a1 with a1 | a1
            · exact Or.inl (Or.inr ⟨z, a1, r, a2, a3, a4⟩)
            · rw [a1] at a2 a3; exact Or.inr ⟨r, (mem_insL hG hix.2.1).mpr a2, a3, a4⟩
    · rw [show i = (wl_ (lcA G ax)).length by omega, List.take_length]
      exact mem_wl.mpr ⟨hDw hy, hy⟩
  · rintro (M2 | M2) ⟨a1, a2⟩
    · exact Ok.ret ⟨tv_f a1, a2⟩
    · exact Ok.ret ⟨tv_t a1, a2⟩
theorem lang1.fr {G : zGr} {ax : List Int} {A : Nat → Prop} {F : Int → Prop} {M M1 : zM} (h : lang1 G ax M) (hf : lfr A F M M1) (hA : ∀ b, A b → b ≠ 12 ∧ b ≠ 13 ∧ b ≠ 14 ∧ b ≠ 15 ∧ b ≠ 17) (hF : ¬ F 13) : lang1 G ax M1 := by
  unfold lang1
  rw [hf.2 13 hF, hf.1 12 (fun a => (hA _ a).1 rfl) (by decide), hf.1 13 (fun a => (hA _ a).2.1 rfl) (by decide), hf.1 14 (fun a => (hA _ a).2.2.1 rfl) (by decide), hf.1 15 (fun a => (hA _ a).2.2.2.1 rfl) (by decide), hf.1 17 (fun a => (hA _ a).2.2.2.2 rfl) (by decide)]
  exact h
theorem bcf_top : ∀ n : Nat, n ≤ 5 → ∀ m : Nat, m < 2 ^ n - 1 → bcf (m : Int) < bcf (((2 ^ n - 1 : Nat) : Nat) : Int) := by decide +kernel
theorem pow_n {n : Nat} : ((2 ^ n - 1 : Nat) : Int) = (2 : Int) ^ n - 1 := by
  have := Nat.one_le_two_pow (n := n)
  rw [Int.natCast_sub this, Int.natCast_pow]
  rfl
theorem FX3_smallestContextSet {M : zM} {S : zS} {G : zGr} {ax : List Int} (hF : zFx S) (hG : grok G) (hax : axok ax) (hL : lang1 G ax M) (h17 : M 11 17 = -1 ∨ minP G ax (M 11 17)) : Ok (F_X3_smallestContextSet ((2 : Int) ^ G.2.2.length - 1) M S) (fun r => minP G ax r.1 ∧ minP G ax (r.2 11 17) ∧ lfr (fun b => b = 18) (fun k => k = 17) M r.2) := by
  have hG3 := hG.2.2.1
  have hp5 := pow5 hG3
  unfold F_X3_smallestContextSet
  refine Ok.ite (fun q => Ok.lett ?_) (fun q => Ok.ret ?_)
  · generalize hN : (2 : Int) ^ G.2.2.length = N at hp5
    have hM1 : zs M 11 17 (N - 1) 11 17 = N - 1 := zs_at _ _ _ _
    have hf1 : lfr (fun b => b = 18) (fun k => k = 17) M (zs M 11 17 (N - 1)) := lfr.fld rfl
    generalize zs M 11 17 (N - 1) = M1 at hM1 hf1
    have htop : ∀ m : Int, 0 ≤ m → m < N - 1 → bcf m < bcf (N - 1) := fun m h0 h1 => by
      have hh := bcf_top G.2.2.length hG3 m.toNat (by have := pow_n (n := G.2.2.length); rw [hN] at this; omega)
      rw [pow_n, hN, show ((m.toNat : Nat) : Int) = m by omega] at hh
      exact hh
    unfold F_X3_smallestContextSet_L19
    refine Ok.loop (fun z => ∃ m : Int, 0 ≤ z.1 ∧ z.1 ≤ N - 1 ∧ z.2 11 17 = m ∧ (0 ≤ m ∧ m < N) ∧ gen G ax (bs m) ∧ (m = N - 1 ∨ m < z.1) ∧ (∀ m2 : Int, 0 ≤ m2 → m2 < z.1 → gen G ax (bs m2) → bcf m < bcf m2 ∨ (bcf m = bcf m2 ∧ m ≤ m2)) ∧ lfr (fun b => b = 18) (fun k => k = 17) M z.2) (fun z => (N - 1 - z.1).toNat) (fun M2 => minP G ax (M2 11 17) ∧ lfr (fun b => b = 18) (fun k => k = 17) M M2) ⟨N - 1, Int.le_refl 0, by show 0 ≤ N - 1; omega, hM1, by omega, by rw [← hN]; exact gen_all hG, Or.inl rfl, fun m2 a1 a2 => by change m2 < 0 at a2; omega, hf1⟩ (by show (N - 1 - 0).toNat < zN; rw [zN_v]; omega) ?_ ?_
    · rintro ⟨v2, M2⟩ ⟨m, i1, i2, i3, i4, i5, i6, i7, i8⟩
      dsimp only at i1 i2 i3 i6 i7 i8 ⊢
      subst i3
      unfold F_X3_smallestContextSet_B19
      refine Ok.ite (fun q1 => ?_) (fun q1 => Ok.ret ⟨⟨by rw [hN]; exact i4, i5, fun m2 a1 a2 a3 => ?_⟩, i8⟩)
      · rw [bcf_e (z := v2) (by omega)]
        simp only [zb1_some]
        rw [bcf_e (z := M2 11 17) (by omega)]
        simp only [zb1_some]
        have go : ∀ M3 : zM, (0 ≤ M3 11 17 ∧ M3 11 17 < N) → gen G ax (bs (M3 11 17)) → (M3 11 17 = N - 1 ∨ M3 11 17 < v2 + 1) → (∀ m2 : Int, 0 ≤ m2 → m2 < v2 + 1 → gen G ax (bs m2) → bcf (M3 11 17) < bcf m2 ∨ (bcf (M3 11 17) = bcf m2 ∧ M3 11 17 ≤ m2)) → lfr (fun b => b = 18) (fun k => k = 17) M M3 → Ok (F_X3_smallestContextSet_J51 (N - 1) v2 M3 S) (Turn (fun z : Int × zM => ∃ m : Int, 0 ≤ z.1 ∧ z.1 ≤ N - 1 ∧ z.2 11 17 = m ∧ (0 ≤ m ∧ m < N) ∧ gen G ax (bs m) ∧ (m = N - 1 ∨ m < z.1) ∧ (∀ m2 : Int, 0 ≤ m2 → m2 < z.1 → gen G ax (bs m2) → bcf m < bcf m2 ∨ (bcf m = bcf m2 ∧ m ≤ m2)) ∧ lfr (fun b => b = 18) (fun k => k = 17) M z.2) (fun z => (N - 1 - z.1).toNat) (fun M2 => minP G ax (M2 11 17) ∧ lfr (fun b => b = 18) (fun k => k = 17) M M2) (v2, M2)) := fun M3 b1 b2 b3 b4 b5 => by
          unfold F_X3_smallestContextSet_J51
          rw [w_id (a := v2 + 1) (by omega)]
          exact Ok.lett (Ok.ret ⟨⟨M3 11 17, by show 0 ≤ v2 + 1; omega, by show v2 + 1 ≤ N - 1; omega, rfl, b1, b2, b3, b4, b5⟩, by show (N - 1 - (v2 + 1)).toNat < (N - 1 - v2).toNat; omega⟩)
        refine Ok.ite (fun q2 => ?_) (fun q2 => go M2 i4 i5 (by omega) (fun m2 a1 a2 a3 => ?_) i8)
        · refine Ok.b2 (FX3_isGeneratedBy (C := bs v2) hF hG hax (hL.fr i8 (fun b hb => by subst hb; decide) (by decide)) (by omega) (fun _ _ => Iff.rfl)) (fun r M3 ⟨g1, g2⟩ => ?_)
          dsimp only at g1 g2
          have e17 : M3 11 17 = M2 11 17 := g2.2 17 (fun a => a)
          have hf3 := i8.trans (g2.mono (fun _ a => a) (fun _ a => a.elim))
          refine Ok.ite (fun q3 => go M3 (by rw [e17]; exact i4) (by rw [e17]; exact i5) (by rw [e17]; omega) (fun m2 a1 a2 a3 => ?_) hf3) (fun q3 => Ok.lett (go _ (by rw [zs_at]; omega) (by rw [zs_at]; exact tv_1 g1 q3) (by rw [zs_at]; omega) (fun m2 a1 a2 a3 => ?_) (hf3.trans (lfr.fld rfl))))
          · rw [e17]
            by_cases e : m2 = v2
            · rw [e] at a3; exact absurd a3 (tv_0 g1 q3)
            · exact i7 m2 a1 (by omega) a3
          · rw [zs_at]
            by_cases e : m2 = v2
            · rw [e]; exact Or.inr ⟨rfl, Int.le_refl _⟩
            · have := i7 m2 a1 (by omega) a3; omega
        · by_cases e : m2 = v2
          · rw [e]
            have := htop v2 i1 q1
            rcases i6 with h | h
            · rw [h] at q2; exact absurd this q2
            · omega
          · exact i7 m2 a1 (by omega) a3
      · by_cases e : m2 = N - 1
        · rw [e]
          rcases i6 with h | h
          · rw [h]; exact Or.inr ⟨rfl, Int.le_refl _⟩
          · exact Or.inl (htop _ i4.1 (by omega))
        · exact i7 m2 a1 (by rw [hN] at a2; omega) a3
    · intro M2 ⟨a1, a2⟩
      unfold F_X3_smallestContextSet_J57
      exact Ok.ret ⟨a1, a1, a2⟩
  · rcases h17 with h | h
    · omega
    · exact ⟨h, h, lfr.refl⟩
theorem FX3_followersOf {M : zM} {S : zS} {c : Int} (hF : zFx S) (hc : 0 ≤ c ∧ c < 5) : F_X3_followersOf c M S = some (M 24 c) := by
  unfold F_X3_followersOf
  rw [xat hF 24 5 rfl hc.1 (by omega)]
  rfl
theorem FX3_wordsOfLength {M : zM} {S : zS} {G : zGr} {ax : List Int} {n : Int} (hF : zFx S) (hL : lang1 G ax M) : F_X3_wordsOfLength n M S = some (cln G ax n) := by
  obtain ⟨l1, l2, l3, l4, l5, l6, l7⟩ := hL
  have hend : cln G ax n = ((wl_ (lcA G ax)).countP (fun y => decide (ln y = n)) : Nat) := by
    unfold cln
    rw [← len_wl, List.countP_eq_length_filter]
    have : wl_ (fun y => lcA G ax y ∧ ln y = n) = (wl_ (lcA G ax)).filter (fun y => decide (ln y = n)) := by
      refine pw_ext (pw_wl _) (List.Pairwise.filter _ (pw_wl _)) (fun u => ?_)
      rw [mem_wl, List.mem_filter, mem_wl, decide_eq_true_eq, and_assoc]
    rw [this]
  refine Ok.eqs ?_
  unfold F_X3_wordsOfLength F_X3_wordsOfLength_L4
  refine Ok.loop (fun z => ∃ i : Nat, z.2 = i ∧ i ≤ (wl_ (lcA G ax)).length ∧ z.1 = (((wl_ (lcA G ax)).take i).countP (fun y => decide (ln y = n)) : Nat)) (fun z => (400 - z.2).toNat) (fun e => e = cln G ax n) ⟨0, rfl, by omega, rfl⟩ (by show (400 - (0 : Int)).toNat < zN; decide) ?_ (fun e he => Ok.ret he)
  rintro ⟨v2, v3⟩ ⟨i, i1, i2, i3⟩
  dsimp only at i1 i2 i3 ⊢
  subst i1 i3
  unfold F_X3_wordsOfLength_B4
  rw [l1]
  refine Ok.ite (fun q => ?_) (fun q => Ok.ret (by show (((List.countP _ _ : Nat)) : Int) = _; rw [show i = (wl_ (lcA G ax)).length by omega, List.take_length]; exact hend.symm))
  have hi : i < (wl_ (lcA G ax)).length := by omega
  have hg := List.getElem?_eq_getElem hi
  have htk : (wl_ (lcA G ax)).take (i + 1) = (wl_ (lcA G ax)).take i ++ [(wl_ (lcA G ax))[i]] := List.take_succ_eq_append_getElem hi
  have hcl := List.countP_le_length (p := fun y => decide (ln y = n)) (l := (wl_ (lcA G ax)).take i)
  rw [List.length_take] at hcl
  unfold F_X3_wordAt
  rw [xat hF 12 300 rfl (by omega) (by omega)]
  simp only [zb1_some]
  rw [l3 i _ hg]
  generalize (wl_ (lcA G ax))[i] = x at hg htk
  rw [FX9_length (wl_idx hg).2.1]
  simp only [zb1_some]
  unfold F_X3_wordsOfLength_J27
  rw [w_id (a := (i : Int) + 1) (by omega)]
  refine Ok.ite (fun q1 => Ok.lett (Ok.lett (Ok.ret ?_))) (fun q1 => Ok.lett (Ok.ret ?_))
  · rw [w_id (by omega)]
    exact ⟨⟨i + 1, by show (i : Int) + 1 = _; omega, by omega, by show ((List.countP _ _ : Nat) : Int) + 1 = _; rw [htk, List.countP_append, List.countP_singleton, decide_eq_true q1]; simp⟩, by show (400 - ((i : Int) + 1)).toNat < (400 - (i : Int)).toNat; omega⟩
  · exact ⟨⟨i + 1, by show (i : Int) + 1 = _; omega, by omega, by show ((List.countP _ _ : Nat) : Int) = _; rw [htk, List.countP_append, List.countP_singleton, decide_eq_false q1]; simp⟩, by show (400 - ((i : Int) + 1)).toNat < (400 - (i : Int)).toNat; omega⟩
