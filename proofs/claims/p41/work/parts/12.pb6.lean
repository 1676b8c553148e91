/-! PURE 24: the class: how contexts follow one another -/
theorem ctx_ar {v q t : Int} (hq : 0 ≤ q ∧ q < 8) (ht : 0 ≤ t ∧ t < 256) : (v * 2048 + q * 256 + t) / 256 % 8 = q := by omega
theorem FX4_context {v : Int} {r : Nat} (hv : 0 ≤ v ∧ v < 29524) (hr : r < 500) : F_X4_context (mvc v r) = some ((r / 100 : Nat) : Int) := by
  have hm := mvc_d hv hr
  unfold F_X4_context
  rw [zshr_8 hm.2.1 hm.2.2, zand_7 (by omega) (by omega)]
  have h := ctx_ar (v := v) (q := ((r / 100 : Nat) : Int)) (t := rs r * 16 + re r) (by omega) (by unfold rs re; omega)
  rw [show v * 2048 + ((r / 100 : Nat) : Int) * 256 + (rs r * 16 + re r) = mvc v r by unfold mvc; omega] at h
  rw [h]
theorem FX3_findFollowers {M : zM} {S : zS} {G : zGr} {ax : List Int} (hF : zFx S) (hG : grok G) (hax : axok ax) (hL : lang1 G ax M) (h16 : M 11 16 = 0) (h24 : ∀ i : Int, 0 ≤ i → i < 5 → M 24 i = 0) : Ok (F_X3_findFollowers M S) (fun M1 => msk (M1 11 16) (usd G ax) ∧ (∀ e : Nat, e < 5 → msk (M1 24 e) (foll G ax e)) ∧ lfr (fun b => b = 18 ∨ b = 24) (fun k => k = 16) M M1) := by
  obtain ⟨l1, l2, l3, l4, l5, l6, l7⟩ := hL
  have hG3 := hG.2.2.1
  have hDw : ∀ {y}, lcA G ax y → wd y := fun h => (lc_wd hG hax h).1
  obtain ⟨k18, n18⟩ := xk hF 18 20 300 rfl
  unfold F_X3_findFollowers
  refine Ok.b1 (FJ7_fill k18 (by rw [n18]; decide) (by rw [n18]; decide)) (fun M1 ⟨g1, g2⟩ => ?_)
  rw [n18] at g1
  have hf1 : lfr (fun b => b = 18 ∨ b = 24) (fun k => k = 16) M M1 := ⟨fun b hb _ => g2 b (fun e => hb (Or.inl e)), fun k _ => by rw [g2 11 (by decide)]⟩
  unfold F_X3_findFollowers_L10
  refine Ok.loop (fun z => ∃ i : Nat, z.1 = i ∧ i ≤ (wl_ (lcA G ax)).length ∧ lfr (fun b => b = 18 ∨ b = 24) (fun k => k = 16) M z.2 ∧ msk (z.2 11 16) (fun c => ∃ x ∈ (wl_ (lcA G ax)).take i, ∃ r, insP G x r ∧ r / 100 = c) ∧ (∀ y, lcA G ax y → msk (z.2 18 (pos (lcA G ax) y)) (fun c => ∃ x ∈ (wl_ (lcA G ax)).take i, ∃ r, insP G x r ∧ insV G x r = y ∧ r / 100 = c)) ∧ ∀ e : Nat, e < 5 → msk (z.2 24 e) (fun d => ∃ x ∈ (wl_ (lcA G ax)).take i, ∃ r, insP G x r ∧ r / 100 = d ∧ mdb G ax x e)) (fun z => (400 - z.1).toNat) _ ⟨0, rfl, by omega, hf1, by show msk (M1 11 16) _; rw [hf1.2 16 |> fun _ => (show M1 11 16 = M 11 16 by rw [g2 11 (by decide)]), h16]; exact msk_0 (fun c _ ⟨x, a, _⟩ => by simp at a), fun y hy => by
    have hp := pos_lt (hDw hy) hy
    show msk (M1 18 _) _
    rw [g1 _ hp.1 (by omega)]; exact msk_0 (fun c _ ⟨x, a, _⟩ => by simp at a), fun e he => by
    show msk (M1 24 e) _
    rw [g2 24 (by decide), h24 e (by omega) (by omega)]; exact msk_0 (fun c _ ⟨x, a, _⟩ => by simp at a)⟩ (by show (400 - (0 : Int)).toNat < zN; decide) ?_ (fun e he => Ok.ret he)
  rintro ⟨v1, M2⟩ ⟨i, i1, i2, i3, i4, i5, i6⟩
  dsimp only at i1 i2 i3 i4 i5 i6 ⊢
  subst i1
  unfold F_X3_findFollowers_B10
  rw [i3.2 13 (by decide), l1]
  refine Ok.ite (fun q => ?_) (fun q => Ok.ret ?_)
  · have hi : i < (wl_ (lcA G ax)).length := by omega
    have hg := List.getElem?_eq_getElem hi
    have htk : (wl_ (lcA G ax)).take (i + 1) = (wl_ (lcA G ax)).take i ++ [(wl_ (lcA G ax))[i]] := List.take_succ_eq_append_getElem hi
    generalize (wl_ (lcA G ax))[i] = x at hg htk
    have hix := wl_idx hg
    have hposx : pos (lcA G ax) x = i := by unfold pos; omega
    have hmemt : ∀ z, z ∈ (wl_ (lcA G ax)).take (i + 1) ↔ z ∈ (wl_ (lcA G ax)).take i ∨ z = x := fun z => by rw [htk, List.mem_append, List.mem_singleton]
    have hep := ep_s (G := G) hg
    have hepb := ep_b (G := G) (D := lcA G ax) (i := i + 1) hG (by omega) l2
    have hlin := len_insL hG (x := x)
    rw [xat hF 15 301 rfl (by omega) (by omega)]
    simp only [zb1_some]
    rw [i3.1 15 (by decide) (by decide), l6 i (by omega)]
    show Ok (F_X3_findFollowers_L29 i 0 (ep G (lcA G ax) i) M2 S) _
    unfold F_X3_findFollowers_L29
    refine Ok.loop (fun z => ∃ j : Nat, z.2.1 = ((ep G (lcA G ax) i + j : Nat) : Int) ∧ j ≤ (insL G x).length ∧ lfr (fun b => b = 18) (fun _ => False) M2 z.2.2 ∧ msk z.1 (fun c => ∃ r ∈ (insL G x).take j, r / 100 = c) ∧ ∀ y, lcA G ax y → msk (z.2.2 18 (pos (lcA G ax) y)) (fun c => (∃ x ∈ (wl_ (lcA G ax)).take i, ∃ r, insP G x r ∧ insV G x r = y ∧ r / 100 = c) ∨ ∃ r ∈ (insL G x).take j, insV G x r = y ∧ r / 100 = c)) (fun z => (((ep G (lcA G ax) (i + 1) : Nat) : Int) - z.2.1).toNat) (fun e => lfr (fun b => b = 18) (fun _ => False) M2 e.2 ∧ msk e.1 (fun c => ∃ r ∈ insL G x, r / 100 = c) ∧ ∀ y, lcA G ax y → msk (e.2 18 (pos (lcA G ax) y)) (fun c => (∃ x ∈ (wl_ (lcA G ax)).take i, ∃ r, insP G x r ∧ insV G x r = y ∧ r / 100 = c) ∨ ∃ r ∈ insL G x, insV G x r = y ∧ r / 100 = c)) ⟨0, rfl, by omega, lfr.refl, msk_0 (fun c _ ⟨r, a, _⟩ => by simp at a), fun y hy => (i5 y hy).congr (fun c _ => ⟨Or.inl, fun a => by rcases a with a | ⟨r, a, _⟩; exact a; simp at a⟩)⟩ (by show (((ep G (lcA G ax) (i + 1) : Nat) : Int) - ((ep G (lcA G ax) i + 0 : Nat) : Int)).toNat < zN; rw [zN_v]; omega) ?_ ?_
    · rintro ⟨v2, v3, M3⟩ ⟨j, j1, j2, j3, j4, j5⟩
      dsimp only at j1 j2 j3 j4 j5 ⊢
      subst j1
      unfold F_X3_findFollowers_B29
      rw [w_id (a := (i : Int) + 1) (by omega), xat hF 15 301 rfl (by omega) (by omega)]
      simp only [zb1_some]
      rw [j3.1 15 (by decide) (by decide), i3.1 15 (by decide) (by decide), show (i : Int) + 1 = ((i + 1 : Nat) : Int) by omega, l6 (i + 1) (by omega), show (((wl_ (lcA G ax)).take (i + 1)).flatMap (eln G (lcA G ax))).length = ep G (lcA G ax) (i + 1) from rfl]
      refine Ok.ite (fun q1 => ?_) (fun q1 => Ok.ret ⟨j3, by rw [show j = (insL G x).length by omega, List.take_length] at j4 j5; exact ⟨j4, j5⟩⟩)
      have hj : j < (insL G x).length := by omega
      have hgj := List.getElem?_eq_getElem hj
      have htj : (insL G x).take (j + 1) = (insL G x).take j ++ [(insL G x)[j]] := List.take_succ_eq_append_getElem hj
      generalize (insL G x)[j] = r at hgj htj
      have hmj : ∀ z, z ∈ (insL G x).take (j + 1) ↔ z ∈ (insL G x).take j ∨ z = r := fun z => by rw [htj, List.mem_append, List.mem_singleton]
      obtain ⟨e1, e2, e3, e4, e5, e6, e7, e8, e9, e10, e11⟩ := edge hG hax l2 hg hgj
      have hcl := insP_c e1
      rw [xat hF 14 67500 rfl (by omega) (by omega)]
      simp only [zb1_some]
      rw [j3.1 14 (by decide) (by decide), i3.1 14 (by decide) (by decide), ep_at l5 hg hgj, FX4_context (by omega) e2]
      simp only [zb1_some]
      refine Ok.lett (Ok.lett ?_)
      rw [FX4_word e10 e11]
      simp only [zb1_some]
      rw [e9, xat hF 18 300 rfl (by omega) (by omega)]
      simp only [zb1_some]
      rw [xput hF 18 300 rfl (by omega) (by omega)]
      simp only [zb1_some]
      rw [w_id (a := ((ep G (lcA G ax) i + j : Nat) : Int) + 1) (by omega)]
      refine Ok.lett (Ok.ret ⟨⟨j + 1, by show ((ep G (lcA G ax) i + j : Nat) : Int) + 1 = _; omega, by omega, j3.trans (lfr.cell rfl (by decide)), (msk_or j4 (msk_1 (c := r / 100) (by omega))).congr (fun c _ => ⟨?_, ?_⟩), fun y hy => ?_⟩, by show (((ep G (lcA G ax) (i + 1) : Nat) : Int) - (((ep G (lcA G ax) i + j : Nat) : Int) + 1)).toNat < (((ep G (lcA G ax) (i + 1) : Nat) : Int) - ((ep G (lcA G ax) i + j : Nat) : Int)).toNat; omega⟩)
      · rintro (⟨r2, a1, a2⟩ | a)
        · exact ⟨r2, (hmj r2).mpr (Or.inl a1), a2⟩
        · exact ⟨r, (hmj r).mpr (Or.inr rfl), a.symm⟩
      · rintro ⟨r2, a1, a2⟩
        rcases (hmj r2).mp a1 with a1 | a1
        · exact Or.inl ⟨r2, a1, a2⟩
        · right; rw [← a2, a1]
      · show msk (zs M3 18 _ _ 18 _) _
        by_cases e : insV G x r = y
        · rw [← e, zs_at]
          refine (msk_or (j5 _ e6) (msk_1 (c := r / 100) (by omega))).congr (fun c _ => ⟨?_, ?_⟩)
          · rintro ((a | ⟨r2, a1, a2, a3⟩) | a)
            · exact Or.inl a
            · exact Or.inr ⟨r2, (hmj r2).mpr (Or.inl a1), a2, a3⟩
            · exact Or.inr ⟨r, (hmj r).mpr (Or.inr rfl), rfl, a.symm⟩
          · rintro (a | ⟨r2, a1, a2, a3⟩)
            · exact Or.inl (Or.inl a)
            · rcases (hmj r2).mp a1 with a1 | a1
              · exact Or.inl (Or.inr ⟨r2, a1, a2, a3⟩)
              · right; rw [← a3, a1]
        · have hne : pos (lcA G ax) y ≠ pos (lcA G ax) (insV G x r) := fun h => e (pos_inj e5 e6 (hDw hy) hy h.symm)
          rw [zs_off _ _ (Or.inr hne)]
          refine (j5 y hy).congr (fun c _ => ⟨?_, ?_⟩)
          · rintro (a | ⟨r2, a1, a2, a3⟩)
            · exact Or.inl a
            · exact Or.inr ⟨r2, (hmj r2).mpr (Or.inl a1), a2, a3⟩
          · rintro (a | ⟨r2, a1, a2, a3⟩)
            · exact Or.inl a
            · rcases (hmj r2).mp a1 with a1 | a1
              · exact Or.inr ⟨r2, a1, a2, a3⟩
              · rw [a1] at a2; exact absurd a2 e
    · rintro ⟨v2, M3⟩ ⟨j3, j4, j5⟩
      dsimp only at j3 j4 j5 ⊢
      unfold F_X3_findFollowers_J100
      refine Ok.lett ?_
      have e16 : M3 11 16 = M2 11 16 := j3.2 16 (fun a => a)
      obtain ⟨M4, hM4⟩ : ∃ M4, M4 = zs M3 11 16 (zor (M3 11 16) v2) := ⟨_, rfl⟩
      rw [← hM4]
      have f1 : ∀ b, b ≠ 11 → M4 b = M3 b := fun b hb => by rw [hM4, zs_ne _ _ _ hb]
      have m16 : msk (M4 11 16) (fun c => ∃ z ∈ (wl_ (lcA G ax)).take (i + 1), ∃ r, insP G z r ∧ r / 100 = c) := by
        rw [hM4, zs_at, e16]
        refine (msk_or i4 j4).congr (fun c _ => ⟨?_, ?_⟩)
        · rintro (⟨z, a1, a2⟩ | ⟨r, a1, a2⟩)
          · exact ⟨z, (hmemt z).mpr (Or.inl a1), a2⟩
          · exact ⟨x, (hmemt x).mpr (Or.inr rfl), r, (mem_insL hG hix.2.1).mp a1, a2⟩
        · rintro ⟨z, a1, r, a2, a3⟩
          rcases (hmemt z).mp a1 with a1 | a1
          · exact Or.inl ⟨z, a1, r, a2, a3⟩
          · rw [a1] at a2; exact Or.inr ⟨r, (mem_insL hG hix.2.1).mpr a2, a3⟩
      have m18 : ∀ y, lcA G ax y → msk (M4 18 (pos (lcA G ax) y)) (fun c => ∃ z ∈ (wl_ (lcA G ax)).take (i + 1), ∃ r, insP G z r ∧ insV G z r = y ∧ r / 100 = c) := fun y hy => by
        rw [f1 18 (by decide)]
        refine (j5 y hy).congr (fun c _ => ⟨?_, ?_⟩)
        · rintro (⟨z, a1, a2⟩ | ⟨r, a1, a2⟩)
          · exact ⟨z, (hmemt z).mpr (Or.inl a1), a2⟩
          · exact ⟨x, (hmemt x).mpr (Or.inr rfl), r, (mem_insL hG hix.2.1).mp a1, a2⟩
        · rintro ⟨z, a1, r, a2, a3⟩
          rcases (hmemt z).mp a1 with a1 | a1
          · exact Or.inl ⟨z, a1, r, a2, a3⟩
          · rw [a1] at a2 a3; exact Or.inr ⟨r, (mem_insL hG hix.2.1).mpr a2, a3⟩
      have hmdb : ∀ c : Nat, c < 5 → ((∃ z ∈ (wl_ (lcA G ax)).take (i + 1), ∃ r, insP G z r ∧ insV G z r = x ∧ r / 100 = c) ↔ mdb G ax x c) := fun c _ => by
        constructor
        · rintro ⟨z, a1, r, a2, a3, a4⟩
          exact ⟨z, r, (mem_wl.mp (List.mem_of_mem_take a1)).2, a2, a3, a4⟩
        · rintro ⟨z, r, a1, a2, a3, a4⟩
          have hz := hDw a1
          have hlt := (insV_r hG hz a2).2.2.2.2
          refine ⟨z, (hmemt z).mpr (Or.inl ?_), r, a2, a3, a4⟩
          have hza := wl_at hz a1
          have hzi : cnt (lcA G ax) z.toNat < i := by
            obtain ⟨q1, q2⟩ := List.getElem?_eq_some_iff.mp hza
            obtain ⟨q3, q4⟩ := List.getElem?_eq_some_iff.mp hg
            rcases Nat.lt_or_ge (cnt (lcA G ax) z.toNat) i with q5 | q5
            · exact q5
            · rcases Nat.eq_or_lt_of_le q5 with q6 | q6
              · have : z = x := by rw [← q2, ← q4]; exact ge_congr _ _ q6.symm
                omega
              · have := List.pairwise_iff_getElem.mp (pw_wl (lcA G ax)) _ _ q3 q1 q6
                omega
          exact List.mem_iff_getElem?.mpr ⟨_, by rw [List.getElem?_take, if_pos hzi]; exact hza⟩
      have hx18 := (m18 x hix.2.2).congr hmdb
      rw [hposx] at hx18
      have e24 : M4 24 = M2 24 := by rw [f1 24 (by decide), j3.1 24 (by decide) (by decide)]
      have hf4 : lfr (fun b => b = 18 ∨ b = 24) (fun k => k = 16) M M4 := i3.trans ((j3.mono (fun b hb => Or.inl hb) (fun _ a => a.elim)).trans (by rw [hM4]; exact lfr.fld rfl))
      unfold F_X3_findFollowers_L112
      refine Ok.loop (fun z => ∃ e : Nat, z.1 = e ∧ e ≤ 5 ∧ (∀ b, b ≠ 24 → z.2 b = M4 b) ∧ ∀ e2 : Nat, e2 < 5 → msk (z.2 24 e2) (fun d => (∃ z ∈ (wl_ (lcA G ax)).take i, ∃ r, insP G z r ∧ r / 100 = d ∧ mdb G ax z e2) ∨ (e2 < e ∧ mdb G ax x e2 ∧ ∃ r ∈ insL G x, r / 100 = d))) (fun z => (20 - z.1).toNat) (fun M5 => (∀ b, b ≠ 24 → M5 b = M4 b) ∧ ∀ e2 : Nat, e2 < 5 → msk (M5 24 e2) (fun d => ∃ z ∈ (wl_ (lcA G ax)).take (i + 1), ∃ r, insP G z r ∧ r / 100 = d ∧ mdb G ax z e2)) ⟨0, rfl, by omega, fun _ _ => rfl, fun e2 he2 => by
        show msk (M4 24 e2) _
        rw [e24]; exact (i6 e2 he2).congr (fun d _ => ⟨Or.inl, fun a => by rcases a with a | ⟨a, _⟩; exact a; omega⟩)⟩ (by show (20 - (0 : Int)).toNat < zN; decide) ?_ ?_
      · rintro ⟨v3, M5⟩ ⟨e, a1, a2, a3, a4⟩
        dsimp only at a1 a2 a3 a4 ⊢
        subst a1
        unfold F_X3_findFollowers_B112
        refine Ok.ite (fun q1 => ?_) (fun q1 => Ok.ret ⟨a3, fun e2 he2 => (a4 e2 he2).congr (fun d _ => ⟨?_, ?_⟩)⟩)
        · have he : e < 5 := by omega
          rw [xat hF 18 300 rfl (by omega) (by omega)]
          simp only [zb1_some]
          rw [a3 18 (by decide)]
          have go : ∀ M6 : zM, (∀ b, b ≠ 24 → M6 b = M4 b) → (∀ e2 : Nat, e2 < 5 → msk (M6 24 e2) (fun d => (∃ z ∈ (wl_ (lcA G ax)).take i, ∃ r, insP G z r ∧ r / 100 = d ∧ mdb G ax z e2) ∨ (e2 < e + 1 ∧ mdb G ax x e2 ∧ ∃ r ∈ insL G x, r / 100 = d))) → Ok (F_X3_findFollowers_J146 i v2 e M6 S) (Turn (fun z : Int × zM => ∃ e : Nat, z.1 = e ∧ e ≤ 5 ∧ (∀ b, b ≠ 24 → z.2 b = M4 b) ∧ ∀ e2 : Nat, e2 < 5 → msk (z.2 24 e2) (fun d => (∃ z ∈ (wl_ (lcA G ax)).take i, ∃ r, insP G z r ∧ r / 100 = d ∧ mdb G ax z e2) ∨ (e2 < e ∧ mdb G ax x e2 ∧ ∃ r ∈ insL G x, r / 100 = d))) (fun z => (20 - z.1).toNat) (fun M5 => (∀ b, b ≠ 24 → M5 b = M4 b) ∧ ∀ e2 : Nat, e2 < 5 → msk (M5 24 e2) (fun d => ∃ z ∈ (wl_ (lcA G ax)).take (i + 1), ∃ r, insP G z r ∧ r / 100 = d ∧ mdb G ax z e2)) ((e : Int), M5)) := fun M6 b1 b2 => by
            unfold F_X3_findFollowers_J146
            rw [w_id (a := (e : Int) + 1) (by omega)]
            exact Ok.lett (Ok.ret ⟨⟨e + 1, by show (e : Int) + 1 = _; omega, by omega, b1, b2⟩, by show (20 - ((e : Int) + 1)).toNat < (20 - (e : Int)).toNat; omega⟩)
          refine Ok.ite (fun q2 => go M5 a3 (fun e2 he2 => (a4 e2 he2).congr (fun d _ => ⟨?_, ?_⟩))) (fun q2 => Ok.chk ⟨by omega, q1⟩ (Ok.chk ⟨by omega, q1⟩ (Ok.lett (go _ (fun b hb => by rw [zs_ne _ _ _ hb]; exact a3 b hb) (fun e2 he2 => ?_)))))
          · rintro (b | ⟨b1, b2⟩)
            · exact Or.inl b
            · exact Or.inr ⟨by omega, b2⟩
          · rintro (b | ⟨b1, b2, b3⟩)
            · exact Or.inl b
            · by_cases h9 : e2 = e
              · rw [h9] at b2; exact absurd b2 ((msk_and hx18 he).mp q2)
              · exact Or.inr ⟨by omega, b2, b3⟩
          · have hmx : mdb G ax x e := Classical.byContradiction (fun h => q2 ((msk_and hx18 he).mpr h))
            by_cases h9 : e2 = e
            · subst h9
              rw [zs_at]
              refine (msk_or (a4 e2 he2) j4).congr (fun d _ => ⟨?_, ?_⟩)
              · rintro ((b | ⟨b1, _⟩) | b)
                · exact Or.inl b
                · omega
                · exact Or.inr ⟨by omega, hmx, b⟩
              · rintro (b | ⟨_, _, b⟩)
                · exact Or.inl (Or.inl b)
                · exact Or.inr b
            · rw [zs_off _ _ (Or.inr (by omega))]
              refine (a4 e2 he2).congr (fun d _ => ⟨?_, ?_⟩)
              · rintro (b | ⟨b1, b2⟩)
                · exact Or.inl b
                · exact Or.inr ⟨by omega, b2⟩
              · rintro (b | ⟨b1, b2⟩)
                · exact Or.inl b
                · exact Or.inr ⟨by omega, b2⟩
        · rintro (⟨z, b1, b2⟩ | ⟨b1, b2, r, b3, b4⟩)
          · exact ⟨z, (hmemt z).mpr (Or.inl b1), b2⟩
          · exact ⟨x, (hmemt x).mpr (Or.inr rfl), r, (mem_insL hG hix.2.1).mp b3, b4, b2⟩
        · rintro ⟨z, b1, r, b2, b3, b4⟩
          rcases (hmemt z).mp b1 with b1 | b1
          · exact Or.inl ⟨z, b1, r, b2, b3, b4⟩
          · rw [b1] at b2 b4; exact Or.inr ⟨by omega, b4, r, (mem_insL hG hix.2.1).mpr b2, b3⟩
      · intro M5 ⟨a1, a2⟩
        unfold F_X3_findFollowers_J152
        rw [w_id (a := (i : Int) + 1) (by omega)]
        have hf5 : lfr (fun b => b = 18 ∨ b = 24) (fun k => k = 16) M M5 := hf4.trans ⟨fun b hb _ => a1 b (fun e => hb (Or.inr e)), fun k _ => by rw [a1 11 (by decide)]⟩
        exact Ok.lett (Ok.ret ⟨⟨i + 1, by show (i : Int) + 1 = _; omega, by omega, hf5, by show msk (M5 11 16) _; rw [a1 11 (by decide)]; exact m16, fun y hy => by show msk (M5 18 _) _; rw [a1 18 (by decide)]; exact m18 y hy, a2⟩, by show (400 - ((i : Int) + 1)).toNat < (400 - (i : Int)).toNat; omega⟩)
  · have e : i = (wl_ (lcA G ax)).length := by omega
    rw [e, List.take_length] at i4 i6
    refine ⟨i4.congr (fun c _ => ⟨?_, ?_⟩), fun e2 he2 => (i6 e2 he2).congr (fun d _ => ⟨?_, ?_⟩), i3⟩
    · rintro ⟨x, a1, r, a2, a3⟩; exact ⟨x, r, (mem_wl.mp a1).2, a2, a3⟩
    · rintro ⟨x, r, a1, a2, a3⟩; exact ⟨x, mem_wl.mpr ⟨hDw a1, a1⟩, r, a2, a3⟩
    · rintro ⟨x, a1, r, a2, a3, a4⟩; exact ⟨x, r, (mem_wl.mp a1).2, a2, a3, a4⟩
    · rintro ⟨x, r, a1, a2, a3, a4⟩; exact ⟨x, mem_wl.mpr ⟨hDw a1, a1⟩, r, a2, a3, a4⟩
