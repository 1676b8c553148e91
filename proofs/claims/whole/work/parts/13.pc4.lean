/-! PURE 31: the reference's step of the best derivation -/
def prt (r : Nat) (p : Int) : Int := if p = 0 then ((r / 100 : Nat) : Int) else if p = 1 then rs r else re r
theorem FX11_derivationStep {M : zM} {G : zGr} {ax : List Int} {cur t p : Int} (h : mst M G ax cur) : Ok (F_X11_derivationStep t p M) (fun r => mscr M r.2 ∧ (¬ (0 ≤ p ∧ p ≤ 2) → r.2 48 0 = 1) ∧ ((0 ≤ p ∧ p ≤ 2) → (¬ fewA G ax → r.2 48 0 = 2) ∧ (fewA G ax → ¬ lcA G ax cur → r.2 48 0 = 3) ∧ (fewA G ax → lcA G ax cur → ∃ (k : Nat) (b : Int), bestA G ax cur k b ∧ (¬ (0 ≤ t ∧ t < k) → r.2 48 0 = 4) ∧ (∀ s : Nat, t = s → s < k → r.2 48 0 = 0 ∧ ∃ q : Nat, drv G cur k b s q ∧ r.1 = prt q p)))) := by
  have hw := h.2.2.1
  unfold F_X11_derivationStep
  refine Ok.lett ?_
  rw [FX11_isIn]
  simp only [zb1_some]
  refine Ok.ite (fun c => ?_) (fun c => ?_)
  · rw [FX11_fail]
    simp only [zb2_some]
    have hp : ¬ (0 ≤ p ∧ p ≤ 2) := fun q => by rw [if_pos q] at c; exact absurd c (by decide)
    exact Ok.ret ⟨mfr.trans (mscr.th (v := 0)) mscr.th, fun _ => zs_at (zs M 48 0 0) 48 0 1, fun q => absurd q hp⟩
  have hp : 0 ≤ p ∧ p ≤ 2 := by
    by_cases q : 0 ≤ p ∧ p ≤ 2
    · exact q
    · rw [if_neg q] at c; exact absurd rfl c
  refine Ok.b2 (mfind h) (fun r M1 ⟨h1, h2, h3, h4, h5⟩ => ?_)
  dsimp only at h1 h2 h3 h4 h5
  refine Ok.ite (fun c => ?_) (fun c => ?_)
  · rw [FX11_fail]
    simp only [zb2_some]
    exact Ok.ret ⟨mfr.trans h3 mscr.th, fun q => absurd hp q, fun _ => ⟨fun _ => zs_at M1 48 0 2, fun q => absurd q (tv_0 h1 c), fun q => absurd q (tv_0 h1 c)⟩⟩
  have hfe := tv_1 h1 c
  have hm := h2 hfe
  rw [h5.2.2.2.2.2]
  refine Ok.chk hw (Ok.ite (fun c1 => ?_) (fun c1 => ?_))
  · rw [FX11_fail]
    simp only [zb2_some]
    have hn := tv_0 (hm.1 cur hw) c1
    exact Ok.ret ⟨mfr.trans h3 mscr.th, fun q => absurd hp q, fun _ => ⟨fun q => absurd hfe q, fun _ _ => zs_at M1 48 0 3, fun _ q => absurd q hn⟩⟩
  have hD := tv_1 (hm.1 cur hw) c1
  refine Ok.b1 (FX11_findFar h5 hm hD) (fun M2 ⟨f1, f2⟩ => ?_)
  have hs2 : mscr M1 M2 := mscr.of f1 (fun b q => by unfold mfar at q; omega) (fun k q => False.elim q)
  have hst2 := h5.scr hs2
  refine Ok.b1 (FX11_bestAxiom hst2 (hm.fr f1 (by unfold mfar; omega) (fun q => q)) hD f2) (fun b ⟨k, b1, b2⟩ => ?_)
  have hG := h.1
  have hDw : ∀ {y}, lcA G ax y → wd y := fun h2 => (lc_wd hG h.2.1 h2).1
  have hwb := hDw b1.1
  have hk9 := pth_9 hG hwb b1.2.2.1
  have z2 : M2 48 0 = 0 := by rw [f1.2 0 (fun q => q) (by decide) (by decide)]; exact h4
  refine Ok.chk hwb ?_
  rw [FX11_isIn]
  simp only [zb1_some]
  rw [b2, w_id (a := (k : Int) - 1) (by omega)]
  refine Ok.ite (fun c2 => ?_) (fun c2 => ?_)
  · rw [FX11_fail]
    simp only [zb2_some]
    have hn : ¬ (0 ≤ t ∧ t ≤ (k : Int) - 1) := fun q => by rw [if_pos q] at c2; exact absurd c2 (by decide)
    exact Ok.ret ⟨mfr.trans (mfr.trans h3 hs2) mscr.th, fun q => absurd hp q, fun _ => ⟨fun q => absurd hfe q, fun _ q => absurd hD q, fun _ _ => ⟨k, b, b1, fun _ => zs_at M2 48 0 4, fun s e1 e2 => absurd ⟨by omega, by omega⟩ hn⟩⟩⟩
  have ht : 0 ≤ t ∧ t ≤ (k : Int) - 1 := by
    by_cases q : 0 ≤ t ∧ t ≤ (k : Int) - 1
    · exact q
    · rw [if_neg q] at c2; exact absurd rfl c2
  obtain ⟨s, hs⟩ : ∃ s : Nat, t = s := ⟨t.toNat, by omega⟩
  subst hs
  unfold F_X11_derivationStep_L88
  refine Ok.loop (fun z => ∃ (i j : Nat), z.2.2.1 = i ∧ i ≤ s + 1 ∧ i + j = k ∧ lcA G ax z.1 ∧ M2 63 z.1 = j ∧ pth G j z.1 cur ∧ (∀ u q, drv G cur j z.1 u q → drv G cur k b (i + u) q) ∧ (i = 0 ∨ ∃ q : Nat, z.2.1 = q ∧ drv G cur k b (i - 1) q) ∧ mfr mA0 mF0 M2 z.2.2.2) (fun z => (100 - z.2.2.1).toNat) (fun e => mfr mA0 mF0 M2 e.2 ∧ ∃ q : Nat, e.1 = q ∧ q < 500 ∧ drv G cur k b s q) ⟨0, k, rfl, by omega, by omega, b1.1, b2, b1.2.2.1, fun u q a => by rw [Nat.zero_add]; exact a, Or.inl rfl, mfr.refl⟩ (by show (100 - (0 : Int)).toNat < zN; decide) ?_ ?_
  · rintro ⟨v3, v4, v5, M3⟩ ⟨i, j, i1, i2, i3, i4, i5, i6, i7, i8, i9⟩
    dsimp only at i1 i2 i3 i4 i5 i6 i7 i8 i9 ⊢
    subst i1
    unfold F_X11_derivationStep_B88
    refine Ok.ite (fun q => ?_) (fun q => ?_)
    · rcases i8 with e | ⟨r4, e1, e2⟩
      · omega
      · refine Ok.ret ⟨i9, r4, e1, ?_, by rw [show s = i - 1 by omega]; exact e2⟩
        -- a step of a derivation inserts
        have hdp : ∀ {k : Nat} {y : Int} {s r : Nat}, lcA G ax y → drv G cur k y s r → r < 500 := by
          intro k
          induction k with
          | zero => intro y s r _ a; exact False.elim a
          | succ k ih =>
            intro y s r hy a
            cases s with
            | zero => exact insP_500 hG (hDw hy) a.1
            | succ s => obtain ⟨r0, a1, a2⟩ := a; exact ih (lc_ins hy a1.1 trivial) a2
        exact hdp b1.1 e2
    · obtain ⟨j', rfl⟩ : ∃ j', j = j' + 1 := ⟨j - 1, by omega⟩
      have hs3 : mscr M2 M3 := mscr.of i9 (fun b q => False.elim q) (fun k q => False.elim q)
      have e63 : M3 63 = M2 63 := i9.1 63 (fun q => q) (by decide) (by decide) (by decide)
      refine Ok.b2 (FX11_nearer (j := j') (hst2.scr hs3) i4 (by intro y hy; rw [e63]; exact f2 y hy) (by rw [e63]; exact i5)) (fun r4 M5 ⟨q4, k1, k2, k3⟩ => ?_)
      subst k1
      have hwx := hDw i4
      have h500 := insP_500 hG hwx k2.1
      have d1 : zdiv (q4 : Int) 100 = ((q4 / 100 : Nat) : Int) := by rw [zdiv_e (by omega) (by omega) (by decide) (by decide)]; omega
      have d3 : zdiv (q4 : Int) 10 = ((q4 / 10 : Nat) : Int) := by rw [zdiv_e (by omega) (by omega) (by decide) (by decide)]; omega
      have d4 : zrem ((q4 / 10 : Nat) : Int) 10 = rs q4 := by rw [zrem_e (by omega) (by omega) (by decide) (by decide)]; unfold rs; omega
      have d5 : zrem (q4 : Int) 10 = re q4 := by rw [zrem_e (by omega) (by omega) (by decide) (by decide)]; unfold re; omega
      rw [d1, d3, d4, d5]
      have k4 : mfr mA0 mF0 M2 M5 := i9.trans k3
      have hst5 := hst2.scr (mscr.of k4 (fun b q => False.elim q) (fun k q => False.elim q))
      obtain ⟨L, R, pr, hget, _⟩ := id k2.1
      have hcx := hG.2.2.2 _ (List.mem_of_getElem? hget)
      refine Ok.b1 (FX11_fit2 (A := mA0) (F := mF0) ⟨by omega, by omega⟩ hwx (hst5.2.2.2.1.2.2.2 (q4 / 100) L R pr hget).2.2 hcx.2.2) (fun M7 ⟨hfit, hfr7⟩ => ?_)
      have k5 : mfr mA0 mF0 M2 M7 := k4.trans hfr7
      have hst7 := hst2.scr (mscr.of k5 (fun b q => False.elim q) (fun k q => False.elim q))
      rw [mput hG hst7.2.2.2.1 hwx k2.1 hfit.1 hfit.2.1, w_id (a := (i : Int) + 1) (by omega)]
      simp only [zb1_some]
      have hDi := lc_ins i4 k2.1 trivial
      refine Ok.lett (Ok.ret ⟨⟨i + 1, j', by show (i : Int) + 1 = _; omega, by omega, by omega, hDi, isFar_n ((f2 _ (hDw hDi)).1 hDi) k2.2.1 (fun m hm => by have := k2.2.2.1 (m + 1) ⟨q4, k2.1, hm⟩; omega), k2.2.1, fun u q a => ?_, Or.inr ⟨q4, rfl, ?_⟩, k5⟩, by show (100 - ((i : Int) + 1)).toNat < (100 - (i : Int)).toNat; omega⟩)
      · rw [show i + 1 + u = i + (u + 1) by omega]
        exact i7 (u + 1) q ⟨q4, k2, a⟩
      · exact i7 0 q4 k2
  · rintro ⟨v4, M3⟩ ⟨e1, q4, e2, e3, e4⟩
    dsimp only at e1 e2 e3 e4 ⊢
    subst e2
    unfold F_X11_derivationStep_J140
    have d1 : zdiv (q4 : Int) 100 = ((q4 / 100 : Nat) : Int) := by rw [zdiv_e (by omega) (by omega) (by decide) (by decide)]; omega
    have d3 : zdiv (q4 : Int) 10 = ((q4 / 10 : Nat) : Int) := by rw [zdiv_e (by omega) (by omega) (by decide) (by decide)]; omega
    have d4 : zrem ((q4 / 10 : Nat) : Int) 10 = rs q4 := by rw [zrem_e (by omega) (by omega) (by decide) (by decide)]; unfold rs; omega
    have d5 : zrem (q4 : Int) 10 = re q4 := by rw [zrem_e (by omega) (by omega) (by decide) (by decide)]; unfold re; omega
    rw [d1, d3, d4, d5]
    have hs3 : mscr M M3 := mfr.trans (mfr.trans h3 hs2) (mscr.of e1 (fun b q => False.elim q) (fun k q => False.elim q))
    have z3 : M3 48 0 = 0 := by rw [e1.2 0 (fun q => q) (by decide) (by decide)]; exact z2
    have fin : ∀ v : Int, v = prt q4 p → mscr M (v, M3).2 ∧ (¬ (0 ≤ p ∧ p ≤ 2) → (v, M3).2 48 0 = 1) ∧ ((0 ≤ p ∧ p ≤ 2) → (¬ fewA G ax → (v, M3).2 48 0 = 2) ∧ (fewA G ax → ¬ lcA G ax cur → (v, M3).2 48 0 = 3) ∧ (fewA G ax → lcA G ax cur → ∃ (k : Nat) (b : Int), bestA G ax cur k b ∧ (¬ (0 ≤ (s : Int) ∧ (s : Int) < k) → (v, M3).2 48 0 = 4) ∧ (∀ s2 : Nat, (s : Int) = s2 → s2 < k → (v, M3).2 48 0 = 0 ∧ ∃ q : Nat, drv G cur k b s2 q ∧ (v, M3).1 = prt q p))) := fun v hv => by
      dsimp only
      refine ⟨hs3, fun q => absurd hp q, fun _ => ⟨fun q => absurd hfe q, fun _ q => absurd hD q, fun _ _ => ⟨k, b, b1, fun q => absurd ⟨by omega, by omega⟩ q, fun s2 es hs2 => ⟨z3, q4, ?_, hv⟩⟩⟩⟩
      rw [show s2 = s by omega]
      exact e4
    unfold prt at fin
    refine Ok.ite (fun q => Ok.ret (fin _ (by rw [if_pos q]))) (fun q => Ok.ite (fun q1 => Ok.ret (fin _ (by rw [if_neg q, if_pos q1]))) (fun q1 => Ok.ret (fin _ (by rw [if_neg q, if_neg q1]))))
