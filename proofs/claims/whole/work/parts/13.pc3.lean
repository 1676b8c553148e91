/-! PURE 30: the reference's best derivation -/
def farM (G : zGr) (ax : List Int) (cur : Int) (M : zM) : Prop := ∀ y, wd y → (lcA G ax y → isFar G cur y (M 63 y)) ∧ (¬ lcA G ax y → M 63 y = -1)
theorem pth_from {G : zGr} {ax : List Int} {cur : Int} (h : lcA G ax cur) : ∃ y, lcA G ax y ∧ y ∈ ax ∧ ∃ n : Nat, pth G n y cur := by
  refine h (fun z => ∃ y, lcA G ax y ∧ y ∈ ax ∧ ∃ n : Nat, pth G n y z) (fun a ha hl => ⟨a, lc_ax ha hl, ha, 0, rfl⟩) (fun x r ⟨y, h1, h2, n, h3⟩ hp _ => ⟨y, h1, h2, n + 1, pth_app h3 hp⟩)
theorem FX11_bestAxiom {M : zM} {G : zGr} {ax : List Int} {cur : Int} (h : mst M G ax cur) (hm : mrk M (lcA G ax)) (hD : lcA G ax cur) (hf : farM G ax cur M) : Ok (F_X11_bestAxiom M) (fun b => ∃ k : Nat, bestA G ax cur k b ∧ M 63 b = k) := by
  obtain ⟨hG, hax, hw, hM, hA, hcu⟩ := id h
  have hw0 := hw.1
  have hw1 := hw.2
  have hDw : ∀ {y}, lcA G ax y → wd y := fun h => (lc_wd hG hax h).1
  let C : Int → Prop := fun y => lcA G ax y ∧ y ∈ ax ∧ M 63 y ≠ -1
  have hC : ∀ {y : Int} {m : Nat}, lcA G ax y → y ∈ ax → pth G m y cur → C y := fun {y m} h1 h2 h3 => ⟨h1, h2, fun e => by
    rcases (hf y (hDw h1)).1 h1 with ⟨_, g⟩ | ⟨n, g, _⟩
    · exact g m h3
    · omega⟩
  unfold F_X11_bestAxiom F_X11_bestAxiom_L4
  refine Ok.loop (fun z => 0 ≤ z.2 ∧ z.2 ≤ cur + 1 ∧ ((z.1 = -1 ∧ ∀ y, C y → z.2 ≤ y) ∨ (C z.1 ∧ z.1 < z.2 ∧ ∀ y, C y → y < z.2 → M 63 z.1 < M 63 y ∨ (M 63 z.1 = M 63 y ∧ z.1 ≤ y)))) (fun z => (cur + 1 - z.2).toNat) (fun v => (v = -1 ∧ ∀ y, C y → cur < y) ∨ (C v ∧ ∀ y, C y → y ≤ cur → M 63 v < M 63 y ∨ (M 63 v = M 63 y ∧ v ≤ y))) ⟨Int.le_refl _, by show (0 : Int) ≤ cur + 1; omega, Or.inl ⟨rfl, fun y hy => (hDw hy.1).1⟩⟩ (by show (cur + 1 - 0).toNat < zN; have e : (40000 : Nat) ≤ zN := (by decide); omega) ?_ ?_
  · rintro ⟨v1, v2⟩ ⟨i1, i2, i3⟩
    dsimp only at i1 i2 i3 ⊢
    have j61 : ∀ v : Int, v2 ≤ cur → ((v = -1 ∧ ∀ y, C y → v2 + 1 ≤ y) ∨ (C v ∧ v < v2 + 1 ∧ ∀ y, C y → y < v2 + 1 → M 63 v < M 63 y ∨ (M 63 v = M 63 y ∧ v ≤ y))) → Ok (F_X11_bestAxiom_J61 v v2 M) (Turn (fun z : Int × Int => 0 ≤ z.2 ∧ z.2 ≤ cur + 1 ∧ ((z.1 = -1 ∧ ∀ y, C y → z.2 ≤ y) ∨ (C z.1 ∧ z.1 < z.2 ∧ ∀ y, C y → y < z.2 → M 63 z.1 < M 63 y ∨ (M 63 z.1 = M 63 y ∧ z.1 ≤ y)))) (fun z => (cur + 1 - z.2).toNat) (fun v => (v = -1 ∧ ∀ y, C y → cur < y) ∨ (C v ∧ ∀ y, C y → y ≤ cur → M 63 v < M 63 y ∨ (M 63 v = M 63 y ∧ v ≤ y))) (v1, v2)) := fun v hv a => by
      unfold F_X11_bestAxiom_J61
      rw [w_id (a := v2 + 1) (by omega)]
      exact Ok.lett (Ok.ret ⟨⟨by show 0 ≤ v2 + 1; omega, by show v2 + 1 ≤ cur + 1; omega, a⟩, by show (cur + 1 - (v2 + 1)).toNat < (cur + 1 - v2).toNat; omega⟩)
    have skip : ¬ C v2 → (v1 = -1 ∧ ∀ y, C y → v2 + 1 ≤ y) ∨ (C v1 ∧ v1 < v2 + 1 ∧ ∀ y, C y → y < v2 + 1 → M 63 v1 < M 63 y ∨ (M 63 v1 = M 63 y ∧ v1 ≤ y)) := fun hn => by
      have hne : ∀ y, C y → y ≠ v2 := fun y hy e => hn (e ▸ hy)
      rcases i3 with ⟨a1, a2⟩ | ⟨a1, a2, a3⟩
      · exact Or.inl ⟨a1, fun y hy => by have := a2 y hy; have := hne y hy; omega⟩
      · exact Or.inr ⟨a1, by omega, fun y hy hl => a3 y hy (by have := hne y hy; omega)⟩
    unfold F_X11_bestAxiom_B4
    rw [hcu]
    refine Ok.ite (fun q => Ok.ret ?_) (fun q => ?_)
    · rcases i3 with ⟨a1, a2⟩ | ⟨a1, a2, a3⟩
      · exact Or.inl ⟨a1, fun y hy => by have := a2 y hy; omega⟩
      · exact Or.inr ⟨a1, fun y hy hl => a3 y hy (by omega)⟩
    · have hv : wd v2 := ⟨i1, by omega⟩
      refine Ok.chk hv (Ok.ite (fun c1 => j61 v1 (by omega) (skip (fun hc => tv_0 (hm.1 v2 hv) c1 hc.1))) (fun c1 => Ok.chk hv (Ok.ite (fun c2 => j61 v1 (by omega) (skip (fun hc => hc.2.2 c2))) (fun c2 => ?_))))
      refine Ok.b1 (FX11_isAxiom hA hax.1) (fun r hr => Ok.ite (fun c3 => j61 v1 (by omega) (skip (fun hc => tv_0 hr c3 hc.2.1))) (fun c3 => ?_))
      have hc : C v2 := ⟨tv_1 (hm.1 v2 hv) c1, tv_1 hr c3, c2⟩
      have j59 : (∀ y, C y → y < v2 → M 63 v2 < M 63 y) → Ok (F_X11_bestAxiom_J59 v2 M) (Turn (fun z : Int × Int => 0 ≤ z.2 ∧ z.2 ≤ cur + 1 ∧ ((z.1 = -1 ∧ ∀ y, C y → z.2 ≤ y) ∨ (C z.1 ∧ z.1 < z.2 ∧ ∀ y, C y → y < z.2 → M 63 z.1 < M 63 y ∨ (M 63 z.1 = M 63 y ∧ z.1 ≤ y)))) (fun z => (cur + 1 - z.2).toNat) (fun v => (v = -1 ∧ ∀ y, C y → cur < y) ∨ (C v ∧ ∀ y, C y → y ≤ cur → M 63 v < M 63 y ∨ (M 63 v = M 63 y ∧ v ≤ y))) (v1, v2)) := fun a => by
        unfold F_X11_bestAxiom_J59
        refine j61 v2 (by omega) (Or.inr ⟨hc, by omega, fun y hy hl => ?_⟩)
        by_cases e : y = v2
        · rw [e]; exact Or.inr ⟨rfl, Int.le_refl _⟩
        · exact Or.inl (a y hy (by omega))
      refine Ok.ite (fun c4 => j59 (fun y hy hl => ?_)) (fun c4 => ?_)
      · rcases i3 with ⟨_, a2⟩ | ⟨a1, _, _⟩
        · have := a2 y hy; omega
        · rw [c4] at a1; have := (hDw a1.1).1; omega
      · have hi : C v1 ∧ v1 < v2 ∧ ∀ y, C y → y < v2 → M 63 v1 < M 63 y ∨ (M 63 v1 = M 63 y ∧ v1 ≤ y) := by
          rcases i3 with ⟨a1, _⟩ | a
          · exact absurd a1 c4
          · exact a
        obtain ⟨a1, a2, a3⟩ := hi
        refine Ok.chk hv (Ok.chk (hDw a1.1) (Ok.ite (fun c5 => j59 (fun y hy hl => ?_)) (fun c5 => j61 v1 (by omega) (Or.inr ⟨a1, by omega, fun y hy hl => ?_⟩))))
        · have := a3 y hy hl; omega
        · by_cases e : y = v2
          · rw [e]; omega
          · exact a3 y hy (by omega)
  · intro v hv
    unfold F_X11_bestAxiom_J67
    refine Ok.ret ?_
    obtain ⟨y, y1, y2, n, y3⟩ := pth_from hD
    rcases hv with ⟨_, a⟩ | ⟨a1, a2⟩
    · have := a y (hC y1 y2 y3)
      have := pth_le hG (hDw y1) y3
      omega
    · rcases (hf v (hDw a1.1)).1 a1.1 with ⟨g, _⟩ | ⟨k, g1, g2, g3⟩
      · exact absurd g a1.2.2
      · refine ⟨k, ⟨a1.1, a1.2.1, g2, fun z hz hza m hm => ?_⟩, g1⟩
        rcases (hf z (hDw hz)).1 hz with ⟨_, g⟩ | ⟨j, b1, b2, b3⟩
        · exact absurd hm (g m)
        · have := b3 m hm
          have := a2 z (hC hz hza hm) (pth_le hG (hDw hz) hm)
          omega
theorem mput {M : zM} {G : zGr} {x : Int} {r : Nat} (hG : grok G) (hM : gM M G) (hx : wd x) (hp : insP G x r) (e1 : M 48 20 = x) (e2 : M 48 21 = ln x) : F_X11_inserted ((r / 100 : Nat) : Int) (rs r) (re r) M = some (insV G x r) := by
  have hc := insP_500 hG hx hp
  obtain ⟨L, R, pr, h1, h2, h3, h4, h5⟩ := hp
  obtain ⟨w1, w2, w3, w4⟩ := cxok_wd (hG.2.2.2 _ (List.mem_of_getElem? h1))
  obtain ⟨g5, g6, g7⟩ := hM.2.2.2 (r / 100) L R pr h1
  have := hG.1
  rw [FX11_inserted ⟨by omega, by omega⟩ hx w1 w2 g5 g6 e1 e2 (by omega) (by unfold rs; omega) h2 h3]
  unfold insV cxg
  rw [h1]
  rfl
theorem FX11_nearer {M : zM} {G : zGr} {ax : List Int} {cur x : Int} {j : Nat} (h : mst M G ax cur) (hD : lcA G ax x) (hf : farM G ax cur M) (hx : M 63 x = ((j + 1 : Nat) : Int)) : Ok (F_X11_nearer x M) (fun e => ∃ r : Nat, e.1 = (r : Int) ∧ nxt G cur j x r ∧ mfr mA0 mF0 M e.2) := by
  obtain ⟨hG, hax, hw, hM, hA, hcu⟩ := id h
  have hG3 := hG.2.2.1
  have hDw : ∀ {y}, lcA G ax y → wd y := fun h => (lc_wd hG hax h).1
  have hwx := hDw hD
  have hfr : ∀ {M3 : zM}, mfr mA0 mF0 M M3 → gM M3 G ∧ M3 63 = M 63 := fun h => ⟨hM.fr h ⟨fun q => q, fun q => q, fun q => q, fun q => q⟩ ⟨fun q => q, fun q => q, fun q => q⟩, h.1 63 (fun q => q) (by decide) (by decide) (by decide)⟩
  have hmin : pth G (j + 1) x cur ∧ ∀ m : Nat, pth G m x cur → j + 1 ≤ m := by
    rcases (hf x hwx).1 hD with ⟨g, _⟩ | ⟨n, g1, g2, g3⟩
    · omega
    · have e : n = j + 1 := by omega
      rw [e] at g2 g3
      exact ⟨g2, g3⟩
  have hiff : ∀ r, insP G x r → (M 63 (insV G x r) = j ↔ pth G j (insV G x r) cur) := fun r hp => by
    have hDi := lc_ins hD hp trivial
    refine ⟨fun e => ?_, fun hp2 => isFar_n ((hf _ (hDw hDi)).1 hDi) hp2 (fun m hm => ?_)⟩
    · rcases (hf _ (hDw hDi)).1 hDi with ⟨g, _⟩ | ⟨n, g1, g2, _⟩
      · omega
      · have e2 : n = j := by omega
        rw [e2] at g2; exact g2
    · have := hmin.2 (m + 1) ⟨r, hp, hm⟩
      omega
  unfold F_X11_nearer F_X11_nearer_L2
  refine Ok.loop (fun z => ∃ r : Nat, z.1 = r ∧ r ≤ 100 * G.2.2.length ∧ mfr mA0 mF0 M z.2 ∧ ∀ t, t < r → insP G x t → ¬ pth G j (insV G x t) cur) (fun z => (1000 - z.1).toNat) (fun e => ∃ (r : Nat) (M3 : zM), e = .inl ((r : Int), M3) ∧ mfr mA0 mF0 M M3 ∧ nxt G cur j x r) ⟨0, rfl, by omega, mfr.refl, fun t ht => absurd ht (Nat.not_lt_zero t)⟩ (by show (1000 - (0 : Int)).toNat < zN; decide) ?_ ?_
  · rintro ⟨v2, M3⟩ ⟨r, i1, i2, i3, i4⟩
    dsimp only at i1 i2 i3 i4 ⊢
    subst i1
    obtain ⟨gg, g63⟩ := hfr i3
    unfold F_X11_nearer_B2
    rw [gg.1, w_id (a := 100 * (G.2.2.length : Int)) (by omega)]
    refine Ok.ite (fun q => ?_) (fun q => ?_)
    · have hc : r / 100 < G.2.2.length := by omega
      have hget : G.2.2[r / 100]? = some G.2.2[r / 100] := List.getElem?_eq_getElem hc
      obtain ⟨L, R, pr, hLR⟩ : ∃ L R pr, G.2.2[r / 100] = (L, R, pr) := ⟨_, _, _, rfl⟩
      rw [hLR] at hget
      have hcx := hG.2.2.2 _ (List.mem_of_getElem? hget)
      have d1 : zdiv (r : Int) 100 = ((r / 100 : Nat) : Int) := by rw [zdiv_e (by omega) (by omega) (by decide) (by decide)]; omega
      have d2 : zrem (r : Int) 100 = ((r % 100 : Nat) : Int) := by rw [zrem_e (by omega) (by omega) (by decide) (by decide)]; omega
      have d3 : zdiv (r : Int) 10 = ((r / 10 : Nat) : Int) := by rw [zdiv_e (by omega) (by omega) (by decide) (by decide)]; omega
      have d4 : zrem ((r / 10 : Nat) : Int) 10 = rs r := by rw [zrem_e (by omega) (by omega) (by decide) (by decide)]; unfold rs; omega
      have d5 : zrem (r : Int) 10 = re r := by rw [zrem_e (by omega) (by omega) (by decide) (by decide)]; unfold re; omega
      rw [d1, d2, d3, d4, d5]
      refine Ok.lett (Ok.b1 (FX11_fit2 (A := mA0) (F := mF0) ⟨by omega, by omega⟩ hwx (gg.2.2.2 (r / 100) L R pr hget).2.2 hcx.2.2) (fun M5 ⟨hfit, hfr5⟩ => ?_))
      have j3 : mfr mA0 mF0 M M5 := i3.trans hfr5
      obtain ⟨gg5, g635⟩ := hfr j3
      have go : (insP G x r → ¬ pth G j (insV G x r) cur) → Ok (F_X11_nearer_J99 x r M5) (Turn (fun z : Int × zM => ∃ r : Nat, z.1 = r ∧ r ≤ 100 * G.2.2.length ∧ mfr mA0 mF0 M z.2 ∧ ∀ t, t < r → insP G x t → ¬ pth G j (insV G x t) cur) (fun z => (1000 - z.1).toNat) (fun e : (Int × zM) ⊕ zM => ∃ (r : Nat) (M3 : zM), e = .inl ((r : Int), M3) ∧ mfr mA0 mF0 M M3 ∧ nxt G cur j x r) ((r : Int), M3)) := fun a => by
        unfold F_X11_nearer_J99
        rw [w_id (a := (r : Int) + 1) (by omega)]
        refine Ok.lett (Ok.ret ⟨⟨r + 1, by show (r : Int) + 1 = _; omega, by omega, j3, fun t ht hp => ?_⟩, by show (1000 - ((r : Int) + 1)).toNat < (1000 - (r : Int)).toNat; omega⟩)
        by_cases e : t = r
        · rw [e] at hp ⊢; exact a hp
        · exact i4 t (by omega) hp
      refine mtr hG gg5 hwx hget hfit (fun hn => go (fun hp => absurd hp hn)) (fun hn => go (fun hp => absurd hp hn)) (fun hp => ?_)
      have hv := insV_r hG hwx hp
      refine Ok.chk hv.1 (Ok.chk hwx ?_)
      rw [g635, hx, w_id (a := ((j + 1 : Nat) : Int) - 1) (by
        have := pth_9 hG hwx hmin.1
        omega), show ((j + 1 : Nat) : Int) - 1 = (j : Int) by omega]
      refine Ok.ite (fun c => Ok.ret ⟨r, M5, rfl, j3, hp, (hiff r hp).mp c, hmin.2, i4⟩) (fun c => go (fun _ a => c ((hiff r hp).mpr a)))
    · exfalso
      obtain ⟨r2, hp2, hp3⟩ := hmin.1
      have := (insV_r hG hwx hp2).2.2.2.1
      exact i4 r2 (by omega) hp2 hp3
  · rintro e ⟨r, M3, rfl, h1, h2⟩
    unfold F_X11_nearer_J97
    exact Ok.ret ⟨r, rfl, h2, h1⟩
theorem FX11_derivationLength {M : zM} {G : zGr} {ax : List Int} {cur : Int} (h : mst M G ax cur) : Ok (F_X11_derivationLength M) (fun r => mscr M r.2 ∧ (fewA G ax → lcA G ax cur → r.2 48 0 = 0 ∧ ∃ (k : Nat) (b : Int), r.1 = k ∧ bestA G ax cur k b) ∧ (fewA G ax → ¬ lcA G ax cur → r.2 48 0 = 2) ∧ (¬ fewA G ax → r.2 48 0 = 1)) := by
  have hw := h.2.2.1
  unfold F_X11_derivationLength
  refine Ok.lett (Ok.b2 (mfind h) (fun r M1 ⟨h1, h2, h3, h4, h5⟩ => ?_))
  dsimp only at h1 h2 h3 h4 h5
  refine Ok.ite (fun c => ?_) (fun c => ?_)
  · rw [FX11_fail]
    simp only [zb2_some]
    exact Ok.ret ⟨mfr.trans h3 mscr.th, fun q => absurd q (tv_0 h1 c), fun q => absurd q (tv_0 h1 c), fun _ => zs_at M1 48 0 1⟩
  · have hfe := tv_1 h1 c
    have hm := h2 hfe
    rw [h5.2.2.2.2.2]
    refine Ok.chk hw (Ok.ite (fun c1 => ?_) (fun c1 => ?_))
    · rw [FX11_fail]
      simp only [zb2_some]
      have hn := tv_0 (hm.1 cur hw) c1
      exact Ok.ret ⟨mfr.trans h3 mscr.th, fun _ q => absurd q hn, fun _ _ => zs_at M1 48 0 2, fun q => absurd hfe q⟩
    · have hD := tv_1 (hm.1 cur hw) c1
      refine Ok.b1 (FX11_findFar h5 hm hD) (fun M2 ⟨f1, f2⟩ => ?_)
      have hs2 : mscr M1 M2 := mscr.of f1 (fun b q => by unfold mfar at q; omega) (fun k q => False.elim q)
      refine Ok.b1 (FX11_bestAxiom (h5.scr hs2) (hm.fr f1 (by unfold mfar; omega) (fun q => q)) hD f2) (fun b ⟨k, b1, b2⟩ => ?_)
      have hwb := (lc_wd h.1 h.2.1 b1.1).1
      refine Ok.chk hwb (Ok.ret ⟨mfr.trans h3 hs2, fun _ _ => ⟨?_, k, b, b2, b1⟩, fun _ q => absurd hD q, fun q => absurd hfe q⟩)
      show M2 48 0 = 0
      rw [f1.2 0 (fun q => q) (by decide) (by decide)]
      exact h4
