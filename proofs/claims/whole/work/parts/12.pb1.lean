/-! PURE 19: the reference: all contexts; derivations counted -/
def fewA (G : zGr) (ax : List Int) : Prop := cnt (lcA G ax) 29524 ≤ 300
theorem all_w : ∀ n : Nat, n ≤ 5 → w (zshl 1 (n : Int) - 1) = 2 ^ n - 1 := by decide +kernel
theorem lc_congr {G : zGr} {ax : List Int} {C E : Nat → Prop} {y : Int} (hG : grok G) (i : ∀ c, c < G.2.2.length → C c → E c) (h : lc G ax C y) : lc G ax E y := h _ (fun a ha hl => lc_ax ha hl) (fun x r hx hp hc => lc_ins hx hp (i _ (by
  obtain ⟨L, R, pr, h1, _⟩ := hp
  exact (List.getElem?_eq_some_iff.mp h1).1) hc))
theorem bs_all {n c : Nat} (hn : n ≤ 5) (hc : c < n) : bs ((2 : Int) ^ n - 1) c := by
  have e : (2 : Int) ^ n - 1 = ((2 ^ n - 1 : Nat) : Int) := by
    have := Nat.one_le_two_pow (n := n)
    rw [Int.natCast_sub this, Int.natCast_pow]
    rfl
  unfold bs
  rw [e, Int.toNat_natCast, Nat.testBit_two_pow_sub_one, decide_eq_true hc]
theorem lcA_all {G : zGr} {ax : List Int} {y : Int} (hG : grok G) : lc G ax (bs ((2 : Int) ^ G.2.2.length - 1)) y ↔ lcA G ax y := ⟨lc_congr hG (fun _ _ _ => trivial), lc_congr hG (fun c hc _ => bs_all hG.2.2.1 hc)⟩
theorem pow5 {n : Nat} (h : n ≤ 5) : 0 ≤ (2 : Int) ^ n - 1 ∧ (2 : Int) ^ n - 1 < 32 := by
  have : n = 0 ∨ n = 1 ∨ n = 2 ∨ n = 3 ∨ n = 4 ∨ n = 5 := by omega
  rcases this with rfl | rfl | rfl | rfl | rfl | rfl <;> decide
theorem FX11_findAll {M : zM} {G : zGr} {ax : List Int} (hG : grok G) (hM : gM M G) (hA : axM M ax) (hax : axok ax) : Ok (F_X11_findAll M) (fun r => tv r.1 (fewA G ax) ∧ (fewA G ax → mrk r.2 (lcA G ax)) ∧ (¬ fewA G ax → 300 < r.2 48 23) ∧ mfr (fun b => b = 58) (fun k => k = 23) M r.2) := by
  have h5 := hG.2.2.1
  have hfew : few G ax (bs ((2 : Int) ^ G.2.2.length - 1)) ↔ fewA G ax := by
    unfold few fewA
    rw [cnt_congr (fun k _ => lcA_all hG)]
  unfold F_X11_findAll
  rw [hM.1, all_w _ h5]
  refine Ok.b2 (FX11_find hG hM hA hax (pow5 h5)) (fun r M1 ⟨h1, h2, h3, h4⟩ => ?_)
  dsimp only at h1 h2 h3 h4
  rw [hfew] at h1 h2 h3
  exact Ok.chk (tv_b h1) (Ok.ret ⟨h1, fun q => (h2 q).congr (fun y _ => lcA_all hG), h3, h4⟩)
theorem axM.fr {A : Nat → Prop} {F : Int → Prop} {M M1 : zM} {ax : List Int} (h : axM M ax) (hf : mfr A F M M1) (hA : ¬ A 49) (hF : ¬ F 2) : axM M1 ax := by
  unfold axM
  rw [hf.2 2 hF (by decide) (by decide), hf.1 49 hA (by decide) (by decide) (by decide)]
  exact h
/-- only the reference's notes have changed -/
def mscr (M M1 : zM) : Prop := mfr (fun b => 58 ≤ b ∧ b ≤ 66) (fun k => k = 0 ∨ k = 23 ∨ k = 26) M M1
theorem mscr.of {A : Nat → Prop} {F : Int → Prop} {M M1 : zM} (h : mfr A F M M1) (i : ∀ b, A b → 58 ≤ b ∧ b ≤ 66) (j : ∀ k, F k → k = 0 ∨ k = 23 ∨ k = 26) : mscr M M1 := h.mono i j
theorem mscr.th {M : zM} {v : Int} : mscr M (zs M 48 0 v) := mfr.fld (Or.inl rfl)
theorem gM.scr {M M1 : zM} {G : zGr} (h : gM M G) (hf : mscr M M1) : gM M1 G := h.fr hf ⟨by omega, by omega, by omega, by omega⟩ ⟨by omega, by omega, by omega⟩
theorem axM.scr {M M1 : zM} {ax : List Int} (h : axM M ax) (hf : mscr M M1) : axM M1 ax := h.fr hf (by omega) (by omega)
theorem mscr.cur {M M1 : zM} (h : mscr M M1) : M1 48 29 = M 48 29 := h.2 29 (by omega) (by decide) (by decide)
theorem FX11_fail {M : zM} {c : Int} : F_X11_fail c M = some (0, zs M 48 0 c) := rfl
theorem cnt_take {D : Int → Prop} {k : Nat} (hk : k < 29524) (hD : D k) : (wl_ D).take (cnt D (k + 1)) = (wl_ D).take (cnt D k) ++ [(k : Int)] := by
  have h := wl_at (D := D) (y := (k : Int)) ⟨by omega, by omega⟩ hD
  rw [Int.toNat_natCast] at h
  obtain ⟨l1, e1⟩ := List.getElem?_eq_some_iff.mp h
  rw [cnt_t hD, List.take_succ_eq_append_getElem l1, e1]
theorem mrk.fr {A : Nat → Prop} {F : Int → Prop} {M M1 : zM} {D : Int → Prop} (h : mrk M D) (hf : mfr A F M M1) (hA : ¬ A 58) (hF : ¬ F 23) : mrk M1 D := by
  unfold mrk
  rw [hf.1 58 hA (by decide) (by decide) (by decide), hf.2 23 hF (by decide) (by decide)]
  exact h
theorem FX11_derivations {M : zM} {G : zGr} {ax : List Int} {cur : Int} (hG : grok G) (hM : gM M G) (hA : axM M ax) (hax : axok ax) (hcur : M 48 29 = cur) (hw : wd cur) : Ok (F_X11_derivations M) (fun r => mscr M r.2 ∧ (fewA G ax → r.2 48 0 = 0 ∧ (lcA G ax cur → r.1 = wys G ax cur) ∧ (¬ lcA G ax cur → r.1 = 0)) ∧ (¬ fewA G ax → r.2 48 0 = 1)) := by
  have hG3 := hG.2.2.1
  have hw0 := hw.1
  have hw1 := hw.2
  unfold F_X11_derivations
  refine Ok.lett ?_
  have hs1 : mscr M (zs M 48 0 0) := mscr.th
  have ht1 : zs M 48 0 0 48 0 = 0 := zs_at _ _ _ _
  generalize zs M 48 0 0 = M1 at hs1 ht1
  refine Ok.b2 (FX11_findAll hG (hM.scr hs1) (hA.scr hs1) hax) (fun r0 M2 ⟨h1, h2, h3, h4⟩ => ?_)
  dsimp only at h1 h2 h3 h4
  have hs2 : mscr M M2 := mfr.trans hs1 (mscr.of h4 (fun b q => by omega) (fun k q => by omega))
  refine Ok.ite (fun c => ?_) (fun c => ?_)
  · rw [FX11_fail]
    simp only [zb2_some]
    exact Ok.ret ⟨mfr.trans hs2 mscr.th, fun q => absurd q (tv_0 h1 c), fun _ => zs_at M2 48 0 1⟩
  have hfew := tv_1 h1 c
  have hm := h2 hfew
  have ht2 : M2 48 0 = 0 := by rw [h4.2 0 (by decide) (by decide) (by decide)]; exact ht1
  generalize hDe : lcA G ax = D at *
  have hDw : ∀ {y}, D y → wd y := fun h => by rw [← hDe] at h; exact (lc_wd hG hax h).1
  have hDi : ∀ {x r}, D x → insP G x r → D (insV G x r) := fun h hp => by rw [← hDe] at h ⊢; exact lc_ins h hp trivial
  -- frames
  have fin : ∀ M3 : zM, mfr (fun b => b = 64) mF0 M2 M3 → mscr M M3 ∧ M3 48 0 = 0 ∧ M3 48 29 = cur ∧ gM M3 G ∧ axM M3 ax ∧ mrk M3 D := fun M3 h => by
    have hs3 : mscr M M3 := mfr.trans hs2 (mscr.of h (fun b q => by omega) (fun k q => q.elim))
    exact ⟨hs3, by rw [h.2 0 (fun q => q) (by decide) (by decide)]; exact ht2, by rw [hs3.cur]; exact hcur, hM.scr hs3, hA.scr hs3, hm.fr h (by decide) (fun q => q)⟩
  unfold F_X11_derivations_L21
  refine Ok.loop (fun z => ∃ k : Nat, z.1 = k ∧ k ≤ 29524 ∧ mfr (fun b => b = 64) mF0 M2 z.2 ∧ ∀ y, wd y → y < k → (D y → z.2 64 y = ini ax y) ∧ (¬ D y → z.2 64 y = 0)) (fun z => (30000 - z.1).toNat) (fun M3 => mfr (fun b => b = 64) mF0 M2 M3 ∧ ∀ y, wd y → (D y → M3 64 y = ini ax y) ∧ (¬ D y → M3 64 y = 0)) ⟨0, rfl, by omega, mfr.refl, fun y hy h => by have := hy.1; omega⟩ (by show (30000 - (0 : Int)).toNat < zN; decide) ?_ ?_
  · rintro ⟨v1, M3⟩ ⟨k, i1, i2, i3, i4⟩
    dsimp only at i1 i2 i3 i4 ⊢
    subst i1
    obtain ⟨_, _, _, _, ga, gm⟩ := fin M3 i3
    unfold F_X11_derivations_B21
    refine Ok.ite (fun q => Ok.chk ⟨by omega, q⟩ ?_) (fun q => Ok.ret ⟨i3, fun y hy => i4 y hy (by have := hy.2; omega)⟩)
    have hk : wd (k : Int) := ⟨by omega, q⟩
    have go : ∀ v : Int, (D k → v = ini ax k) → (¬ D k → v = 0) → Ok (F_X11_derivations_J55 k k v M3) (Turn (fun z : Int × zM => ∃ k : Nat, z.1 = k ∧ k ≤ 29524 ∧ mfr (fun b => b = 64) mF0 M2 z.2 ∧ ∀ y, wd y → y < k → (D y → z.2 64 y = ini ax y) ∧ (¬ D y → z.2 64 y = 0)) (fun z => (30000 - z.1).toNat) (fun M3 => mfr (fun b => b = 64) mF0 M2 M3 ∧ ∀ y, wd y → (D y → M3 64 y = ini ax y) ∧ (¬ D y → M3 64 y = 0)) ((k : Int), M3)) := fun v hv1 hv2 => by
      unfold F_X11_derivations_J55
      refine Ok.chk ⟨by omega, q⟩ (Ok.lett (Ok.lett (Ok.ret ?_)))
      rw [w_id (a := (k : Int) + 1) (by omega)]
      refine ⟨⟨k + 1, by show (k : Int) + 1 = _; omega, by omega, i3.trans (mfr.cell rfl (by decide)), fun y hy h => ?_⟩, by show (30000 - ((k : Int) + 1)).toNat < (30000 - (k : Int)).toNat; omega⟩
      show (D y → zs M3 64 k v 64 y = _) ∧ (¬ D y → zs M3 64 k v 64 y = 0)
      by_cases e : y = k
      · subst e; rw [zs_at]; exact ⟨hv1, hv2⟩
      · rw [zs_off _ _ (Or.inr e)]; exact i4 y hy (by omega)
    unfold F_X11_derivations_J54
    refine Ok.ite (fun c1 => go 0 (fun h => absurd h (tv_0 (gm.1 k hk) c1)) (fun _ => rfl)) (fun c1 => Ok.b1 (FX11_isAxiom ga hax.1) (fun r hr => Ok.ite (fun c2 => go 0 (fun _ => by unfold ini; rw [if_neg (tv_0 hr c2)]) (fun _ => rfl)) (fun c2 => go 1 (fun _ => by unfold ini; rw [if_pos (tv_1 hr c2)]) (fun h => absurd (tv_1 (gm.1 k hk) c1) h))))
  intro M3 ⟨hf3, hi3⟩
  unfold F_X11_derivations_J62 F_X11_derivations_L64
  refine Ok.loop (fun z => ∃ k : Nat, z.1 = k ∧ k ≤ cur.toNat ∧ mfr (fun b => b = 64) mF0 M2 z.2 ∧ ∀ y, wd y → (D y → z.2 64 y = wyL G ((wl_ D).take (cnt D k)) (ini ax) y) ∧ (¬ D y → z.2 64 y = 0)) (fun z => (30000 - z.1).toNat) (fun M4 => mfr (fun b => b = 64) mF0 M2 M4 ∧ ∀ y, wd y → (D y → M4 64 y = wyL G ((wl_ D).take (cnt D cur.toNat)) (ini ax) y) ∧ (¬ D y → M4 64 y = 0)) ⟨0, rfl, by omega, hf3, hi3⟩ (by show (30000 - (0 : Int)).toNat < zN; decide) ?_ ?_
  · rintro ⟨v1, M4⟩ ⟨k, i1, i2, i3, i4⟩
    dsimp only at i1 i2 i3 i4 ⊢
    subst i1
    unfold F_X11_derivations_B64
    rw [(fin M4 i3).2.2.1]
    refine Ok.ite (fun q => ?_) (fun q => Ok.ret ⟨i3, by rw [show k = cur.toNat by omega] at i4; exact i4⟩)
    have hk : wd (k : Int) := ⟨by omega, by omega⟩
    generalize hf : wyL G ((wl_ D).take (cnt D k)) (ini ax) = f at i4
    have hfL : ∀ y, inL (f y) := by rw [← hf]; exact wyL_inL (ini_inL ax)
    have hz : ∀ y, wl (f y + cm G k y [] * f k) = f y := fun y => by rw [cm_nil, Int.zero_mul, Int.add_zero, wl_id (hfL y)]
    unfold F_X11_derivations_L74
    refine Ok.loop (fun z => ∃ c : Nat, z.1 = c ∧ c ≤ G.2.2.length ∧ mfr (fun b => b = 64) mF0 M2 z.2 ∧ (D k ∨ c = 0) ∧ ∀ y, wd y → (D y → z.2 64 y = wl (f y + cm G k y (frl (insP G k) (100 * c)) * f k)) ∧ (¬ D y → z.2 64 y = 0)) (fun z => (30 - z.1).toNat) (fun M5 => mfr (fun b => b = 64) mF0 M2 M5 ∧ ∀ y, wd y → (D y → M5 64 y = wyL G ((wl_ D).take (cnt D (k + 1))) (ini ax) y) ∧ (¬ D y → M5 64 y = 0)) ⟨0, rfl, by omega, i3, Or.inr rfl, fun y hy => ⟨fun h => by
      show M4 64 y = wl (f y + cm G k y [] * f k)
      rw [hz]; exact (i4 y hy).1 h, (i4 y hy).2⟩⟩ (by show (30 - (0 : Int)).toNat < zN; decide) ?_ ?_
    · rintro ⟨v2, M5⟩ ⟨c, j1, j2, j3, j4, j5⟩
      dsimp only at j1 j2 j3 j4 j5 ⊢
      subst j1
      obtain ⟨_, _, _, gg, _, gm⟩ := fin M5 j3
      unfold F_X11_derivations_B74
      rw [gg.1]
      have hend : (¬ D k ∨ c = G.2.2.length) → ∀ y, wd y → (D y → M5 64 y = wyL G ((wl_ D).take (cnt D (k + 1))) (ini ax) y) ∧ (¬ D y → M5 64 y = 0) := fun h y hy => ⟨fun hy2 => by
        rw [(j5 y hy).1 hy2]
        by_cases hdk : D k
        · have hcl : c = G.2.2.length := by rcases h with h | h; exact absurd hdk h; exact h
          rw [cnt_take (by omega) hdk, wyL_app, hf, hcl]
          rfl
        · have hc0 : c = 0 := by rcases j4 with h | h; exact absurd h hdk; exact h
          subst hc0
          show wl (f y + cm G k y [] * f k) = _
          rw [hz, cnt_f hdk, hf], (j5 y hy).2⟩
      refine Ok.ite (fun q1 => Ok.chk ⟨by omega, by omega⟩ (Ok.ite (fun c1 => Ok.ret ⟨j3, hend (Or.inl (tv_0 (gm.1 k hk) c1))⟩) (fun c1 => ?_))) (fun q1 => Ok.ret ⟨j3, hend (Or.inr (by omega))⟩)
      have hdk := tv_1 (gm.1 k hk) c1
      have hc : c < G.2.2.length := by omega
      have hget : G.2.2[c]? = some G.2.2[c] := List.getElem?_eq_getElem hc
      obtain ⟨L, R, pr, hLR⟩ : ∃ L R pr, G.2.2[c] = (L, R, pr) := ⟨_, _, _, rfl⟩
      rw [hLR] at hget
      have hcx := hG.2.2.2 _ (List.mem_of_getElem? hget)
      refine Ok.b1 (FX11_fit2 (A := mA0) (F := mF0) ⟨by omega, by omega⟩ hk (gg.2.2.2 c L R pr hget).2.2 hcx.2.2) (fun M6 ⟨hfit, hfr⟩ => ?_)
      have e64 : M6 64 = M5 64 := hfr.1 64 (fun q => q) (by decide) (by decide) (by decide)
      have j6 := j3.trans (hfr.mono (A := mA0) (B := fun b => b = 64) (F := mF0) (E := mF0) (fun _ q => q.elim) (fun _ q => q))
      unfold F_X11_derivations_L99
      refine Ok.loop (fun z => ∃ g : Nat, z.1 = g ∧ g ≤ 100 ∧ mfr (fun b => b = 64) mF0 M2 z.2 ∧ fitd z.2 pr k ∧ ∀ y, wd y → (D y → z.2 64 y = wl (f y + cm G k y (frl (insP G k) (100 * c + g)) * f k)) ∧ (¬ D y → z.2 64 y = 0)) (fun z => (200 - z.1).toNat) (fun M7 => mfr (fun b => b = 64) mF0 M2 M7 ∧ ∀ y, wd y → (D y → M7 64 y = wl (f y + cm G k y (frl (insP G k) (100 * (c + 1))) * f k)) ∧ (¬ D y → M7 64 y = 0)) ⟨0, rfl, by omega, j6, hfit, by show ∀ y, wd y → (D y → M6 64 y = _) ∧ (¬ D y → M6 64 y = 0); rw [e64]; exact j5⟩ (by show (200 - (0 : Int)).toNat < zN; decide) ?_ ?_
      · rintro ⟨v3, M7⟩ ⟨g, k1, k2, k3, k4, k5⟩
        dsimp only at k1 k2 k3 k4 k5 ⊢
        subst k1
        have go : ∀ M8 : zM, mfr (fun b => b = 64) mF0 M2 M8 → fitd M8 pr k → (∀ y, wd y → (D y → M8 64 y = wl (f y + cm G k y (frl (insP G k) (100 * c + (g + 1))) * f k)) ∧ (¬ D y → M8 64 y = 0)) → g < 100 → Ok (F_X11_derivations_J163 k c g M8) (Turn (fun z : Int × zM => ∃ g : Nat, z.1 = g ∧ g ≤ 100 ∧ mfr (fun b => b = 64) mF0 M2 z.2 ∧ fitd z.2 pr k ∧ ∀ y, wd y → (D y → z.2 64 y = wl (f y + cm G k y (frl (insP G k) (100 * c + g)) * f k)) ∧ (¬ D y → z.2 64 y = 0)) (fun z => (200 - z.1).toNat) (fun M7 => mfr (fun b => b = 64) mF0 M2 M7 ∧ ∀ y, wd y → (D y → M7 64 y = wl (f y + cm G k y (frl (insP G k) (100 * (c + 1))) * f k)) ∧ (¬ D y → M7 64 y = 0)) ((g : Int), M7)) := fun M8 a1 a2 a3 a4 => by
          unfold F_X11_derivations_J163
          refine Ok.lett (Ok.ret ?_)
          rw [w_id (a := (g : Int) + 1) (by omega)]
          exact ⟨⟨g + 1, by show (g : Int) + 1 = _; omega, by omega, a1, a2, a3⟩, by show (200 - ((g : Int) + 1)).toNat < (200 - (g : Int)).toNat; omega⟩
        unfold F_X11_derivations_B99
        refine Ok.ite (fun q2 => ?_) (fun q2 => Ok.ret ⟨k3, by rw [show 100 * c + g = 100 * (c + 1) by omega] at k5; exact k5⟩)
        refine mturn hG (fin M7 k3).2.2.2.1 hk hget k4 (by omega) (fun hn => Ok.ret ⟨k3, ?_⟩) (fun hn => go M7 k3 k4 ?_ (by omega)) (fun hp => ?_)
        · rw [← frl_skip (P := insP G k) (show 100 * c + g ≤ 100 * (c + 1) by omega) (fun r e1 e2 => hn r (by omega) e2)] at k5
          exact k5
        · rw [show 100 * c + (g + 1) = 100 * c + g + 1 by omega, frl_f hn]
          exact k5
        · have hv := insV_r hG hk hp
          have hDv := hDi hdk hp
          have hne : ((k : Nat) : Int) ≠ insV G k (100 * c + g) := by have := hv.2.2.2.2; omega
          have hkk : M7 64 k = f k := by
            rw [(k5 k hk).1 hdk, cm_0 (fun r hr => by
              have := (insV_r hG hk (mem_frl.mp hr).2).2.2.2.2
              omega), Int.zero_mul, Int.add_zero, wl_id (hfL k)]
          refine Ok.chk hv.1 (Ok.chk ⟨by omega, by omega⟩ (Ok.chk hv.1 (Ok.lett ?_)))
          rw [hkk, (k5 _ hv.1).1 hDv, zladd_e, wl_add]
          refine go _ (k3.trans (mfr.cell rfl (by decide))) (k4.fr (by rw [zs_ne _ _ _ (by decide)]) (by rw [zs_ne _ _ _ (by decide)]) (zs_ne _ _ _ (by decide))) (fun y hy => ?_) (by omega)
          rw [show 100 * c + (g + 1) = 100 * c + g + 1 by omega, frl_t hp, cm_app]
          by_cases e : insV G k (100 * c + g) = y
          · rw [← e, zs_at, if_pos rfl, Int.add_mul, Int.one_mul, Int.add_assoc]
            exact ⟨fun _ => rfl, fun h => absurd hDv h⟩
          · rw [zs_off _ _ (Or.inr (fun h => e h.symm)), if_neg e, Int.add_zero]
            exact k5 y hy
      · intro M7 ⟨k1, k2⟩
        unfold F_X11_derivations_J169
        rw [w_id (a := (c : Int) + 1) (by omega)]
        exact Ok.lett (Ok.ret ⟨⟨c + 1, by show (c : Int) + 1 = _; omega, by omega, k1, Or.inl hdk, k2⟩, by show (30 - ((c : Int) + 1)).toNat < (30 - (c : Int)).toNat; omega⟩)
    · intro M5 ⟨k1, k2⟩
      unfold F_X11_derivations_J175
      rw [w_id (a := (k : Int) + 1) (by omega)]
      exact Ok.lett (Ok.ret ⟨⟨k + 1, by show (k : Int) + 1 = _; omega, by omega, k1, k2⟩, by show (30000 - ((k : Int) + 1)).toNat < (30000 - (k : Int)).toNat; omega⟩)
  · intro M4 ⟨hf4, h5⟩
    obtain ⟨f1, f2, f3, _⟩ := fin M4 hf4
    unfold F_X11_derivations_J181
    rw [f3]
    refine Ok.chk hw (Ok.ret ⟨f1, fun _ => ⟨f2, fun h => ?_, (h5 cur hw).2⟩, fun q => absurd hfew q⟩)
    show M4 64 cur = _
    rw [(h5 cur hw).1 h]
    have h9 := wl_at hw h
    rw [← hDe] at h9 ⊢
    exact (wys_take hG h9).symm
