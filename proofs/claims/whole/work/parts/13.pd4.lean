/-! PURE 40: the reference: insertions one by one; reductions counted -/
theorem mtr2 {M : zM} {G : zGr} {x L R : Int} {r : Nat} {pr : List Int} {β : Type} {A B K : Option β} {P : β → Prop} (hG : grok G) (hM : gM M G) (hx : wd x) (hget : G.2.2[r / 100]? = some (L, R, pr)) (hfit : fitd M pr x) (h1 : ¬ insP G x r → Ok A P) (h2 : ¬ insP G x r → Ok B P) (h3 : insP G x r → Ok K P) : Ok (zb1 (F_X11_hasRoom ((r / 100 : Nat) : Int) M) fun r3 => if r3 = 0 then A else zb1 (F_X11_isFactor ((r % 100 : Nat) : Int) M) fun r6 => if r6 = 0 then B else zb1 (F_X11_isSelected (rs r) (re r) M) fun r9 => if r9 = 0 then B else K) P := by
  have hb := ln_b x
  have hc := (List.getElem?_eq_some_iff.mp hget).1
  have hG3 := hG.2.2.1
  have hG1 := hG.1
  obtain ⟨w1, w2, w3, w4⟩ := cxok_wd (hG.2.2.2 _ (List.mem_of_getElem? hget))
  obtain ⟨g1, g2, g3, g4⟩ := id hM
  obtain ⟨g5, g6, g7⟩ := g4 (r / 100) L R pr hget
  have hin : insP G x r ↔ rs r ≤ re r ∧ re r ≤ ln x ∧ ln x + ln L + ln R ≤ G.1 ∧ sel G.2.1 pr x (rs r) (re r) := by
    constructor
    · rintro ⟨L2, R2, pr2, a1, a2⟩
      rw [hget] at a1
      cases a1
      exact a2
    · intro a
      exact ⟨L, R, pr, hget, a⟩
  refine Ok.b1 (FX11_hasRoom ⟨by omega, by omega⟩ w1 w2 g5 g6 g3 hfit.2.1 hb) (fun v hr => ?_)
  refine Ok.ite (fun q1 => h1 (fun h => tv_0 hr q1 (hin.mp h).2.2.1)) (fun q1 => ?_)
  have hroom := tv_1 hr q1
  have e1 : ((r % 100 : Nat) : Int) / 10 = rs r := by unfold rs; omega
  have e2 : ((r % 100 : Nat) : Int) % 10 = re r := by unfold re; omega
  refine Ok.b1 (FX11_isFactor (by omega) (by omega) hfit.2.1) (fun r1 hr1 => ?_)
  rw [e1, e2] at hr1
  refine Ok.ite (fun q2 => h2 (fun h => tv_0 hr1 q2 ⟨(hin.mp h).1, (hin.mp h).2.1⟩)) (fun q2 => ?_)
  have hfac := tv_1 hr1 q2
  refine Ok.b1 (FX11_isSelected hfit (by rw [g2]; exact hG.2.1) (by unfold rs; omega) hfac.1 hfac.2) (fun r2 hr2 => ?_)
  rw [g2] at hr2
  refine Ok.ite (fun q3 => h2 (fun h => tv_0 hr2 q3 (hin.mp h).2.2.2)) (fun q3 => ?_)
  exact h3 (hin.mpr ⟨hfac.1, hfac.2, hroom, tv_1 hr2 q3⟩)
theorem FX11_findInsertion {M : zM} {G : zGr} {ax : List Int} {cur t : Int} (h : mst M G ax cur) : Ok (F_X11_findInsertion t M) (fun e => mfr mA0 mF0 M e.2 ∧ (¬ (0 ≤ t ∧ t < ((insL G cur).length : Int)) → e.1 = ((insL G cur).length : Int) - 1000) ∧ ∀ i : Nat, t = i → i < (insL G cur).length → ∃ r, (insL G cur)[i]? = some r ∧ e.1 = (r : Int)) := by
  obtain ⟨hG, hax, hw, hM, hA, hcu⟩ := id h
  have hG3 := hG.2.2.1
  have hlen := len_insL hG (x := cur)
  have hfr : ∀ {M3 : zM}, mfr mA0 mF0 M M3 → gM M3 G ∧ M3 48 29 = cur := fun h => ⟨hM.fr h ⟨fun q => q, fun q => q, fun q => q, fun q => q⟩ ⟨fun q => q, fun q => q, fun q => q⟩, by rw [h.2 29 (fun q => q) (by decide) (by decide)]; exact hcu⟩
  unfold F_X11_findInsertion F_X11_findInsertion_L4
  refine Ok.loop (fun z => ∃ r : Nat, z.2.1 = r ∧ r ≤ 100 * G.2.2.length ∧ mfr mA0 mF0 M z.2.2 ∧ z.1 = ((frl (insP G cur) r).length : Int) ∧ ¬ (0 ≤ t ∧ t < ((frl (insP G cur) r).length : Int)) ∧ (r % 100 ≠ 0 → ∃ L R pr, G.2.2[r / 100]? = some (L, R, pr) ∧ fitd z.2.2 pr cur)) (fun z => (1000 - z.2.1).toNat) (fun e => ∃ (v : Int) (M3 : zM), mfr mA0 mF0 M M3 ∧ ((e = .inl (v, M3) ∧ ∃ (i r : Nat), t = i ∧ i < (insL G cur).length ∧ (insL G cur)[i]? = some r ∧ v = r) ∨ (e = .inr (v, M3) ∧ v = ((insL G cur).length : Int) ∧ ¬ (0 ≤ t ∧ t < ((insL G cur).length : Int))))) ⟨0, rfl, by omega, mfr.refl, rfl, by show ¬ (0 ≤ t ∧ t < ((0 : Nat) : Int)); omega, fun a => absurd rfl a⟩ (by show (1000 - (0 : Int)).toNat < zN; decide) ?_ ?_
  · rintro ⟨v2, v3, M3⟩ ⟨r, i1, i2, i3, i4, i5, i6⟩
    dsimp only at i1 i2 i3 i4 i5 i6 ⊢
    subst i1 i4
    obtain ⟨gg, gcu⟩ := hfr i3
    have hle : (frl (insP G cur) r).length ≤ (insL G cur).length := frl_mono i2
    unfold F_X11_findInsertion_B4
    rw [gg.1, w_id (a := 100 * (G.2.2.length : Int)) (by omega)]
    refine Ok.ite (fun q => ?_) (fun q => Ok.ret ?_)
    · have hc : r / 100 < G.2.2.length := by omega
      have hget : G.2.2[r / 100]? = some G.2.2[r / 100] := List.getElem?_eq_getElem hc
      obtain ⟨L, R, pr, hLR⟩ : ∃ L R pr, G.2.2[r / 100] = (L, R, pr) := ⟨_, _, _, rfl⟩
      rw [hLR] at hget
      have hcx := hG.2.2.2 _ (List.mem_of_getElem? hget)
      have d1 : zdiv (r : Int) 100 = ((r / 100 : Nat) : Int) := by rw [zdiv_e (by omega) (by omega) (by decide) (by decide)]; omega
      have d2 : zrem (r : Int) 100 = ((r % 100 : Nat) : Int) := by rw [zrem_e (by omega) (by omega) (by decide) (by decide)]; omega
      have d3 : zdiv (r : Int) 10 = ((r / 10 : Nat) : Int) := by rw [zdiv_e (by omega) (by omega) (by decide) (by decide)]; omega
      have d4 : zrem ((r / 10 : Nat) : Int) 10 = rs r := by rw [zrem_e (by omega) (by omega) (by decide) (by decide)]; unfold rs; omega
      have d5 : zrem (r : Int) 10 = re r := by rw [zrem_e (by omega) (by omega) (by decide) (by decide)]; unfold re; omega
      have j38 : ∀ M5 : zM, mfr mA0 mF0 M M5 → fitd M5 pr cur → Ok (F_X11_findInsertion_J38 t ((frl (insP G cur) r).length : Int) r ((r / 100 : Nat) : Int) M5) (Turn (fun z : Int × Int × zM => ∃ r : Nat, z.2.1 = r ∧ r ≤ 100 * G.2.2.length ∧ mfr mA0 mF0 M z.2.2 ∧ z.1 = ((frl (insP G cur) r).length : Int) ∧ ¬ (0 ≤ t ∧ t < ((frl (insP G cur) r).length : Int)) ∧ (r % 100 ≠ 0 → ∃ L R pr, G.2.2[r / 100]? = some (L, R, pr) ∧ fitd z.2.2 pr cur)) (fun z => (1000 - z.2.1).toNat) (fun e : (Int × zM) ⊕ (Int × zM) => ∃ (v : Int) (M3 : zM), mfr mA0 mF0 M M3 ∧ ((e = .inl (v, M3) ∧ ∃ (i r : Nat), t = i ∧ i < (insL G cur).length ∧ (insL G cur)[i]? = some r ∧ v = r) ∨ (e = .inr (v, M3) ∧ v = ((insL G cur).length : Int) ∧ ¬ (0 ≤ t ∧ t < ((insL G cur).length : Int))))) (((frl (insP G cur) r).length : Int), (r : Int), M3)) := fun M5 a1 a2 => by
        have go : ∀ v : Int, v = ((frl (insP G cur) (r + 1)).length : Int) → ¬ (0 ≤ t ∧ t < ((frl (insP G cur) (r + 1)).length : Int)) → Ok (F_X11_findInsertion_J86 t v r M5) (Turn (fun z : Int × Int × zM => ∃ r : Nat, z.2.1 = r ∧ r ≤ 100 * G.2.2.length ∧ mfr mA0 mF0 M z.2.2 ∧ z.1 = ((frl (insP G cur) r).length : Int) ∧ ¬ (0 ≤ t ∧ t < ((frl (insP G cur) r).length : Int)) ∧ (r % 100 ≠ 0 → ∃ L R pr, G.2.2[r / 100]? = some (L, R, pr) ∧ fitd z.2.2 pr cur)) (fun z => (1000 - z.2.1).toNat) (fun e : (Int × zM) ⊕ (Int × zM) => ∃ (v : Int) (M3 : zM), mfr mA0 mF0 M M3 ∧ ((e = .inl (v, M3) ∧ ∃ (i r : Nat), t = i ∧ i < (insL G cur).length ∧ (insL G cur)[i]? = some r ∧ v = r) ∨ (e = .inr (v, M3) ∧ v = ((insL G cur).length : Int) ∧ ¬ (0 ≤ t ∧ t < ((insL G cur).length : Int))))) (((frl (insP G cur) r).length : Int), (r : Int), M3)) := fun v hv hn => by
          unfold F_X11_findInsertion_J86
          rw [w_id (a := (r : Int) + 1) (by omega)]
          exact Ok.lett (Ok.ret ⟨⟨r + 1, by show (r : Int) + 1 = _; omega, by omega, a1, hv, hn, fun b => ⟨L, R, pr, by rw [show (r + 1) / 100 = r / 100 by omega]; exact hget, a2⟩⟩, by show (1000 - ((r : Int) + 1)).toNat < (1000 - (r : Int)).toNat; omega⟩)
        unfold F_X11_findInsertion_J38
        rw [d2, d3, d4, d5]
        have no : ¬ insP G cur r → frl (insP G cur) (r + 1) = frl (insP G cur) r := fun hn => frl_f hn
        refine mtr2 hG (hfr a1).1 hw hget a2 (fun hn => go _ (by rw [no hn]) (by rw [no hn]; exact i5)) (fun hn => go _ (by rw [no hn]) (by rw [no hn]; exact i5)) (fun hp => ?_)
        have hs : (frl (insP G cur) (r + 1)).length = (frl (insP G cur) r).length + 1 := by rw [frl_t hp, List.length_append]; rfl
        have hle2 : (frl (insP G cur) (r + 1)).length ≤ (insL G cur).length := frl_mono (by omega)
        refine Ok.ite (fun q1 => Ok.ret ⟨(r : Int), M5, a1, Or.inl ⟨rfl, (frl (insP G cur) r).length, r, q1.symm, by omega, frl_at (by omega) hp, rfl⟩⟩) (fun q1 => ?_)
        rw [w_id (a := ((frl (insP G cur) r).length : Int) + 1) (by omega)]
        exact Ok.lett (go _ (by rw [hs]; omega) (by rw [hs]; omega))
      rw [d1, d2]
      refine Ok.lett (Ok.ite (fun q1 => ?_) (fun q1 => ?_))
      · rw [gcu]
        refine Ok.b1 (FX11_fit2 (A := mA0) (F := mF0) ⟨by omega, by omega⟩ hw (gg.2.2.2 (r / 100) L R pr hget).2.2 hcx.2.2) (fun M5 ⟨hfit, hfr5⟩ => j38 M5 (i3.trans hfr5) hfit)
      · obtain ⟨L2, R2, pr2, b1, b2⟩ := i6 (by omega)
        rw [hget] at b1
        cases b1
        exact j38 M3 i3 b2
    · have e : r = 100 * G.2.2.length := by omega
      exact ⟨((frl (insP G cur) r).length : Int), M3, i3, Or.inr ⟨rfl, by rw [e]; rfl, by rw [e] at i5; exact i5⟩⟩
  · rintro e ⟨v, M3, hf, (⟨rfl, i, r, a1, a2, a3, rfl⟩ | ⟨rfl, rfl, a2⟩)⟩
    · show Ok (F_X11_findInsertion_J81 r M3) _
      unfold F_X11_findInsertion_J81
      refine Ok.ret ⟨hf, fun q => absurd ⟨by omega, by omega⟩ q, fun j b1 b2 => ⟨r, by rw [show j = i by omega]; exact a3, rfl⟩⟩
    · show Ok (F_X11_findInsertion_J92 _ M3) _
      unfold F_X11_findInsertion_J92
      rw [w_id (a := ((insL G cur).length : Int) - 1000) (by omega)]
      exact Ok.ret ⟨hf, fun _ => rfl, fun i b1 b2 => absurd ⟨by omega, by omega⟩ a2⟩
theorem mA0_scr {M M1 : zM} (h : mfr mA0 mF0 M M1) : mscr M M1 := mscr.of h (fun b q => False.elim q) (fun k q => False.elim q)
theorem FX11_insertions {M : zM} {G : zGr} {ax : List Int} {cur : Int} (h : mst M G ax cur) : Ok (F_X11_insertions M) (fun r => mscr M r.2 ∧ r.2 48 0 = 0 ∧ r.1 = ((insL G cur).length : Int)) := by
  have hlen := len_insL h.1 (x := cur)
  unfold F_X11_insertions
  refine Ok.lett (Ok.b2 (FX11_findInsertion (h.scr (M1 := zs M 48 0 0) mscr.th)) (fun v M3 ⟨a1, a2, a3⟩ => ?_))
  dsimp only at a1 a2 a3
  rw [a2 (by omega), w_id (a := ((insL G cur).length : Int) - 1000 + 1000) (by omega)]
  refine Ok.ret ⟨mfr.trans mscr.th (mA0_scr a1), ?_, by show _ - (1000 : Int) + 1000 = _; omega⟩
  show M3 48 0 = 0
  rw [a1.2 0 (fun q => q) (by decide) (by decide)]
  exact zs_at M 48 0 0
/-- the reference's notes have changed, and the word -/
def mcur (M M1 : zM) (y : Int) : Prop := M1 48 29 = y ∧ mfr (fun b => 58 ≤ b ∧ b ≤ 66) (fun k => k = 0 ∨ k = 23 ∨ k = 26 ∨ k = 29) M M1
theorem mcur.of {M M1 : zM} {y : Int} (h : mscr M M1) : mcur M (zs M1 48 29 y) y := ⟨zs_at M1 48 29 y, (h.mono (fun _ q => q) (fun k q => by omega)).trans (mfr.fld (by omega))⟩
theorem FX11_insert {M : zM} {G : zGr} {ax : List Int} {cur t : Int} (h : mst M G ax cur) : Ok (F_X11_insert t M) (fun e => (¬ (0 ≤ t ∧ t < ((insL G cur).length : Int)) → e.2 48 0 = 1 ∧ mscr M e.2) ∧ ∀ i : Nat, t = i → i < (insL G cur).length → e.2 48 0 = 0 ∧ ∃ r, (insL G cur)[i]? = some r ∧ e.1 = ((r / 100 : Nat) : Int) ∧ mcur M e.2 (insV G cur r)) := by
  obtain ⟨hG, hax, hw, hM, hA, hcu⟩ := id h
  have hlen := len_insL h.1 (x := cur)
  unfold F_X11_insert
  refine Ok.lett (Ok.b2 (FX11_findInsertion (t := t) (h.scr (M1 := zs M 48 0 0) mscr.th)) (fun v M3 ⟨a1, a2, a3⟩ => ?_))
  dsimp only at a1 a2 a3
  have hs3 : mscr M M3 := mfr.trans mscr.th (mA0_scr a1)
  have z3 : M3 48 0 = 0 := by rw [a1.2 0 (fun q => q) (by decide) (by decide)]; exact zs_at M 48 0 0
  by_cases ht : 0 ≤ t ∧ t < ((insL G cur).length : Int)
  · obtain ⟨i, hi⟩ : ∃ i : Nat, t = i := ⟨t.toNat, by omega⟩
    obtain ⟨r, b1, b2⟩ := a3 i hi (by omega)
    subst b2
    have hp : insP G cur r := (mem_insL hG hw).mp (List.mem_of_getElem? b1)
    have h500 := insP_500 hG hw hp
    have d1 : zdiv (r : Int) 100 = ((r / 100 : Nat) : Int) := by rw [zdiv_e (by omega) (by omega) (by decide) (by decide)]; omega
    have d3 : zdiv (r : Int) 10 = ((r / 10 : Nat) : Int) := by rw [zdiv_e (by omega) (by omega) (by decide) (by decide)]; omega
    have d4 : zrem ((r / 10 : Nat) : Int) 10 = rs r := by rw [zrem_e (by omega) (by omega) (by decide) (by decide)]; unfold rs; omega
    have d5 : zrem (r : Int) 10 = re r := by rw [zrem_e (by omega) (by omega) (by decide) (by decide)]; unfold re; omega
    rw [d1, d3, d4, d5]
    have hst3 := h.scr hs3
    rw [hst3.2.2.2.2.2]
    obtain ⟨L, R, pr, hget, _⟩ := id hp
    have hcx := hG.2.2.2 _ (List.mem_of_getElem? hget)
    refine Ok.neg (by omega) (Ok.b1 (FX11_fit2 (A := mA0) (F := mF0) ⟨by omega, by have := hG.2.2.1; have := (List.getElem?_eq_some_iff.mp hget).1; omega⟩ hw (hst3.2.2.2.1.2.2.2 (r / 100) L R pr hget).2.2 hcx.2.2) (fun M7 ⟨hfit, hfr7⟩ => ?_))
    have hs7 : mscr M M7 := mfr.trans hs3 (mA0_scr hfr7)
    rw [mput hG (h.scr hs7).2.2.2.1 hw hp hfit.1 hfit.2.1]
    simp only [zb1_some]
    refine Ok.lett (Ok.ret ⟨fun q => absurd ht q, fun j e1 e2 => ⟨?_, r, by rw [show j = i by omega]; exact b1, rfl, mcur.of hs7⟩⟩)
    show zs M7 48 29 (insV G cur r) 48 0 = 0
    rw [zs_off _ _ (Or.inr (by decide)), hfr7.2 0 (fun q => q) (by decide) (by decide)]
    exact z3
  · rw [a2 ht]
    refine Ok.pos (by omega) ?_
    rw [FX11_fail]
    simp only [zb2_some]
    exact Ok.ret ⟨fun _ => ⟨zs_at M3 48 0 1, mfr.trans hs3 mscr.th⟩, fun i e1 e2 => absurd ⟨by omega, by omega⟩ ht⟩
theorem FX11_reductions {M : zM} {G : zGr} {ax : List Int} {cur : Int} (h : mst M G ax cur) : Ok (F_X11_reductions M) (fun r => mscr M r.2 ∧ r.2 48 0 = 0 ∧ r.1 = ((redL G cur).length : Int)) := by
  have h1 := h.scr (M1 := zs M 48 0 0) mscr.th
  unfold F_X11_reductions
  refine Ok.lett ?_
  rw [h1.2.2.2.2.2]
  refine Ok.b2 (FX11_countReductions h.1 h1.2.2.2.1 h.2.2.1) (fun v M3 ⟨a1, a2⟩ => ?_)
  dsimp only at a1 a2
  refine Ok.ret ⟨mfr.trans mscr.th (mscr.of a2 (fun b q => False.elim q) (fun k q => by omega)), ?_, a1⟩
  show M3 48 0 = 0
  rw [a2.2 0 (by decide) (by decide) (by decide)]
  exact zs_at M 48 0 0
