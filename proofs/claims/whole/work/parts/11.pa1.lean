/-! PURE 10: the reference's languages -/
noncomputable def cnt (D : Int → Prop) (n : Nat) : Nat := (frl (fun k : Nat => D k) n).length
theorem cnt_t {D : Int → Prop} {n : Nat} (h : D n) : cnt D (n + 1) = cnt D n + 1 := by
  unfold cnt; rw [frl_t h, List.length_append]; rfl
theorem cnt_f {D : Int → Prop} {n : Nat} (h : ¬ D n) : cnt D (n + 1) = cnt D n := by
  unfold cnt; rw [frl_f h]
theorem cnt_0 (D : Int → Prop) : cnt D 0 = 0 := rfl
theorem cnt_le {D E : Int → Prop} : ∀ {n : Nat}, (∀ k : Nat, k < n → D k → E k) → cnt D n ≤ cnt E n
  | 0, _ => Nat.le_refl _
  | n + 1, h => by
    have ih := cnt_le (D := D) (E := E) (n := n) (fun k hk => h k (by omega))
    by_cases hd : D n
    · rw [cnt_t hd, cnt_t (h n (by omega) hd)]; omega
    · rw [cnt_f hd]
      by_cases he : E n
      · rw [cnt_t he]; omega
      · rw [cnt_f he]; exact ih
theorem cnt_congr {D E : Int → Prop} {n : Nat} (h : ∀ k : Nat, k < n → (D k ↔ E k)) : cnt D n = cnt E n := Nat.le_antisymm (cnt_le (fun k hk => (h k hk).mp)) (cnt_le (fun k hk => (h k hk).mpr))
theorem cnt_n (D : Int → Prop) : ∀ n : Nat, cnt D n ≤ n
  | 0 => Nat.le_refl _
  | n + 1 => by
    have := cnt_n D n
    by_cases hd : D n
    · rw [cnt_t hd]; omega
    · rw [cnt_f hd]; omega
theorem cnt_mono {D : Int → Prop} {n m : Nat} (h : n ≤ m) : cnt D n ≤ cnt D m := frl_mono h
theorem cnt_add {D : Int → Prop} {y : Int} (hy : ¬ D y) (h0 : 0 ≤ y) : ∀ {n : Nat}, y < n → cnt (fun z => D z ∨ z = y) n = cnt D n + 1
  | 0, h => by omega
  | n + 1, h => by
    by_cases e : y = n
    · subst e
      rw [cnt_t (D := fun z => D z ∨ z = (n : Int)) (Or.inr rfl), cnt_f hy, cnt_congr (E := D) (fun k hk => ⟨fun q => by rcases q with q | q; exact q; omega, Or.inl⟩)]
    · have ih := cnt_add hy h0 (n := n) (by omega)
      by_cases hd : D n
      · rw [cnt_t (D := fun z => D z ∨ z = y) (Or.inl hd), cnt_t hd, ih]
      · rw [cnt_f (D := fun z => D z ∨ z = y) (fun q => by rcases q with q | q; exact hd q; omega), cnt_f hd, ih]
theorem cnt_same {D : Int → Prop} {y : Int} (hy : D y) {n : Nat} : cnt (fun z => D z ∨ z = y) n = cnt D n := cnt_congr (fun k _ => ⟨fun q => by rcases q with q | q; exact q; rw [q]; exact hy, Or.inl⟩)
/-- from M to M1 the cells of A and the fields of F have changed, and the reference's notes on factors -/
def mfr (A : Nat → Prop) (F : Int → Prop) (M M1 : zM) : Prop := (∀ b, ¬ A b → b ≠ 48 → b ≠ 56 → b ≠ 57 → M1 b = M b) ∧ ∀ k, ¬ F k → k ≠ 20 → k ≠ 21 → M1 48 k = M 48 k
theorem mfr.refl {A : Nat → Prop} {F : Int → Prop} {M : zM} : mfr A F M M := ⟨fun _ _ _ _ _ => rfl, fun _ _ _ _ => rfl⟩
theorem mfr.trans {A : Nat → Prop} {F : Int → Prop} {M M1 M2 : zM} (h : mfr A F M M1) (i : mfr A F M1 M2) : mfr A F M M2 := ⟨fun b h1 h2 h3 h4 => (i.1 b h1 h2 h3 h4).trans (h.1 b h1 h2 h3 h4), fun k h1 h2 h3 => (i.2 k h1 h2 h3).trans (h.2 k h1 h2 h3)⟩
theorem mfr.mono {A B : Nat → Prop} {F E : Int → Prop} {M M1 : zM} (h : mfr A F M M1) (i : ∀ b, A b → B b) (j : ∀ k, F k → E k) : mfr B E M M1 := ⟨fun b h1 => h.1 b (fun q => h1 (i b q)), fun k h1 => h.2 k (fun q => h1 (j k q))⟩
theorem mfr.cell {A : Nat → Prop} {F : Int → Prop} {M : zM} {a : Nat} {k v : Int} (h : A a) (h48 : a ≠ 48) : mfr A F M (zs M a k v) := ⟨fun b hb _ _ _ => zs_ne M k v (fun q => hb (q ▸ h)), fun j _ _ _ => by rw [zs_ne M k v (Ne.symm h48)]⟩
theorem mfr.fld {A : Nat → Prop} {F : Int → Prop} {M : zM} {k v : Int} (h : F k) : mfr A F M (zs M 48 k v) := ⟨fun b _ h48 _ _ => zs_ne M k v h48, fun j hj _ _ => zs_off M v (Or.inr (fun q => hj (q ▸ h)))⟩
def mA0 : Nat → Prop := fun _ => False
def mF0 : Int → Prop := fun _ => False
theorem FX11_fit2 {M : zM} {c x : Int} {pr : List Int} (hc : 0 ≤ c ∧ c < 5) (hx : wd x) (hp0 : prgM M c pr) (hw : pwf pr) {A : Nat → Prop} {F : Int → Prop} : Ok (F_X11_fit x c M) (fun M1 => fitd M1 pr x ∧ mfr A F M M1) :=
  (FX11_fit hc hx hp0 hw).mono (fun M1 ⟨h1, h2, h3⟩ => ⟨h1, fun b _ h48 h56 h57 => h2 b (by omega), fun k _ h20 h21 => h3 k h20 h21⟩)
theorem gM.fr {A : Nat → Prop} {F : Int → Prop} {M M1 : zM} {G : zGr} (h : gM M G) (hf : mfr A F M M1) (hA : ¬ A 50 ∧ ¬ A 51 ∧ ¬ A 52 ∧ ¬ A 53) (hF : ¬ F 7 ∧ ¬ F 8 ∧ ¬ F 9) : gM M1 G := by
  obtain ⟨h1, h2, h3, h4⟩ := h
  refine ⟨by rw [hf.2 7 hF.1 (by decide) (by decide)]; exact h1, by rw [hf.2 8 hF.2.1 (by decide) (by decide)]; exact h2, by rw [hf.2 9 hF.2.2 (by decide) (by decide)]; exact h3, fun i L R pr hi => ?_⟩
  have e50 := hf.1 50 hA.1 (by decide) (by decide) (by decide)
  have e51 := hf.1 51 hA.2.1 (by decide) (by decide) (by decide)
  have e52 := hf.1 52 hA.2.2.1 (by decide) (by decide) (by decide)
  have e53 := hf.1 53 hA.2.2.2 (by decide) (by decide) (by decide)
  obtain ⟨q1, q2, q3⟩ := h4 i L R pr hi
  exact ⟨by rw [e50]; exact q1, by rw [e51]; exact q2, q3.fr e52 e53⟩
theorem fitd.fr {M M1 : zM} {pr : List Int} {x : Int} (h : fitd M pr x) (h20 : M1 48 20 = M 48 20) (h21 : M1 48 21 = M 48 21) (h57 : M1 57 = M 57) : fitd M1 pr x := by
  unfold fitd
  rw [h20, h21, h57]
  exact h
/-- marks and their number -/
def mrk (M : zM) (D : Int → Prop) : Prop := (∀ y, wd y → tv (M 58 y) (D y)) ∧ M 48 23 = (cnt D 29524 : Int)
theorem mrk.congr {M : zM} {D E : Int → Prop} (h : mrk M D) (i : ∀ y, wd y → (D y ↔ E y)) : mrk M E := ⟨fun y hy => tv_iff (h.1 y hy) (i y hy), by rw [h.2, cnt_congr (fun k hk => i k ⟨by omega, by omega⟩)]⟩
theorem FX11_enter {M : zM} {D : Int → Prop} {y : Int} (h : mrk M D) (hy : wd y) : Ok (F_X11_enter y M) (fun M1 => mrk M1 (fun z => D z ∨ z = y) ∧ (∀ b, b ≠ 48 → b ≠ 58 → M1 b = M b) ∧ ∀ k, k ≠ 23 → M1 48 k = M 48 k) := by
  obtain ⟨h1, h2⟩ := h
  have hcn := cnt_n D 29524
  have hy0 := hy.1
  have hy1 := hy.2
  have hty := h1 y hy
  unfold F_X11_enter F_X11_enter_J19
  rw [h2]
  have marks : ∀ t : Int, ∀ z, wd z → tv (zs (zs M 48 23 t) 58 y 1 58 z) (D z ∨ z = y) := fun t z hz => by
    by_cases e : z = y
    · subst e; rw [zs_at]; exact tv_t (Or.inr rfl)
    · rw [zs_off _ _ (Or.inr e), zs_ne _ _ _ (by decide)]
      exact tv_iff (h1 z hz) ⟨Or.inl, fun q => by rcases q with q | q; exact q; exact absurd q e⟩
  have frm : ∀ t : Int, (∀ b, b ≠ 48 → b ≠ 58 → zs (zs M 48 23 t) 58 y 1 b = M b) ∧ ∀ k, k ≠ 23 → zs (zs M 48 23 t) 58 y 1 48 k = M 48 k := fun t => ⟨fun b q1 q2 => by rw [zs_ne _ _ _ q2, zs_ne _ _ _ q1], fun k q => by rw [zs_ne _ _ _ (by decide), zs_off _ _ (Or.inr q)]⟩
  refine Ok.chk ⟨hy0, hy1⟩ (Ok.ite (fun c => Ok.lett (Ok.chk ⟨hy0, hy1⟩ (Ok.lett (Ok.ret ?_)))) (fun c => Ok.lett (Ok.chk ⟨hy0, hy1⟩ (Ok.lett (Ok.ret ?_)))))
  · refine ⟨⟨marks _, ?_⟩, frm _⟩
    rw [zs_ne _ _ _ (by decide), zs_at, cnt_add (tv_0 hty c) hy0 (by omega), w_id (by omega)]
    omega
  · refine ⟨⟨marks _, ?_⟩, frm _⟩
    rw [zs_ne _ _ _ (by decide), zs_at, cnt_same (tv_1 hty c), w_id (by omega)]
    omega
/-! a turn of the reference's loops over factors -/
theorem mins {G : zGr} {x : Int} {c f : Nat} {L R : Int} {pr : List Int} (hget : G.2.2[c]? = some (L, R, pr)) (hf : f < 100) : insP G x (100 * c + f) ↔ ((f : Int) / 10 ≤ (f : Int) % 10 ∧ (f : Int) % 10 ≤ ln x ∧ ln x + ln L + ln R ≤ G.1 ∧ sel G.2.1 pr x ((f : Int) / 10) ((f : Int) % 10)) := by
  have r1 : rs (100 * c + f) = (f : Int) / 10 := by unfold rs; omega
  have r2 : re (100 * c + f) = (f : Int) % 10 := by unfold re; omega
  have r3 : (100 * c + f) / 100 = c := by omega
  unfold insP
  rw [r1, r2, r3, hget]
  constructor
  · rintro ⟨L2, R2, pr2, q1, q⟩
    cases q1
    exact q
  · intro q
    exact ⟨L, R, pr, rfl, q⟩
theorem minv {G : zGr} {x : Int} {c f : Nat} {L R : Int} {pr : List Int} (hget : G.2.2[c]? = some (L, R, pr)) (hf : f < 100) : insV G x (100 * c + f) = insw x L R ((f : Int) / 10) ((f : Int) % 10) := by
  have r1 : rs (100 * c + f) = (f : Int) / 10 := by unfold rs; omega
  have r2 : re (100 * c + f) = (f : Int) % 10 := by unfold re; omega
  have r3 : (100 * c + f) / 100 = c := by omega
  unfold insV
  rw [cxg_e (by rw [r3]; exact hget), r1, r2]
theorem cxok_wd {L R : Int} {pr : List Int} (h : cxok (L, R, pr)) : wd L ∧ wd R ∧ (1 ≤ ln L ∧ ln L ≤ 3) ∧ (0 ≤ ln R ∧ ln R ≤ 3) := by
  obtain ⟨h1, h2, _⟩ := h
  dsimp only at h1 h2
  exact ⟨⟨by omega, by omega⟩, ⟨by omega, by omega⟩, ln_cx h1, ln_cx0 h2⟩
theorem insV_r {G : zGr} (hG : grok G) {x : Int} (hx : wd x) {r : Nat} (h : insP G x r) : wd (insV G x r) ∧ ln x < ln (insV G x r) ∧ ln (insV G x r) ≤ G.1 ∧ r < 100 * G.2.2.length ∧ x < insV G x r := by
  obtain ⟨L, R, pr, h1, h2, h3, h4, h5⟩ := h
  obtain ⟨w1, w2, w3, w4⟩ := cxok_wd (hG.2.2.2 _ (List.mem_of_getElem? h1))
  have hlt := (List.getElem?_eq_some_iff.mp h1).1
  have hG1 := hG.1
  have hr : 0 ≤ rs r := by unfold rs; omega
  obtain ⟨k1, k2⟩ := insw_r (x := x) hx w1 w2 (by omega) hr h2 h3
  unfold insV
  rw [cxg_e h1]
  dsimp only
  exact ⟨k2, by omega, by omega, by omega, ln_mono hx k2 (by omega)⟩
theorem FX11_grow {M : zM} {G : zGr} {D : Int → Prop} {x : Int} {c : Nat} (hG : grok G) (hM : gM M G) (hx : wd x) (hc : c < G.2.2.length) (hD : mrk M D) : Ok (F_X11_grow x c M) (fun M1 => mrk M1 (fun z => D z ∨ ∃ r, 100 * c ≤ r ∧ r < 100 * (c + 1) ∧ insP G x r ∧ insV G x r = z) ∧ mfr (fun b => b = 58) (fun k => k = 23) M M1) := by
  have hb := ln_b x
  have hget : G.2.2[c]? = some G.2.2[c] := List.getElem?_eq_getElem hc
  obtain ⟨L, R, pr, hLR⟩ : ∃ L R pr, G.2.2[c] = (L, R, pr) := ⟨_, _, _, rfl⟩
  rw [hLR] at hget
  have hcx := hG.2.2.2 _ (List.mem_of_getElem? hget)
  obtain ⟨w1, w2, w3, w4⟩ := cxok_wd hcx
  have hG1 := hG.1
  have hG3 := hG.2.2.1
  unfold F_X11_grow
  refine Ok.b1 (FX11_fit2 (A := mA0) (F := mF0) ⟨by omega, by omega⟩ hx (hM.2.2.2 c L R pr hget).2.2 hcx.2.2) (fun M2 ⟨hfit, hfr⟩ => ?_)
  have hD2 : mrk M2 D := by
    unfold mrk
    rw [hfr.1 58 (fun q => q) (by decide) (by decide) (by decide), hfr.2 23 (fun q => q) (by decide) (by decide)]
    exact hD
  unfold F_X11_grow_L8
  refine Ok.loop (fun z => ∃ f : Nat, z.1 = f ∧ f ≤ 100 ∧ mfr (fun b => b = 58) (fun k => k = 23) M z.2 ∧ fitd z.2 pr x ∧ mrk z.2 (fun y => D y ∨ ∃ r, 100 * c ≤ r ∧ r < 100 * c + f ∧ insP G x r ∧ insV G x r = y)) (fun z => (200 - z.1).toNat) (fun M1 => mrk M1 (fun z => D z ∨ ∃ r, 100 * c ≤ r ∧ r < 100 * (c + 1) ∧ insP G x r ∧ insV G x r = z) ∧ mfr (fun b => b = 58) (fun k => k = 23) M M1) ⟨0, rfl, by omega, hfr.mono (fun _ q => q.elim) (fun _ q => q.elim), hfit, hD2.congr (fun y _ => ⟨Or.inl, fun q => by rcases q with q | ⟨r, h1, h2, _⟩; exact q; omega⟩)⟩ (by show (200 - (0 : Int)).toNat < zN; decide) ?_ (fun e he => Ok.ret he)
  rintro ⟨v3, M3⟩ ⟨f, i1, i2, i3, i4, i5⟩
  dsimp only at i1 i2 i3 i4 i5 ⊢
  subst i1
  have hM3 := hM.fr i3 ⟨by decide, by decide, by decide, by decide⟩ ⟨by decide, by decide, by decide⟩
  obtain ⟨g1, g2, g3, g4⟩ := id hM3
  obtain ⟨g5, g6, g7⟩ := g4 c L R pr hget
  unfold F_X11_grow_B8
  refine Ok.ite (fun q => ?_) (fun q => Ok.ret ⟨by have e : f = 100 := by omega
                                                   subst e; exact i5, i3⟩)
  have hf : f < 100 := by omega
  have hin := mins (x := x) hget hf
  refine Ok.b1 (FX11_hasRoom ⟨by omega, by omega⟩ w1 w2 g5 g6 g3 i4.2.1 hb) (fun r hr => ?_)
  refine Ok.ite (fun q1 => Ok.ret ⟨i5.congr (fun y _ => ⟨?_, ?_⟩), i3⟩) (fun q1 => ?_)
  · rintro (h | ⟨r, h1, h2, h3, h4⟩)
    · exact Or.inl h
    · exact Or.inr ⟨r, h1, by omega, h3, h4⟩
  · rintro (h | ⟨r2, h1, h2, h3, h4⟩)
    · exact Or.inl h
    · exfalso
      have e : r2 = 100 * c + (r2 - 100 * c) := by omega
      rw [e] at h3
      exact tv_0 hr q1 ((mins (x := x) hget (show r2 - 100 * c < 100 by omega)).mp h3).2.2.1
  have hroom := tv_1 hr q1
  -- the turn's end
  have go : ∀ M4 : zM, mfr (fun b => b = 58) (fun k => k = 23) M M4 → fitd M4 pr x → mrk M4 (fun y => D y ∨ ∃ r, 100 * c ≤ r ∧ r < 100 * c + (f + 1) ∧ insP G x r ∧ insV G x r = y) → Ok (F_X11_grow_J62 c f M4) (Turn (fun z : Int × zM => ∃ f : Nat, z.1 = f ∧ f ≤ 100 ∧ mfr (fun b => b = 58) (fun k => k = 23) M z.2 ∧ fitd z.2 pr x ∧ mrk z.2 (fun y => D y ∨ ∃ r, 100 * c ≤ r ∧ r < 100 * c + f ∧ insP G x r ∧ insV G x r = y)) (fun z => (200 - z.1).toNat) (fun M1 => mrk M1 (fun z => D z ∨ ∃ r, 100 * c ≤ r ∧ r < 100 * (c + 1) ∧ insP G x r ∧ insV G x r = z) ∧ mfr (fun b => b = 58) (fun k => k = 23) M M1) ((f : Int), M3)) := fun M4 h1 h2 h3 => by
    unfold F_X11_grow_J62
    refine Ok.lett (Ok.ret ?_)
    rw [w_id (a := (f : Int) + 1) (by omega)]
    exact ⟨⟨f + 1, by show (f : Int) + 1 = _; omega, by omega, h1, h2, h3⟩, by show (200 - ((f : Int) + 1)).toNat < (200 - (f : Int)).toNat; omega⟩
  have no : ¬ insP G x (100 * c + f) → Ok (F_X11_grow_J62 c f M3) (Turn (fun z : Int × zM => ∃ f : Nat, z.1 = f ∧ f ≤ 100 ∧ mfr (fun b => b = 58) (fun k => k = 23) M z.2 ∧ fitd z.2 pr x ∧ mrk z.2 (fun y => D y ∨ ∃ r, 100 * c ≤ r ∧ r < 100 * c + f ∧ insP G x r ∧ insV G x r = y)) (fun z => (200 - z.1).toNat) (fun M1 => mrk M1 (fun z => D z ∨ ∃ r, 100 * c ≤ r ∧ r < 100 * (c + 1) ∧ insP G x r ∧ insV G x r = z) ∧ mfr (fun b => b = 58) (fun k => k = 23) M M1) ((f : Int), M3)) := fun hn => go M3 i3 i4 (i5.congr (fun y _ => ⟨fun q => by
      rcases q with q | ⟨r, h1, h2, h3⟩
      · exact Or.inl q
      · exact Or.inr ⟨r, h1, by omega, h3⟩, fun q => by
      rcases q with q | ⟨r, h1, h2, h3, h4⟩
      · exact Or.inl q
      · by_cases e : r = 100 * c + f
        · rw [e] at h3; exact absurd h3 hn
        · exact Or.inr ⟨r, h1, by omega, h3, h4⟩⟩))
  refine Ok.b1 (FX11_isFactor (by omega) (by omega) i4.2.1) (fun r1 hr1 => ?_)
  refine Ok.ite (fun q2 => no (fun h => tv_0 hr1 q2 ⟨(hin.mp h).1, (hin.mp h).2.1⟩)) (fun q2 => ?_)
  have hfac := tv_1 hr1 q2
  rw [zdiv_e (by omega) (by omega) (by decide) (by decide), zrem_e (by omega) (by omega) (by decide) (by decide)]
  refine Ok.b1 (FX11_isSelected i4 (by rw [g2]; exact hG.2.1) (by omega) hfac.1 hfac.2) (fun r2 hr2 => ?_)
  rw [g2] at hr2
  refine Ok.ite (fun q3 => no (fun h => tv_0 hr2 q3 (hin.mp h).2.2.2)) (fun q3 => ?_)
  have hp : insP G x (100 * c + f) := hin.mpr ⟨hfac.1, hfac.2, hroom, tv_1 hr2 q3⟩
  rw [FX11_inserted ⟨by omega, by omega⟩ hx w1 w2 g5 g6 i4.1 i4.2.1 (by omega) (by omega) hfac.1 hfac.2]
  simp only [zb1_some]
  have hv := minv (x := x) hget hf
  have hvw := (insV_r hG hx hp).1
  rw [hv] at hvw
  refine Ok.b1 (FX11_enter i5 hvw) (fun M4 ⟨k1, k2, k3⟩ => ?_)
  refine go M4 (i3.trans ⟨fun b h1 h2 _ _ => k2 b h2 h1, fun k h1 _ _ => k3 k h1⟩) (i4.fr (k3 20 (by decide)) (k3 21 (by decide)) (k2 57 (by decide) (by decide))) (k1.congr (fun y _ => ⟨fun q => ?_, fun q => ?_⟩))
  · rcases q with (q | ⟨r, h1, h2, h3⟩) | q
    · exact Or.inl q
    · exact Or.inr ⟨r, h1, by omega, h3⟩
    · exact Or.inr ⟨100 * c + f, by omega, by omega, hp, by rw [hv, q]⟩
  · rcases q with q | ⟨r, h1, h2, h3, h4⟩
    · exact Or.inl (Or.inl q)
    · by_cases e : r = 100 * c + f
      · rw [e, hv] at h4; exact Or.inr h4.symm
      · exact Or.inl (Or.inr ⟨r, h1, by omega, h3, h4⟩)
/-! languages -/
def lc (G : zGr) (ax : List Int) (C : Nat → Prop) (y : Int) : Prop := ∀ P : Int → Prop, (∀ a ∈ ax, ln a ≤ G.1 → P a) → (∀ x r, P x → insP G x r → C (r / 100) → P (insV G x r)) → P y
theorem lc_ax {G : zGr} {ax : List Int} {C : Nat → Prop} {a : Int} (h : a ∈ ax) (hl : ln a ≤ G.1) : lc G ax C a := fun P h1 _ => h1 a h hl
theorem lc_ins {G : zGr} {ax : List Int} {C : Nat → Prop} {x : Int} {r : Nat} (h : lc G ax C x) (hp : insP G x r) (hC : C (r / 100)) : lc G ax C (insV G x r) := fun P h1 h2 => h2 x r (h P h1 h2) hp hC
theorem lc_mono {G : zGr} {ax : List Int} {C E : Nat → Prop} {y : Int} (h : lc G ax C y) (i : ∀ c, C c → E c) : lc G ax E y := h _ (fun a ha hl => lc_ax ha hl) (fun x r hx hp hc => lc_ins hx hp (i _ hc))
def axok (ax : List Int) : Prop := ax.length ≤ 6 ∧ ∀ a ∈ ax, 1 ≤ a ∧ a < 9841
theorem axok_wd {ax : List Int} (h : axok ax) {a : Int} (ha : a ∈ ax) : wd a := ⟨by have := h.2 a ha; omega, by have := h.2 a ha; omega⟩
theorem lc_wd {G : zGr} {ax : List Int} {C : Nat → Prop} {y : Int} (hG : grok G) (hax : axok ax) (h : lc G ax C y) : wd y ∧ ln y ≤ G.1 := by
  refine h (fun y => wd y ∧ ln y ≤ G.1) (fun a ha hl => ⟨axok_wd hax ha, hl⟩) (fun x r hx hp _ => ?_)
  have := insV_r hG hx.1 hp
  exact ⟨this.1, this.2.2.1⟩
def axM (M : zM) (ax : List Int) : Prop := M 48 2 = (ax.length : Int) ∧ ∀ (i : Nat) (a : Int), ax[i]? = some a → M 49 i = a
/-- not too large -/
def few (G : zGr) (ax : List Int) (C : Nat → Prop) : Prop := cnt (lc G ax C) 29524 ≤ 300
