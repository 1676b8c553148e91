/-! PURE 35: the reference: normal forms counted, the word normalized, confluence -/
noncomputable def nfc (G : zGr) (x : Int) : Nat := cnt (nfs G x) 29524
theorem nfc_le {G : zGr} {x : Int} : nfc G x ≤ 29524 := cnt_n _ _
theorem FX11_countForms {M : zM} {G : zGr} {x : Int} (hG : grok G) (hx : wd x) (hcu : M 48 29 = x) (h : ∀ z, wd z → tv (M 62 z) (nfs G x z)) : Ok (F_X11_countForms M) (fun r => r = nfc G x) := by
  have hx0 := hx.1
  have hx1 := hx.2
  unfold F_X11_countForms F_X11_countForms_L4
  refine Ok.loop (fun z => ∃ k : Nat, z.2 = k ∧ (k : Int) ≤ x + 1 ∧ z.1 = (cnt (nfs G x) k : Nat)) (fun z => (30000 - z.2).toNat) (fun r => r = nfc G x) ⟨0, rfl, by omega, rfl⟩ (by show (30000 - (0 : Int)).toNat < zN; decide) ?_ (fun r h => by unfold F_X11_countForms_J27; exact Ok.ret h)
  rintro ⟨v1, v2⟩ ⟨k, i1, i2, i3⟩
  dsimp only at i1 i2 i3 ⊢
  subst i1 i3
  have hc := cnt_n (nfs G x) k
  unfold F_X11_countForms_B4
  rw [hcu]
  refine Ok.ite (fun q => Ok.ret ?_) (fun q => ?_)
  · have e : cnt (nfs G x) 29524 = cnt (nfs G x) k := cnt_none (by omega) (fun j h1 h2 hD => by have := hD.1.le hG hx; omega)
    show ((cnt (nfs G x) k : Nat) : Int) = ((cnt (nfs G x) 29524 : Nat) : Int)
    rw [e]
  · have hk : wd k := ⟨by omega, by omega⟩
    have hv := h k hk
    have e : w (((cnt (nfs G x) k : Nat) : Int) + M 62 k) = ((cnt (nfs G x) (k + 1) : Nat) : Int) := by
      rcases hv with ⟨a, b⟩ | ⟨a, b⟩
      · rw [a, cnt_t b, w_id (by omega)]; omega
      · rw [a, cnt_f b, w_id (by omega)]; omega
    rw [e, w_id (a := (k : Int) + 1) (by omega)]
    exact Ok.chk hk (Ok.lett (Ok.lett (Ok.ret ⟨⟨k + 1, by show (k : Int) + 1 = _; omega, by omega, rfl⟩, by show (30000 - ((k : Int) + 1)).toNat < (30000 - (k : Int)).toNat; omega⟩)))
theorem mnf_scr {M M1 : zM} (h : mfr mnf m26 M M1) : mscr M M1 := mscr.of h (fun b q => by unfold mnf at q; omega) (fun k q => by unfold m26 at q; omega)
theorem FX11_normalForms {M : zM} {G : zGr} {ax : List Int} {cur : Int} (h : mst M G ax cur) : Ok (F_X11_normalForms M) (fun r => mscr M r.2 ∧ r.2 48 0 = 0 ∧ r.1 = nfc G cur) := by
  have h1 := h.scr (M1 := zs M 48 0 0) mscr.th
  unfold F_X11_normalForms
  refine Ok.lett ?_
  rw [h1.2.2.2.2.2]
  refine Ok.b1 (FX11_meet h.1 h1.2.2.2.1 h.2.2.1) (fun M3 ⟨a1, a2⟩ => ?_)
  refine Ok.b1 (FX11_countForms h.1 h.2.2.1 (h1.scr (mnf_scr a1)).2.2.2.2.2 a2) (fun r hr => Ok.ret ⟨mfr.trans mscr.th (mnf_scr a1), ?_, hr⟩)
  show M3 48 0 = 0
  rw [a1.2 0 (by unfold m26; decide) (by decide) (by decide)]
  exact zs_at M 48 0 0
theorem FX11_normalize {M : zM} {G : zGr} {ax : List Int} {cur t : Int} (h : mst M G ax cur) : Ok (F_X11_normalize t M) (fun r => (¬ (0 ≤ t ∧ t < nfc G cur) → r 48 0 = 1 ∧ mscr M r) ∧ (∀ i : Nat, t = i → i < nfc G cur → r 48 0 = 0 ∧ ∃ y, (wl_ (nfs G cur))[i]? = some y ∧ r 48 29 = y ∧ mfr (fun b => 58 ≤ b ∧ b ≤ 66) (fun k => k = 0 ∨ k = 23 ∨ k = 26 ∨ k = 29) M r)) := by
  have h1 := h.scr (M1 := zs M 48 0 0) mscr.th
  have hG := h.1
  have hw := h.2.2.1
  have hn := nfc_le (G := G) (x := cur)
  unfold F_X11_normalize
  refine Ok.lett ?_
  rw [h1.2.2.2.2.2]
  refine Ok.b1 (FX11_meet h.1 h1.2.2.2.1 h.2.2.1) (fun M3 ⟨a1, a2⟩ => ?_)
  have hs3 : mscr M M3 := mfr.trans mscr.th (mnf_scr a1)
  refine Ok.b1 (FX11_countForms h.1 h.2.2.1 (h1.scr (mnf_scr a1)).2.2.2.2.2 a2) (fun r hr => ?_)
  subst hr
  rw [FX11_isIn, w_id (a := (nfc G cur : Int) - 1) (by omega)]
  simp only [zb1_some]
  refine Ok.ite (fun c => Ok.lett (Ok.ret ?_)) (fun c => ?_)
  · have hno : ¬ (0 ≤ t ∧ t ≤ (nfc G cur : Int) - 1) := fun q => by rw [if_pos q] at c; exact absurd c (by decide)
    exact ⟨fun _ => ⟨zs_at M3 48 0 1, mfr.trans hs3 mscr.th⟩, fun i e1 e2 => absurd ⟨by omega, by omega⟩ hno⟩
  have ht : 0 ≤ t ∧ t ≤ (nfc G cur : Int) - 1 := by
    by_cases q : 0 ≤ t ∧ t ≤ (nfc G cur : Int) - 1
    · exact q
    · rw [if_neg q] at c; exact absurd rfl c
  obtain ⟨i, hi⟩ : ∃ i : Nat, t = i := ⟨t.toNat, by omega⟩
  subst hi
  have hlen : (wl_ (nfs G cur)).length = nfc G cur := by
    unfold wl_ nfc cnt
    rw [List.length_map]
  obtain ⟨y, hy⟩ : ∃ y, (wl_ (nfs G cur))[i]? = some y := ⟨_, List.getElem?_eq_getElem (by rw [hlen]; omega)⟩
  obtain ⟨y1, y2, y3⟩ := wl_idx hy
  have hy0 := y2.1
  have hy1 := y2.2
  have hyn : (y.toNat : Int) = y := by omega
  unfold F_X11_normalize_L37
  refine Ok.loop (fun z => ∃ k : Nat, z.2 = k ∧ k ≤ y.toNat ∧ z.1 = (i : Int) - cnt (nfs G cur) k) (fun z => (y + 1 - z.2).toNat) (fun v => v = y) ⟨0, rfl, by omega, by show (i : Int) = (i : Int) - ((cnt (nfs G cur) 0 : Nat) : Int); rw [cnt_0]; omega⟩ (by show (y + 1 - 0).toNat < zN; have e : (40000 : Nat) ≤ zN := (by decide); omega) ?_ ?_
  · rintro ⟨v2, v3⟩ ⟨k, i1, i2, i3⟩
    dsimp only at i1 i2 i3 ⊢
    subst i1 i3
    have hm := cnt_mono (D := nfs G cur) (n := k) (m := y.toNat) i2
    have hk : wd k := ⟨by omega, by omega⟩
    have hv := a2 k hk
    have go : k < y.toNat → Ok (F_X11_normalize_J50 ((i : Int) - cnt (nfs G cur) k) k M3) (Turn (fun z : Int × Int => ∃ k : Nat, z.2 = k ∧ k ≤ y.toNat ∧ z.1 = (i : Int) - cnt (nfs G cur) k) (fun z => (y + 1 - z.2).toNat) (fun v => v = y) ((i : Int) - cnt (nfs G cur) k, (k : Int))) := fun hlt => by
      unfold F_X11_normalize_J50
      have hn2 := cnt_n (nfs G cur) k
      have e : w ((i : Int) - ((cnt (nfs G cur) k : Nat) : Int) - M3 62 k) = (i : Int) - ((cnt (nfs G cur) (k + 1) : Nat) : Int) := by
        rcases hv with ⟨a, b⟩ | ⟨a, b⟩
        · rw [a, cnt_t b, w_id (by omega)]; omega
        · rw [a, cnt_f b, w_id (by omega)]; omega
      rw [e, w_id (a := (k : Int) + 1) (by omega)]
      exact Ok.chk hk (Ok.lett (Ok.lett (Ok.ret ⟨⟨k + 1, by show (k : Int) + 1 = _; omega, by omega, rfl⟩, by show (y + 1 - ((k : Int) + 1)).toNat < (y + 1 - (k : Int)).toNat; omega⟩)))
    unfold F_X11_normalize_B37
    refine Ok.ite (fun q => go ?_) (fun q => Ok.chk hk (Ok.ite (fun q1 => go ?_) (fun q1 => Ok.ret ?_)))
    · by_cases e : k = y.toNat
      · rw [e] at q; omega
      · omega
    · by_cases e : k = y.toNat
      · have hD : nfs G cur k := by rw [e, hyn]; exact y3
        exact absurd hD (tv_0 hv q1)
      · omega
    · have hD := tv_1 hv q1
      show (k : Int) = y
      by_cases e : k = y.toNat
      · omega
      · have h2 := cnt_mono (D := nfs G cur) (n := k + 1) (m := y.toNat) (by omega)
        rw [cnt_t hD] at h2
        omega
  · rintro v rfl
    unfold F_X11_normalize_J65
    refine Ok.lett (Ok.ret ⟨fun q => absurd ⟨by omega, by omega⟩ q, fun j e1 e2 => ⟨?_, v, by rw [show j = i by omega]; exact hy, zs_at M3 48 29 v, (hs3.mono (fun _ q => q) (fun k q => by omega)).trans (mfr.fld (by omega))⟩⟩)
    rw [zs_off _ _ (Or.inr (by decide)), a1.2 0 (by unfold m26; decide) (by decide) (by decide)]
    exact zs_at M 48 0 0
theorem FX11_countReductions {M : zM} {G : zGr} {x : Int} (hG : grok G) (hM : gM M G) (hx : wd x) : Ok (F_X11_countReductions x M) (fun r => r.1 = ((redL G x).length : Int) ∧ mfr mA0 (fun k => k = 26) M r.2) := by
  have hG3 := hG.2.2.1
  have hfr : ∀ {M3 : zM}, mfr mA0 m26 M M3 → gM M3 G := fun h => hM.fr h ⟨fun q => q, fun q => q, fun q => q, fun q => q⟩ ⟨by unfold m26; omega, by unfold m26; omega, by unfold m26; omega⟩
  unfold F_X11_countReductions F_X11_countReductions_L4
  refine Ok.loop (fun z => ∃ r : Nat, z.2.1 = r ∧ r ≤ 100 * G.2.2.length ∧ z.1 = ((frl (redP G x) r).length : Int) ∧ (frl (redP G x) r).length ≤ r ∧ mfr mA0 m26 M z.2.2) (fun z => (1000 - z.2.1).toNat) (fun e => e.1 = ((redL G x).length : Int) ∧ mfr mA0 m26 M e.2) ⟨0, rfl, by omega, rfl, Nat.le_refl 0, mfr.refl⟩ (by show (1000 - (0 : Int)).toNat < zN; decide) ?_ (fun e h => by unfold F_X11_countReductions_J59; exact Ok.ret h)
  rintro ⟨v2, v3, M3⟩ ⟨r, i1, i2, i3, i4, i5⟩
  dsimp only at i1 i2 i3 i4 i5 ⊢
  subst i1 i3
  have gg := hfr i5
  unfold F_X11_countReductions_B4
  rw [gg.1, w_id (a := 100 * (G.2.2.length : Int)) (by omega)]
  refine Ok.ite (fun q => ?_) (fun q => Ok.ret ⟨by show _ = ((frl (redP G x) (100 * G.2.2.length)).length : Int); rw [show 100 * G.2.2.length = r by omega], i5⟩)
  have go : ∀ (v : Int) (M6 : zM), mfr mA0 m26 M M6 → tv v (redP G x r) → Ok (F_X11_countReductions_J51 x r ((frl (redP G x) r).length : Int) v M6) (Turn (fun z : Int × Int × zM => ∃ r : Nat, z.2.1 = r ∧ r ≤ 100 * G.2.2.length ∧ z.1 = ((frl (redP G x) r).length : Int) ∧ (frl (redP G x) r).length ≤ r ∧ mfr mA0 m26 M z.2.2) (fun z => (1000 - z.2.1).toNat) (fun e : Int × zM => e.1 = ((redL G x).length : Int) ∧ mfr mA0 m26 M e.2) (((frl (redP G x) r).length : Int), (r : Int), M3)) := fun v M6 a1 a2 => by
    unfold F_X11_countReductions_J51
    have e : w (((frl (redP G x) r).length : Int) + v) = ((frl (redP G x) (r + 1)).length : Int) ∧ (frl (redP G x) (r + 1)).length ≤ r + 1 := by
      rcases a2 with ⟨a, b⟩ | ⟨a, b⟩
      · rw [a, frl_t b, List.length_append, List.length_singleton, w_id (by omega)]; omega
      · rw [a, frl_f b, w_id (by omega)]; omega
    rw [e.1, w_id (a := (r : Int) + 1) (by omega)]
    exact Ok.lett (Ok.lett (Ok.ret ⟨⟨r + 1, by show (r : Int) + 1 = _; omega, by omega, rfl, e.2, a1⟩, by show (1000 - ((r : Int) + 1)).toNat < (1000 - (r : Int)).toNat; omega⟩))
  unfold F_X11_countReductions_J50
  refine mred hG gg hx (by omega) (fun hn => go 0 M3 i5 (tv_f hn)) (fun M6 hn f6 => go 0 M6 (i5.trans f6) (tv_f hn)) (fun M6 hp e26 f6 => go 1 M6 (i5.trans f6) (tv_t hp))
/-- the only normal form, or that there are several -/
def ofm (G : zGr) (x v : Int) : Prop := (v = -2 ∧ ∃ a b, a ≠ b ∧ nfs G x a ∧ nfs G x b) ∨ (nfs G x v ∧ ∀ b, nfs G x b → b = v)
theorem FX11_onlyForm {G : zGr} (hG : grok G) : ∀ (n : Nat) (k : Nat) (x : Int) (M : zM), gM M G → wd x → ln x < n → (∀ y, wd y → M 62 y = -1 ∨ ofm G y (M 62 y)) → Ok (F_GN n k x M) (fun r => ofm G x r.1 ∧ (∀ y, wd y → r.2 62 y = -1 ∨ ofm G y (r.2 62 y)) ∧ mfr (fun b => b = 62) m26 M r.2) := by
  have hG3 := hG.2.2.1
  intro n
  induction n with
  | zero => intro k x M _ _ h; have := ln_b x; omega
  | succ n ih =>
    intro k x M hM hx hn hmem
    have hfr : ∀ {M3 : zM}, mfr (fun b => b = 62) m26 M M3 → gM M3 G := fun h => hM.fr h ⟨by omega, by omega, by omega, by omega⟩ ⟨by unfold m26; omega, by unfold m26; omega, by unfold m26; omega⟩
    have hge : ∀ y v, wd y → ofm G y v → v = -2 ∨ 0 ≤ v := fun y v hy h => by
      rcases h with h | h
      · exact Or.inl h.1
      · exact Or.inr (h.1.wd hG hy).1
    show Ok (F_X11_onlyForm (F_GN n) x M) _
    unfold F_X11_onlyForm
    refine Ok.chk hx (Ok.ite (fun q => ?_) (fun q => Ok.chk hx (Ok.ret ⟨?_, hmem, mfr.refl⟩)))
    · unfold F_X11_onlyForm_L21
      refine Ok.loop (fun z => ∃ r : Nat, z.2.1 = r ∧ r ≤ 100 * G.2.2.length ∧ mfr (fun b => b = 62) m26 M z.2.2 ∧ (∀ y, wd y → z.2.2 62 y = -1 ∨ ofm G y (z.2.2 62 y)) ∧ ((z.1 = -1 ∧ ∀ t, t < r → ¬ redP G x t) ∨ (z.1 = -2 ∧ ∃ a b, a ≠ b ∧ nfs G x a ∧ nfs G x b) ∨ (nfs G x z.1 ∧ (∃ t, redP G x t) ∧ ∀ t, t < r → redP G x t → ∀ b, nfs G (redV G x t) b → b = z.1))) (fun z => (1000 - z.2.1).toNat) (fun e => ((e.1 = -1 ∧ nf G x) ∨ (e.1 ≠ -1 ∧ ofm G x e.1)) ∧ (∀ y, wd y → e.2 62 y = -1 ∨ ofm G y (e.2 62 y)) ∧ mfr (fun b => b = 62) m26 M e.2) ⟨0, rfl, by omega, mfr.refl, hmem, Or.inl ⟨rfl, fun t ht => absurd ht (Nat.not_lt_zero t)⟩⟩ (by show (1000 - (0 : Int)).toNat < zN; decide) ?_ ?_
      · rintro ⟨v2, v3, M3⟩ ⟨r, i1, i2, i3, i4, i5⟩
        dsimp only at i1 i2 i3 i4 i5 ⊢
        subst i1
        have gg := hfr i3
        unfold F_X11_onlyForm_B21
        rw [gg.1, w_id (a := 100 * (G.2.2.length : Int)) (by omega)]
        refine Ok.ite (fun q1 => Ok.ite (fun q2 => Ok.ret ⟨Or.inr ⟨by omega, Or.inl ⟨q2, ?_⟩⟩, i4, i3⟩) (fun q2 => ?_)) (fun q1 => Ok.ret ⟨?_, i4, i3⟩)
        · rcases i5 with a | a | a
          · omega
          · exact a.2
          · have := (a.1.wd hG hx).1; omega
        · have go : ∀ (v : Int) (M6 : zM), mfr (fun b => b = 62) m26 M M6 → (∀ y, wd y → M6 62 y = -1 ∨ ofm G y (M6 62 y)) → ((v = -1 ∧ ∀ t, t < r + 1 → ¬ redP G x t) ∨ (v = -2 ∧ ∃ a b, a ≠ b ∧ nfs G x a ∧ nfs G x b) ∨ (nfs G x v ∧ (∃ t, redP G x t) ∧ ∀ t, t < r + 1 → redP G x t → ∀ b, nfs G (redV G x t) b → b = v)) → Ok (F_X11_onlyForm_J97 (F_GN n) x v r M6) (Turn (fun z : Int × Int × zM => ∃ r : Nat, z.2.1 = r ∧ r ≤ 100 * G.2.2.length ∧ mfr (fun b => b = 62) m26 M z.2.2 ∧ (∀ y, wd y → z.2.2 62 y = -1 ∨ ofm G y (z.2.2 62 y)) ∧ ((z.1 = -1 ∧ ∀ t, t < r → ¬ redP G x t) ∨ (z.1 = -2 ∧ ∃ a b, a ≠ b ∧ nfs G x a ∧ nfs G x b) ∨ (nfs G x z.1 ∧ (∃ t, redP G x t) ∧ ∀ t, t < r → redP G x t → ∀ b, nfs G (redV G x t) b → b = z.1))) (fun z => (1000 - z.2.1).toNat) (fun e : Int × zM => ((e.1 = -1 ∧ nf G x) ∨ (e.1 ≠ -1 ∧ ofm G x e.1)) ∧ (∀ y, wd y → e.2 62 y = -1 ∨ ofm G y (e.2 62 y)) ∧ mfr (fun b => b = 62) m26 M e.2) (v2, (r : Int), M3)) := fun v M6 a1 a2 a3 => by
            unfold F_X11_onlyForm_J97
            rw [w_id (a := (r : Int) + 1) (by omega)]
            exact Ok.lett (Ok.ret ⟨⟨r + 1, by show (r : Int) + 1 = _; omega, by omega, a1, a2, a3⟩, by show (1000 - ((r : Int) + 1)).toNat < (1000 - (r : Int)).toNat; omega⟩)
          have no : ¬ redP G x r → (v2 = -1 ∧ ∀ t, t < r + 1 → ¬ redP G x t) ∨ (v2 = -2 ∧ ∃ a b, a ≠ b ∧ nfs G x a ∧ nfs G x b) ∨ (nfs G x v2 ∧ (∃ t, redP G x t) ∧ ∀ t, t < r + 1 → redP G x t → ∀ b, nfs G (redV G x t) b → b = v2) := fun hnr => by
            rcases i5 with ⟨a, b⟩ | a | ⟨a, b, c⟩
            · refine Or.inl ⟨a, fun t ht => ?_⟩
              by_cases e : t = r
              · rw [e]; exact hnr
              · exact b t (by omega)
            · exact Or.inr (Or.inl a)
            · refine Or.inr (Or.inr ⟨a, b, fun t ht hp => ?_⟩)
              by_cases e : t = r
              · rw [e] at hp; exact absurd hp hnr
              · exact c t (by omega) hp
          refine mred hG gg hx (by omega) (fun hnr => go v2 M3 i3 i4 (no hnr)) (fun M6 hnr f6 => go v2 M6 (i3.trans (f6.mono (fun _ a => a.elim) (fun _ a => a))) (by rw [f6.1 62 (fun a => a) (by decide) (by decide) (by decide)]; exact i4) (no hnr)) (fun M6 hp e26 f6 => ?_)
          have hv := redV_r hG hp
          have f7 : mfr (fun b => b = 62) m26 M M6 := i3.trans (f6.mono (fun _ a => a.elim) (fun _ a => a))
          rw [e26]
          refine Ok.b2 (ih 0 (redV G x r) M6 (hfr f7) hv.1 (by omega) (by rw [f6.1 62 (fun a => a) (by decide) (by decide) (by decide)]; exact i4)) (fun v M7 ⟨b1, b2, b3⟩ => ?_)
          dsimp only at b1 b2 b3
          have f8 := f7.trans b3
          have hup : ∀ b, nfs G (redV G x r) b → nfs G x b := fun b hb => ⟨(rdc.self.step hp).trans hb.1, hb.2⟩
          have take : (v2 = -1 ∨ v2 = v) → (v = -1 ∧ ∀ t, t < r + 1 → ¬ redP G x t) ∨ (v = -2 ∧ ∃ a b, a ≠ b ∧ nfs G x a ∧ nfs G x b) ∨ (nfs G x v ∧ (∃ t, redP G x t) ∧ ∀ t, t < r + 1 → redP G x t → ∀ b, nfs G (redV G x t) b → b = v) := fun hc => by
            rcases b1 with ⟨c1, a, b, c2, c3, c4⟩ | ⟨c1, c2⟩
            · exact Or.inr (Or.inl ⟨c1, a, b, c2, hup a c3, hup b c4⟩)
            · refine Or.inr (Or.inr ⟨hup v c1, ⟨r, hp⟩, fun t ht hpt b hb => ?_⟩)
              by_cases e : t = r
              · rw [e] at hb; exact c2 b hb
              · rcases i5 with ⟨a1, a2⟩ | a1 | ⟨a1, a2, a3⟩
                · exact absurd hpt (a2 t (by omega))
                · exact absurd a1.1 q2
                · have hv0 := (a1.wd hG hx).1
                  rcases hc with hc | hc
                  · omega
                  · rw [← hc]; exact a3 t (by omega) hpt b hb
          refine Ok.ite (fun q3 => go v M7 f8 b2 (take (Or.inl q3))) (fun q3 => Ok.ite (fun q4 => go v M7 f8 b2 (take (Or.inr q4))) (fun q4 => go (-2) M7 f8 b2 (Or.inr (Or.inl ⟨rfl, ?_⟩))))
          rcases i5 with ⟨a1, _⟩ | a1 | ⟨a1, a2, a3⟩
          · exact absurd a1 q3
          · exact absurd a1.1 q2
          · rcases b1 with ⟨c1, a, b, c2, c3, c4⟩ | ⟨c1, c2⟩
            · exact ⟨a, b, c2, hup a c3, hup b c4⟩
            · exact ⟨v2, v, q4, a1, hup v c1⟩
        · rcases i5 with ⟨a1, a2⟩ | a1 | ⟨a1, a2, a3⟩
          · exact Or.inl ⟨a1, fun t ht => a2 t (by have := (redV_r hG ht).2.2.2; omega) ht⟩
          · exact Or.inr ⟨by omega, Or.inl a1⟩
          · refine Or.inr ⟨by have := (a1.wd hG hx).1; omega, Or.inr ⟨a1, fun b hb => ?_⟩⟩
            rcases hb.1.first with e | ⟨t, e1, e2⟩
            · obtain ⟨t, ht⟩ := a2
              rw [e] at hb
              exact absurd ht (hb.2 t)
            · exact a3 t (by have := (redV_r hG e1).2.2.2; omega) e1 b ⟨e2, hb.2⟩
      · rintro ⟨v2, M3⟩ ⟨e1, e2, e3⟩
        dsimp only at e1 e2 e3 ⊢
        have fin : ∀ v, ofm G x v → Ok (F_X11_onlyForm_J118 (F_GN n) x x v M3) (fun r => ofm G x r.1 ∧ (∀ y, wd y → r.2 62 y = -1 ∨ ofm G y (r.2 62 y)) ∧ mfr (fun b => b = 62) m26 M r.2) := fun v hv => by
          unfold F_X11_onlyForm_J118
          refine Ok.chk hx (Ok.lett (Ok.chk hx (Ok.ret ⟨?_, fun y hy => ?_, e3.trans (mfr.cell rfl (by decide))⟩)))
          · show ofm G x (zs M3 62 x v 62 x)
            rw [zs_at]; exact hv
          · show zs M3 62 x v 62 y = -1 ∨ ofm G y (zs M3 62 x v 62 y)
            by_cases e : y = x
            · rw [e, zs_at]; exact Or.inr hv
            · rw [zs_off _ _ (Or.inr e)]; exact e2 y hy
        unfold F_X11_onlyForm_J103
        refine Ok.ite (fun c => fin x ?_) (fun c => fin v2 ?_)
        · rcases e1 with e1 | e1
          · refine Or.inr ⟨⟨rdc.self, e1.2⟩, fun b hb => ?_⟩
            rcases hb.1.first with e | ⟨t, f1, _⟩
            · exact e
            · exact absurd f1 (e1.2 t)
          · exact absurd c e1.1
        · rcases e1 with e1 | e1
          · exact absurd e1.1 c
          · exact e1.2
    · show ofm G x (M 62 x)
      rcases hmem x hx with a | a
      · exact absurd a q
      · exact a
def conf (G : zGr) (ax : List Int) : Prop := ∀ y, lcA G ax y → ∀ a b, nfs G y a → nfs G y b → a = b
theorem FX11_isConfluent {M : zM} {G : zGr} {ax : List Int} {cur : Int} (h : mst M G ax cur) : Ok (F_X11_isConfluent M) (fun r => mscr M r.2 ∧ (fewA G ax → r.2 48 0 = 0 ∧ tv r.1 (conf G ax)) ∧ (¬ fewA G ax → r.2 48 0 = 1)) := by
  have hG := h.1
  unfold F_X11_isConfluent
  refine Ok.lett (Ok.b2 (mfind h) (fun r M1 ⟨h1, h2, h3, h4, h5⟩ => ?_))
  dsimp only at h1 h2 h3 h4 h5
  refine Ok.ite (fun c => ?_) (fun c => ?_)
  · rw [FX11_fail]
    simp only [zb2_some]
    refine Ok.neg (by decide) (Ok.ret ⟨mfr.trans h3 mscr.th, fun q => absurd q (tv_0 h1 c), fun _ => zs_at M1 48 0 1⟩)
  have hfe := tv_1 h1 c
  have hm := h2 hfe
  have hA62 : ∀ {M2 : zM}, mfr (fun b => b = 62) m26 M1 M2 → mscr M1 M2 := fun a => mscr.of a (fun b q => by omega) (fun k q => by unfold m26 at q; omega)
  have h0 : ∀ {M2 : zM}, mfr (fun b => b = 62) m26 M1 M2 → M2 48 0 = 0 := fun a => by rw [a.2 0 (by unfold m26; decide) (by decide) (by decide)]; exact h4
  unfold F_X11_isConfluent_L28
  refine Ok.loop (fun z => ∃ k : Nat, z.1 = k ∧ k ≤ 29524 ∧ mfr (fun b => b = 62) m26 M1 z.2 ∧ ∀ y, wd y → y < k → z.2 62 y = -1) (fun z => (30000 - z.1).toNat) (fun M3 => mfr (fun b => b = 62) m26 M1 M3 ∧ ∀ y, wd y → M3 62 y = -1) ⟨0, rfl, by omega, mfr.refl, fun y hy h => by have := hy.1; omega⟩ (by show (30000 - (0 : Int)).toNat < zN; decide) ?_ ?_
  · rintro ⟨v2, M2⟩ ⟨k, i1, i2, i3, i4⟩
    dsimp only at i1 i2 i3 i4 ⊢
    subst i1
    unfold F_X11_isConfluent_B28
    refine Ok.ite (fun q => ?_) (fun q => Ok.ret ⟨i3, fun y hy => i4 y hy (by have := hy.2; omega)⟩)
    rw [w_id (a := (k : Int) + 1) (by omega)]
    refine Ok.chk ⟨by omega, q⟩ (Ok.lett (Ok.lett (Ok.ret ⟨⟨k + 1, by show (k : Int) + 1 = _; omega, by omega, i3.trans (mfr.cell rfl (by decide)), fun y g1 g2 => ?_⟩, by show (30000 - ((k : Int) + 1)).toNat < (30000 - (k : Int)).toNat; omega⟩)))
    show zs M2 62 k (-1) 62 y = -1
    by_cases e : y = k
    · rw [e, zs_at]
    · rw [zs_off _ _ (Or.inr e)]; exact i4 y g1 (by omega)
  intro M2 ⟨f1, f2⟩
  unfold F_X11_isConfluent_J48 F_X11_isConfluent_L50
  refine Ok.loop (fun z => ∃ k : Nat, z.1 = k ∧ k ≤ 29524 ∧ mfr (fun b => b = 62) m26 M1 z.2 ∧ (∀ y, wd y → z.2 62 y = -1 ∨ ofm G y (z.2 62 y)) ∧ ∀ y, wd y → y < k → lcA G ax y → ∀ a b, nfs G y a → nfs G y b → a = b) (fun z => (30000 - z.1).toNat) (fun e => ∃ M3, mfr (fun b => b = 62) m26 M1 M3 ∧ ((e = .inl M3 ∧ ¬ conf G ax) ∨ (e = .inr M3 ∧ conf G ax))) ⟨0, rfl, by omega, f1, fun y hy => Or.inl (f2 y hy), fun y hy h => by have := hy.1; omega⟩ (by show (30000 - (0 : Int)).toNat < zN; decide) ?_ ?_
  · rintro ⟨v1, M3⟩ ⟨k, i1, i2, i3, i4, i5⟩
    dsimp only at i1 i2 i3 i4 i5 ⊢
    subst i1
    have hst := h5.scr (hA62 i3)
    unfold F_X11_isConfluent_B50
    refine Ok.ite (fun q => ?_) (fun q => Ok.ret ⟨M3, i3, Or.inr ⟨rfl, fun y hy => i5 y (lc_wd hG h.2.1 hy).1 (by have := (lc_wd hG h.2.1 hy).1.2; omega) hy⟩⟩)
    have hk : wd k := ⟨by omega, q⟩
    have e58 : M3 58 = M1 58 := i3.1 58 (by decide) (by decide) (by decide) (by decide)
    have go : ∀ M6 : zM, mfr (fun b => b = 62) m26 M1 M6 → (∀ y, wd y → M6 62 y = -1 ∨ ofm G y (M6 62 y)) → (lcA G ax k → ∀ a b, nfs G k a → nfs G k b → a = b) → Ok (F_X11_isConfluent_J78 k M6) (Turn (fun z : Int × zM => ∃ k : Nat, z.1 = k ∧ k ≤ 29524 ∧ mfr (fun b => b = 62) m26 M1 z.2 ∧ (∀ y, wd y → z.2 62 y = -1 ∨ ofm G y (z.2 62 y)) ∧ ∀ y, wd y → y < k → lcA G ax y → ∀ a b, nfs G y a → nfs G y b → a = b) (fun z => (30000 - z.1).toNat) (fun e : zM ⊕ zM => ∃ M3, mfr (fun b => b = 62) m26 M1 M3 ∧ ((e = .inl M3 ∧ ¬ conf G ax) ∨ (e = .inr M3 ∧ conf G ax))) ((k : Int), M3)) := fun M6 a1 a2 a3 => by
      unfold F_X11_isConfluent_J78
      rw [w_id (a := (k : Int) + 1) (by omega)]
      refine Ok.lett (Ok.ret ⟨⟨k + 1, by show (k : Int) + 1 = _; omega, by omega, a1, a2, fun y hy hlt => ?_⟩, by show (30000 - ((k : Int) + 1)).toNat < (30000 - (k : Int)).toNat; omega⟩)
      by_cases e : y = k
      · rw [e]; exact a3
      · exact i5 y hy (by omega)
    rw [e58]
    refine Ok.chk hk (Ok.ite (fun q1 => go M3 i3 i4 (fun hD => absurd hD (tv_0 (hm.1 k hk) q1))) (fun q1 => ?_))
    have hD := tv_1 (hm.1 k hk) q1
    refine Ok.b2 (FX11_onlyForm hG 40 0 k M3 hst.2.2.2.1 hk (by have := ln_b k; omega) i4) (fun v M6 ⟨b1, b2, b3⟩ => ?_)
    dsimp only at b1 b2 b3
    refine Ok.ite (fun q2 => Ok.ret ⟨M6, i3.trans b3, Or.inl ⟨rfl, fun hc => ?_⟩⟩) (fun q2 => go M6 (i3.trans b3) b2 (fun _ a b ha hb => ?_))
    · rcases b1 with ⟨_, a, b, c1, c2, c3⟩ | ⟨c1, _⟩
      · exact c1 (hc k hD a b c2 c3)
      · have := (c1.wd hG hk).1; omega
    · rcases b1 with ⟨c1, _⟩ | ⟨_, c2⟩
      · exact absurd c1 q2
      · rw [c2 a ha, c2 b hb]
  · rintro e ⟨M3, a1, (⟨rfl, a2⟩ | ⟨rfl, a2⟩)⟩
    · show Ok (F_X11_isConfluent_J76 M3) _
      unfold F_X11_isConfluent_J76
      exact Ok.ret ⟨mfr.trans h3 (hA62 a1), fun _ => ⟨h0 a1, tv_f a2⟩, fun q => absurd hfe q⟩
    · show Ok (F_X11_isConfluent_J84 M3) _
      unfold F_X11_isConfluent_J84
      exact Ok.ret ⟨mfr.trans h3 (hA62 a1), fun _ => ⟨h0 a1, tv_t a2⟩, fun q => absurd hfe q⟩
