/-! PURE 34: the reference's normal forms of a word -/
theorem mred {M : zM} {G : zGr} {x : Int} {r : Nat} {β : Type} {A : Option β} {B k : zM → Option β} {P : β → Prop} (hG : grok G) (hM : gM M G) (hx : wd x) (hr : r < 100 * G.2.2.length) (h1 : ¬ redP G x r → Ok A P) (h2 : ∀ M1, ¬ redP G x r → mfr mA0 (fun k => k = 26) M M1 → Ok (B M1) P) (h3 : ∀ M1, redP G x r → M1 48 26 = redV G x r → mfr mA0 (fun k => k = 26) M M1 → Ok (k M1) P) : Ok (zb1 (F_X11_isPlace (r : Int)) fun r0 => if r0 = 0 then A else zb2 (F_X11_reduces x (zdiv (r : Int) 100) (zrem (zdiv (r : Int) 10) 10) (zrem (r : Int) 10) M) fun r1 M1 => if r1 = 0 then B M1 else k M1) P := by
  have hG3 := hG.2.2.1
  have d1 : zdiv (r : Int) 100 = ((r / 100 : Nat) : Int) := by rw [zdiv_e (by omega) (by omega) (by decide) (by decide)]; omega
  have d3 : zdiv (r : Int) 10 = ((r / 10 : Nat) : Int) := by rw [zdiv_e (by omega) (by omega) (by decide) (by decide)]; omega
  have d4 : zrem ((r / 10 : Nat) : Int) 10 = rs r := by rw [zrem_e (by omega) (by omega) (by decide) (by decide)]; unfold rs; omega
  have d5 : zrem (r : Int) 10 = re r := by rw [zrem_e (by omega) (by omega) (by decide) (by decide)]; unfold re; omega
  unfold F_X11_isPlace
  rw [d1, d3, d4, d5]
  by_cases q : re r < rs r
  · rw [if_pos q]
    simp only [zb1_some]
    refine Ok.pos trivial (h1 (fun h => ?_))
    obtain ⟨_, _, _, _, a, _⟩ := h
    omega
  · rw [if_neg q]
    simp only [zb1_some]
    refine Ok.neg (by decide) (Ok.b2 (FX11_reduces hG hM hx hr (by omega)) (fun v M1 ⟨a1, a2, a3⟩ => ?_))
    dsimp only at a1 a2 a3
    exact Ok.ite (fun c => h2 M1 (tv_0 a1 c) a3) (fun c => h3 M1 (tv_1 a1 c) (a2 (tv_1 a1 c)) a3)
def met (G : zGr) (x y z : Int) : Prop := z = x ∨ ∃ u t, y < u ∧ rdc G x u ∧ redP G u t ∧ redV G u t = z
theorem met_self {G : zGr} (hG : grok G) {x y : Int} (hx : wd x) : met G x y y ↔ rdc G x y := by
  constructor
  · rintro (e | ⟨u, t, _, h1, h2, h3⟩)
    · rw [e]; exact rdc.self
    · rw [← h3]; exact h1.step h2
  · intro h
    rcases h.last with e | ⟨u, t, h1, h2, h3⟩
    · exact Or.inl e
    · have := redV_lt hG (h1.r hG hx).1 h2
      exact Or.inr ⟨u, t, by omega, h1, h2, h3⟩
def mnf (b : Nat) : Prop := b = 61 ∨ b = 62
def m26 (k : Int) : Prop := k = 26
theorem FX11_meet {M : zM} {G : zGr} {x : Int} (hG : grok G) (hM : gM M G) (hx : wd x) : Ok (F_X11_meet x M) (fun M1 => mfr mnf m26 M M1 ∧ ∀ z, wd z → tv (M1 62 z) (nfs G x z)) := by
  have hG3 := hG.2.2.1
  have hx0 := hx.1
  have hx1 := hx.2
  have hfr : ∀ {M3 : zM}, mfr mnf m26 M M3 → gM M3 G := fun h => hM.fr h ⟨by unfold mnf; omega, by unfold mnf; omega, by unfold mnf; omega, by unfold mnf; omega⟩ ⟨by unfold m26; omega, by unfold m26; omega, by unfold m26; omega⟩
  unfold F_X11_meet F_X11_meet_L2
  refine Ok.loop (fun z => ∃ k : Nat, z.1 = k ∧ k ≤ 29524 ∧ mfr mnf m26 M z.2 ∧ ∀ y, wd y → y < k → tv (z.2 61 y) (y = x) ∧ z.2 62 y = 0) (fun z => (30000 - z.1).toNat) (fun M3 => mfr mnf m26 M M3 ∧ ∀ y, wd y → tv (M3 61 y) (y = x) ∧ M3 62 y = 0) ⟨0, rfl, by omega, mfr.refl, fun y hy h => by have := hy.1; omega⟩ (by show (30000 - (0 : Int)).toNat < zN; decide) ?_ ?_
  · rintro ⟨v2, M1⟩ ⟨k, i1, i2, i3, i4⟩
    dsimp only at i1 i2 i3 i4 ⊢
    subst i1
    unfold F_X11_meet_B2
    have go : ∀ v : Int, tv v ((k : Int) = x) → (k : Int) < 29524 → Ok (F_X11_meet_J24 x k k v M1) (Turn (fun z : Int × zM => ∃ k : Nat, z.1 = k ∧ k ≤ 29524 ∧ mfr mnf m26 M z.2 ∧ ∀ y, wd y → y < k → tv (z.2 61 y) (y = x) ∧ z.2 62 y = 0) (fun z => (30000 - z.1).toNat) (fun M3 => mfr mnf m26 M M3 ∧ ∀ y, wd y → tv (M3 61 y) (y = x) ∧ M3 62 y = 0) ((k : Int), M1)) := fun v hv hlt => by
      unfold F_X11_meet_J24
      rw [w_id (a := (k : Int) + 1) (by omega)]
      refine Ok.chk ⟨by omega, hlt⟩ (Ok.chk (tv_b hv) (Ok.lett (Ok.chk ⟨by omega, hlt⟩ (Ok.lett (Ok.lett (Ok.ret ⟨⟨k + 1, by show (k : Int) + 1 = _; omega, by omega, (i3.trans (mfr.cell (Or.inl rfl) (by decide))).trans (mfr.cell (Or.inr rfl) (by decide)), fun y h1 h2 => ?_⟩, by show (30000 - ((k : Int) + 1)).toNat < (30000 - (k : Int)).toNat; omega⟩))))))
      show tv (zs (zs M1 61 k v) 62 k 0 61 y) (y = x) ∧ zs (zs M1 61 k v) 62 k 0 62 y = 0
      rw [zs_ne (a := 62) (b := 61) _ _ _ (by decide)]
      by_cases e : y = k
      · rw [e, zs_at, zs_at]; exact ⟨hv, rfl⟩
      · rw [zs_off _ _ (Or.inr e), zs_off _ _ (Or.inr e), zs_ne (a := 61) (b := 62) _ _ _ (by decide)]
        exact i4 y h1 (by omega)
    refine Ok.ite (fun q => Ok.ite (fun q1 => go 1 (tv_t q1) q) (fun q1 => go 0 (tv_f q1) q)) (fun q => Ok.ret ⟨i3, fun y hy => i4 y hy (by have := hy.2; omega)⟩)
  intro M1 ⟨hf1, hz1⟩
  unfold F_X11_meet_J38 F_X11_meet_L40
  refine Ok.loop (fun z => -1 ≤ z.1 ∧ z.1 ≤ x ∧ mfr mnf m26 M z.2 ∧ (∀ y, wd y → tv (z.2 61 y) (met G x z.1 y)) ∧ ∀ y, wd y → z.1 < y → tv (z.2 62 y) (nfs G x y)) (fun z => (z.1 + 1).toNat) (fun M3 => mfr mnf m26 M M3 ∧ ∀ y, wd y → tv (M3 62 y) (nfs G x y)) ⟨by show -1 ≤ x; omega, Int.le_refl x, hf1, fun y hy => tv_iff (hz1 y hy).1 ⟨fun e => Or.inl e, fun h => ?_⟩, fun y hy hlt => ?_⟩ (by show (x + 1).toNat < zN; have e : (40000 : Nat) ≤ zN := (by decide); omega) ?_ (fun M3 h => by unfold F_X11_meet_J148; exact Ok.ret h)
  · rcases h with e | ⟨u, t, h1, h2, _⟩
    · exact e
    · have := h2.le hG hx
      change x < u at h1
      omega
  · change x < y at hlt
    exact Or.inr ⟨(hz1 y hy).2, fun h => by have := h.1.le hG hx; omega⟩
  rintro ⟨v2, M2⟩ ⟨i1, i2, i3, i4, i5⟩
  dsimp only at i1 i2 i3 i4 i5 ⊢
  unfold F_X11_meet_B40
  refine Ok.ite (fun q => Ok.ret ⟨i3, fun y hy => i5 y hy (by have := hy.1; omega)⟩) (fun q => ?_)
  have hv : wd v2 := ⟨by omega, by omega⟩
  refine Ok.chk hv (Ok.lett ?_)
  unfold F_X11_meet_L54
  have hself : tv (M2 61 v2) (rdc G x v2) := tv_iff (i4 v2 hv) (met_self hG hx)
  refine Ok.loop (fun z => ∃ r : Nat, z.2.1 = r ∧ r ≤ 100 * G.2.2.length ∧ mfr (fun b => b = 61) m26 M2 z.2.2 ∧ (rdc G x v2 → (z.1 = 1 ∧ ∀ t, t < r → ¬ redP G v2 t) ∨ (z.1 = 0 ∧ ∃ t, redP G v2 t)) ∧ (¬ rdc G x v2 → z.1 = 0) ∧ ∀ y, wd y → tv (z.2.2 61 y) (met G x v2 y ∨ (rdc G x v2 ∧ ∃ t, t < r ∧ redP G v2 t ∧ redV G v2 t = y))) (fun z => (1000 - z.2.1).toNat) (fun e => tv e.1 (nfs G x v2) ∧ mfr (fun b => b = 61) m26 M2 e.2 ∧ ∀ y, wd y → tv (e.2 61 y) (met G x (v2 - 1) y)) ⟨0, rfl, by omega, mfr.refl, fun h => ?_, fun h => ?_, fun y hy => tv_iff (i4 y hy) ⟨fun a => Or.inl a, fun a => ?_⟩⟩ (by show (1000 - (0 : Int)).toNat < zN; decide) ?_ ?_
  · exact Or.inl ⟨by rcases hself with a | a; exact a.1; exact absurd h a.2, fun t ht => absurd ht (Nat.not_lt_zero t)⟩
  · rcases hself with a | a
    · exact absurd a.2 h
    · exact a.1
  · rcases a with a | ⟨_, t, ht, _⟩
    · exact a
    · exact absurd ht (Nat.not_lt_zero t)
  · rintro ⟨v3, v4, M5⟩ ⟨r, j1, j2, j3, j4, j5, j6⟩
    dsimp only at j1 j2 j3 j4 j5 j6 ⊢
    subst j1
    have hfr5 : mfr mnf m26 M M5 := i3.trans (j3.mono (fun b q => Or.inl q) (fun _ q => q))
    have gg := hfr hfr5
    have hslf : tv (M5 61 v2) (rdc G x v2) := tv_iff (j6 v2 hv) (by
      rw [met_self hG hx]
      constructor
      · rintro (a | ⟨a, _⟩)
        · exact a
        · exact a
      · exact fun a => Or.inl a)
    have hend : (rdc G x v2 → r = 100 * G.2.2.length) → tv v3 (nfs G x v2) ∧ mfr (fun b => b = 61) m26 M2 M5 ∧ ∀ y, wd y → tv (M5 61 y) (met G x (v2 - 1) y) := fun hr => by
      refine ⟨?_, j3, fun y hy => tv_iff (j6 y hy) ⟨?_, ?_⟩⟩
      · by_cases hD : rdc G x v2
        · rcases j4 hD with ⟨a, b⟩ | ⟨a, t, b⟩
          · exact Or.inl ⟨a, hD, fun t ht => b t (by rw [hr hD]; exact (redV_r hG ht).2.2.2) ht⟩
          · exact Or.inr ⟨a, fun h => h.2 t b⟩
        · exact Or.inr ⟨j5 hD, fun h => hD h.1⟩
      · rintro (a | ⟨a, t, _, b, c⟩)
        · rcases a with a | ⟨u, t, b, c⟩
          · exact Or.inl a
          · exact Or.inr ⟨u, t, by omega, c⟩
        · exact Or.inr ⟨v2, t, by omega, a, b, c⟩
      · rintro (a | ⟨u, t, a, b, c, d⟩)
        · exact Or.inl (Or.inl a)
        · by_cases e : u = v2
          · rw [e] at b c d
            exact Or.inr ⟨b, t, by rw [hr b]; exact (redV_r hG c).2.2.2, c, d⟩
          · exact Or.inl (Or.inr ⟨u, t, by omega, b, c, d⟩)
    unfold F_X11_meet_B54
    rw [gg.1, w_id (a := 100 * (G.2.2.length : Int)) (by omega)]
    refine Ok.ite (fun q1 => Ok.chk hv (Ok.ite (fun q2 => Ok.ret (hend (fun h => absurd h (tv_0 hslf q2)))) (fun q2 => ?_))) (fun q1 => Ok.ret (hend (fun _ => by omega)))
    have hD := tv_1 hslf q2
    have go : ∀ (v : Int) (M6 : zM), mfr (fun b => b = 61) m26 M2 M6 → ((v = 1 ∧ ∀ t, t < r + 1 → ¬ redP G v2 t) ∨ (v = 0 ∧ ∃ t, redP G v2 t)) → (∀ y, wd y → tv (M6 61 y) (met G x v2 y ∨ (rdc G x v2 ∧ ∃ t, t < r + 1 ∧ redP G v2 t ∧ redV G v2 t = y))) → Ok (F_X11_meet_J121 v2 v r M6) (Turn (fun z : Int × Int × zM => ∃ r : Nat, z.2.1 = r ∧ r ≤ 100 * G.2.2.length ∧ mfr (fun b => b = 61) m26 M2 z.2.2 ∧ (rdc G x v2 → (z.1 = 1 ∧ ∀ t, t < r → ¬ redP G v2 t) ∨ (z.1 = 0 ∧ ∃ t, redP G v2 t)) ∧ (¬ rdc G x v2 → z.1 = 0) ∧ ∀ y, wd y → tv (z.2.2 61 y) (met G x v2 y ∨ (rdc G x v2 ∧ ∃ t, t < r ∧ redP G v2 t ∧ redV G v2 t = y))) (fun z => (1000 - z.2.1).toNat) (fun e : Int × zM => tv e.1 (nfs G x v2) ∧ mfr (fun b => b = 61) m26 M2 e.2 ∧ ∀ y, wd y → tv (e.2 61 y) (met G x (v2 - 1) y)) (v3, (r : Int), M5)) := fun v M6 a1 a2 a3 => by
      unfold F_X11_meet_J121
      rw [w_id (a := (r : Int) + 1) (by omega)]
      exact Ok.lett (Ok.ret ⟨⟨r + 1, by show (r : Int) + 1 = _; omega, by omega, a1, fun _ => a2, fun h => absurd hD h, a3⟩, by show (1000 - ((r : Int) + 1)).toNat < (1000 - (r : Int)).toNat; omega⟩)
    have no : ¬ redP G v2 r → ((v3 = 1 ∧ ∀ t, t < r + 1 → ¬ redP G v2 t) ∨ (v3 = 0 ∧ ∃ t, redP G v2 t)) ∧ (∀ y, wd y → tv (M5 61 y) (met G x v2 y ∨ (rdc G x v2 ∧ ∃ t, t < r + 1 ∧ redP G v2 t ∧ redV G v2 t = y))) := fun hn => by
      refine ⟨?_, fun y hy => tv_iff (j6 y hy) ?_⟩
      · rcases j4 hD with ⟨a, b⟩ | a
        · refine Or.inl ⟨a, fun t ht => ?_⟩
          by_cases e : t = r
          · rw [e]; exact hn
          · exact b t (by omega)
        · exact Or.inr a
      · constructor
        · rintro (a | ⟨a, t, b, c⟩)
          · exact Or.inl a
          · exact Or.inr ⟨a, t, by omega, c⟩
        · rintro (a | ⟨a, t, b, c, d⟩)
          · exact Or.inl a
          · refine Or.inr ⟨a, t, ?_, c, d⟩
            by_cases e : t = r
            · rw [e] at c; exact absurd c hn
            · omega
    refine mred hG gg hv (by omega) (fun hn => go v3 M5 j3 (no hn).1 (no hn).2) (fun M6 hn f6 => go v3 M6 (j3.trans (f6.mono (fun _ a => a.elim) (fun _ a => a))) (no hn).1 ?_) (fun M6 hp e26 f6 => ?_)
    · have e61 : M6 61 = M5 61 := f6.1 61 (fun a => a) (by decide) (by decide) (by decide)
      rw [e61]
      exact (no hn).2
    · have hvv := redV_r hG hp
      have e61 : M6 61 = M5 61 := f6.1 61 (fun a => a) (by decide) (by decide) (by decide)
      rw [e26]
      refine Ok.chk hvv.1 (Ok.lett (go 0 _ ((j3.trans (f6.mono (fun _ a => a.elim) (fun _ a => a))).trans (mfr.cell rfl (by decide))) (Or.inr ⟨rfl, r, hp⟩) (fun y hy => ?_)))
      by_cases e : y = redV G v2 r
      · rw [e, zs_at]
        exact Or.inl ⟨rfl, Or.inr ⟨hD, r, by omega, hp, rfl⟩⟩
      · rw [zs_off _ _ (Or.inr e), e61]
        refine tv_iff (j6 y hy) ⟨?_, ?_⟩
        · rintro (a | ⟨a, t, b, c⟩)
          · exact Or.inl a
          · exact Or.inr ⟨a, t, by omega, c⟩
        · rintro (a | ⟨a, t, b, c, d⟩)
          · exact Or.inl a
          · refine Or.inr ⟨a, t, ?_, c, d⟩
            by_cases e2 : t = r
            · rw [e2] at d; exact absurd d.symm e
            · omega
  · rintro ⟨v3, M5⟩ ⟨e1, e2, e3⟩
    dsimp only at e1 e2 e3 ⊢
    have e62 : M5 62 = M2 62 := e2.1 62 (by decide) (by decide) (by decide) (by decide)
    have go : ∀ v : Int, tv v (nfs G x v2) → Ok (F_X11_meet_J141 v2 v2 v M5) (Turn (fun z : Int × zM => -1 ≤ z.1 ∧ z.1 ≤ x ∧ mfr mnf m26 M z.2 ∧ (∀ y, wd y → tv (z.2 61 y) (met G x z.1 y)) ∧ ∀ y, wd y → z.1 < y → tv (z.2 62 y) (nfs G x y)) (fun z => (z.1 + 1).toNat) (fun M3 => mfr mnf m26 M M3 ∧ ∀ y, wd y → tv (M3 62 y) (nfs G x y)) (v2, M2)) := fun v hvv => by
      unfold F_X11_meet_J141
      rw [w_id (a := v2 + (-1)) (by omega)]
      refine Ok.chk hv (Ok.lett (Ok.lett (Ok.ret ⟨⟨by show -1 ≤ v2 + -1; omega, by show v2 + -1 ≤ x; omega, (i3.trans (e2.mono (fun b q => Or.inl q) (fun _ q => q))).trans (mfr.cell (Or.inr rfl) (by decide)), fun y hy => ?_, fun y hy hlt => ?_⟩, by show (v2 + -1 + 1).toNat < (v2 + 1).toNat; omega⟩)))
      · show tv (zs M5 62 v2 v 61 y) (met G x (v2 - 1) y)
        rw [zs_ne (a := 62) (b := 61) _ _ _ (by decide)]
        exact e3 y hy
      · change v2 + -1 < y at hlt
        show tv (zs M5 62 v2 v 62 y) (nfs G x y)
        by_cases e : y = v2
        · rw [e, zs_at]; exact hvv
        · rw [zs_off _ _ (Or.inr e), e62]; exact i5 y hy (by omega)
    unfold F_X11_meet_J127
    exact Ok.ite (fun c => go 0 (tv_f (tv_0 e1 c))) (fun c => go 1 (tv_t (tv_1 e1 c)))
