/-! PURE 9: the class's insertions and reductions as lists -/
def rowA (S : zS) (a : Nat) : Prop := zkd S a = 20 ∧ zlen S a = 225 ∧ a ≤ 89 ∧ a ≠ 5
def lstJ (P : Nat → Prop) (g : Nat → Int) (a : Nat) (S : zS) (M : zM) (R : Nat) (k : Int) (M1 : zM) : Prop := k = ((frl P R).length : Int) ∧ rowl (M1 a) ((frl P R).map g) ∧ cfr (fun b => b = a) S M M1
theorem lstJ.skip {P : Nat → Prop} {g : Nat → Int} {a : Nat} {S : zS} {M M1 : zM} {R R2 : Nat} {k : Int} (h : lstJ P g a S M R k M1) (hR : R ≤ R2) (hP : ∀ r, R ≤ r → r < R2 → ¬ P r) : lstJ P g a S M R2 k M1 := by
  unfold lstJ at *
  rw [frl_skip hR hP]
  exact h
theorem lstJ.step {P : Nat → Prop} {g : Nat → Int} {a : Nat} {S : zS} {M M1 M2 : zM} {R : Nat} {k : Int} (h : lstJ P g a S M R k M1) (ha : a ≤ 89) (hf : cfr (fun _ => False) S M1 M2) : lstJ P g a S M R k M2 := by
  obtain ⟨h1, h2, h3⟩ := h
  exact ⟨h1, by rw [hf.1 a (fun q => q) (Or.inl ha)]; exact h2, h3.trans (hf.mono (fun _ q => q.elim))⟩
theorem lstJ.put {P : Nat → Prop} {g : Nat → Int} {a : Nat} {S : zS} {M M1 : zM} {R : Nat} {k : Int} (h : lstJ P g a S M R k M1) (ha : a ≤ 89) (hP : P R) : lstJ P g a S M (R + 1) (k + 1) (zs M1 a k (g R)) := by
  obtain ⟨h1, h2, h3⟩ := h
  refine ⟨?_, ?_, h3.trans (cfr.zs rfl ha)⟩
  · rw [frl_t hP, List.length_append, h1]; simp
  · rw [frl_t hP, List.map_append, zs_eq]
    exact rowl_push h2 (by rw [h1, List.length_map])
theorem rs_e {c s e : Nat} (hs : s ≤ 9) (he : e ≤ 9) : rs (100 * c + 10 * s + e) = s ∧ re (100 * c + 10 * s + e) = e ∧ (100 * c + 10 * s + e) / 100 = c := by
  unfold rs re
  refine ⟨?_, ?_, ?_⟩ <;> omega
noncomputable def insL (G : zGr) (x : Int) : List Nat := frl (insP G x) (100 * G.2.2.length)
theorem FX2_findInsertions {M : zM} {S : zS} {G : zGr} {x : Int} {a : Nat} (hG : grok G) (hC : gC M S G) (hx : wd x) (ha : rowA S a) : Ok (F_X2_findInsertions x a M S) (fun r => r.1 = ((insL G x).length : Int) ∧ rowl (r.2 a) ((insL G x).map (fun r => mvc (insV G x r) r)) ∧ cfr (fun b => b = a) S M r.2) := by
  have hb := ln_b x
  obtain ⟨hG1, hG2, hG3, hG4⟩ := id hG
  obtain ⟨ha1, ha2, ha3, ha4⟩ := ha
  obtain ⟨c3, c4, c5, cc⟩ := id hC
  have hP8 := insP_8 hG (x := x)
  unfold F_X2_findInsertions
  rw [FX9_length hx]
  simp only [zb1_some]
  unfold F_X2_findInsertions_L11
  have e5 : ∀ {M1 : zM}, cfr (fun b => b = a) S M M1 → M1 5 = M 5 := fun h => h.1 5 (fun q => ha4 q.symm) (Or.inl (by decide))
  have nx : ∃ n : Nat, ln x = n ∧ n ≤ 9 := ⟨(ln x).toNat, by omega, by omega⟩
  obtain ⟨n, hn, hn9⟩ := nx
  refine Ok.loop (fun z => ∃ c : Nat, z.2.1 = c ∧ c ≤ G.2.2.length ∧ lstJ (insP G x) (fun r => mvc (insV G x r) r) a S M (100 * c) z.1 z.2.2) (fun z => (10 - z.2.1).toNat) (fun e => lstJ (insP G x) (fun r => mvc (insV G x r) r) a S M (100 * G.2.2.length) e.1 e.2) ⟨0, rfl, by omega, rfl, rowl_nil _, cfr.refl⟩ (by show (10 - (0 : Int)).toNat < zN; decide) ?_ (fun e he => Ok.ret he)
  rintro ⟨k, v5, M1⟩ ⟨c, j1, j2, j3⟩
  dsimp only at j1 j2 j3 ⊢
  subst j1
  have hf1 := j3.2.2
  -- the next context
  have nxt : ∀ (k2 : Int) (M2 : zM), c < G.2.2.length → lstJ (insP G x) (fun r => mvc (insV G x r) r) a S M (100 * (c + 1)) k2 M2 → Ok (F_X2_findInsertions_J128 x a (ln x) k2 c M2 S) (Turn (fun z : Int × Int × zM => ∃ c : Nat, z.2.1 = c ∧ c ≤ G.2.2.length ∧ lstJ (insP G x) (fun r => mvc (insV G x r) r) a S M (100 * c) z.1 z.2.2) (fun z => (10 - z.2.1).toNat) (fun e => lstJ (insP G x) (fun r => mvc (insV G x r) r) a S M (100 * G.2.2.length) e.1 e.2) (k, (c : Int), M1)) := fun k2 M2 hc hJ => by
    unfold F_X2_findInsertions_J128
    refine Ok.lett (Ok.ret ?_)
    rw [w_id (a := (c : Int) + 1) (by omega)]
    exact ⟨⟨c + 1, by show (c : Int) + 1 = _; omega, by omega, hJ⟩, by show (10 - ((c : Int) + 1)).toNat < (10 - (c : Int)).toNat; omega⟩
  unfold F_X2_findInsertions_B11
  rw [e5 hf1, c3, c5]
  refine Ok.ite (fun q => ?_) (fun q => Ok.ret (by have e : c = G.2.2.length := by omega
                                                   rw [e] at j3; exact j3))
  have hc : c < G.2.2.length := by omega
  have hget : G.2.2[c]? = some G.2.2[c] := List.getElem?_eq_getElem hc
  obtain ⟨L, R, pr, hLR⟩ : ∃ L R pr, G.2.2[c] = (L, R, pr) := ⟨_, _, _, rfl⟩
  rw [hLR] at hget
  have hcx := hG4 _ (List.mem_of_getElem? hget)
  have hL := ln_cx hcx.1
  have hR := ln_cx0 hcx.2.1
  have hok : ∀ {M2 : zM}, cfr (fun b => b = a) S M M2 → ctxok M2 S (zrf S 7 c) L R pr := fun h => h.2 _ _ _ _ (cc c L R pr hget)
  have hS0 := (hok hf1).1
  dsimp only at hL hR
  rw [FX2_context (by omega)]
  simp only [zb1_some]
  refine Ok.neg (by have := hS0.1; omega) (Ok.chk hS0.2.1 ?_)
  rw [FX0_growth (hok hf1)]
  simp only [zb1_some]
  rw [w_id (a := ln x + (ln L + ln R)) (by omega)]
  -- what an insertion of this context is
  have hins : ∀ s e : Nat, s ≤ 9 → e ≤ 9 → (insP G x (100 * c + 10 * s + e) ↔ (s ≤ e ∧ e ≤ n ∧ ln x + ln L + ln R ≤ G.1 ∧ sel G.2.1 pr x s e)) := by
    intro s e hs he
    obtain ⟨r1, r2, r3⟩ := rs_e (c := c) hs he
    unfold insP
    rw [r1, r2, r3, hget]
    constructor
    · rintro ⟨L2, R2, pr2, q1, q2, q3, q4, q5⟩
      cases q1
      exact ⟨by omega, by omega, q4, q5⟩
    · rintro ⟨q2, q3, q4, q5⟩
      exact ⟨L, R, pr, rfl, by omega, by omega, q4, q5⟩
  have hdec : ∀ r : Nat, 100 * c ≤ r → r < 100 * (c + 1) → ∃ s e : Nat, s ≤ 9 ∧ e ≤ 9 ∧ r = 100 * c + 10 * s + e := fun r h1 h2 => ⟨r / 10 % 10, r % 10, by omega, by omega, by omega⟩
  refine Ok.ite (fun q1 => nxt k M1 hc (j3.skip (by omega) (fun r h1 h2 hp => ?_))) (fun q1 => ?_)
  · obtain ⟨s, e, hs, he, rfl⟩ := hdec r h1 h2
    have := ((hins s e hs he).mp hp).2.2.1
    omega
  have hroom : ln x + ln L + ln R ≤ G.1 := by omega
  unfold F_X2_findInsertions_L53
  refine Ok.loop (fun z => ∃ s : Nat, z.2.1 = s ∧ s ≤ n + 1 ∧ lstJ (insP G x) (fun r => mvc (insV G x r) r) a S M (100 * c + 10 * s) z.1 z.2.2) (fun z => (20 - z.2.1).toNat) (fun e => lstJ (insP G x) (fun r => mvc (insV G x r) r) a S M (100 * (c + 1)) e.1 e.2) ⟨0, rfl, by omega, j3⟩ (by show (20 - (0 : Int)).toNat < zN; decide) ?_ (fun e he => nxt e.1 e.2 hc he)
  rintro ⟨k2, v7, M2⟩ ⟨s, s1, s2, s3⟩
  dsimp only at s1 s2 s3 ⊢
  subst s1
  unfold F_X2_findInsertions_B53
  refine Ok.ite (fun q2 => Ok.ret ?_) (fun q2 => ?_)
  · refine s3.skip (by omega) (fun r h1 h2 hp => ?_)
    obtain ⟨s', e', hs, he, rfl⟩ := hdec r (by omega) h2
    have := (hins s' e' hs he).mp hp
    omega
  unfold F_X2_findInsertions_L63
  refine Ok.loop (fun z => ∃ e : Nat, z.2.1 = e ∧ s ≤ e ∧ e ≤ n + 1 ∧ lstJ (insP G x) (fun r => mvc (insV G x r) r) a S M (100 * c + 10 * s + e) z.1 z.2.2) (fun z => (20 - z.2.1).toNat) (fun e => lstJ (insP G x) (fun r => mvc (insV G x r) r) a S M (100 * c + 10 * (s + 1)) e.1 e.2) ⟨s, rfl, Nat.le_refl _, by omega, s3.skip (by omega) (fun r h1 h2 hp => ?_)⟩ (by show (20 - (s : Int)).toNat < zN; rw [zN_v]; omega) ?_ ?_
  · obtain ⟨s', e', hs, he, rfl⟩ := hdec r (by omega) (by omega)
    have := (hins s' e' hs he).mp hp
    omega
  · rintro ⟨k3, v8, M3⟩ ⟨e, t1, t2, t3, t4⟩
    dsimp only at t1 t2 t3 t4 ⊢
    subst t1
    have hf3 := t4.2.2
    unfold F_X2_findInsertions_B63
    refine Ok.ite (fun q3 => Ok.ret ?_) (fun q3 => ?_)
    · refine t4.skip (by omega) (fun r h1 h2 hp => ?_)
      obtain ⟨s', e', hs, he, rfl⟩ := hdec r (by omega) (by omega)
      have := (hins s' e' hs he).mp hp
      omega
    have he9 : e ≤ 8 := by omega
    have hin := hins s e (by omega) (by omega)
    rw [e5 hf3, c4]
    have go : ∀ (k4 : Int) (M4 : zM), lstJ (insP G x) (fun r => mvc (insV G x r) r) a S M (100 * c + 10 * s + (e + 1)) k4 M4 → Ok (F_X2_findInsertions_J116 x a (ln x) k4 c (zrf S 7 c) s e M4 S) (Turn (fun z : Int × Int × zM => ∃ e : Nat, z.2.1 = e ∧ s ≤ e ∧ e ≤ n + 1 ∧ lstJ (insP G x) (fun r => mvc (insV G x r) r) a S M (100 * c + 10 * s + e) z.1 z.2.2) (fun z => (20 - z.2.1).toNat) (fun e : Int × zM => lstJ (insP G x) (fun r => mvc (insV G x r) r) a S M (100 * c + 10 * (s + 1)) e.1 e.2) (k3, (e : Int), M3)) := fun k4 M4 hJ => by
      unfold F_X2_findInsertions_J116
      refine Ok.lett (Ok.ret ?_)
      rw [w_id (a := (e : Int) + 1) (by omega)]
      exact ⟨⟨e + 1, by show (e : Int) + 1 = _; omega, by omega, by omega, hJ⟩, by show (20 - ((e : Int) + 1)).toNat < (20 - (e : Int)).toNat; omega⟩
    refine Ok.chk hS0.2.1 (Ok.b2 (FX0_selects (A := fun _ => False) hG2 hx (hok hf3) (by omega) (by omega) (by omega)) (fun r M4 hr => ?_))
    obtain ⟨hr, hf⟩ := hr
    dsimp only at hr hf
    have t5 := t4.step ha3 hf
    refine Ok.ite (fun q4 => go k3 M4 (t5.skip (by omega) (fun r h1 h2 hp => ?_))) (fun q4 => ?_)
    · have e1 : r = 100 * c + 10 * s + e := by omega
      rw [e1] at hp
      exact tv_0 hr q4 (hin.mp hp).2.2.2
    · have hp : insP G x (100 * c + 10 * s + e) := hin.mpr ⟨t2, by omega, hroom, tv_1 hr q4⟩
      have hlt := frl_lt hP8 (show 100 * c + 10 * s + e < 500 by omega) hp
      obtain ⟨r1, r2, r3⟩ := rs_e (c := c) (s := s) (e := e) (by omega) (by omega)
      have hk := t4.1
      have hi := insw_r (x := x) (L := L) (R := R) (s := s) (e := e) hx ⟨by have hq : 1 ≤ L ∧ L < 40 := hcx.1; omega, by have hq : 1 ≤ L ∧ L < 40 := hcx.1; omega⟩ ⟨by have hq : 0 ≤ R ∧ R < 40 := hcx.2.1; omega, by have hq : 0 ≤ R ∧ R < 40 := hcx.2.1; omega⟩ (by omega) (by omega) (by omega) (by omega)
      refine Ok.chk hS0.2.1 ?_
      rw [FX0_putAround (hok (t4.2.2.trans (hf.mono (fun _ q => q.elim)))) hx (by omega) (by omega) (by omega) (by omega)]
      simp only [zb1_some]
      have hmv := FX4_of_r (r := 100 * c + 10 * s + e) hi.2 (by omega)
      rw [r1, r2, r3] at hmv
      rw [hmv]
      simp only [zb1_some]
      rw [FX6_put ha1 (by omega) (by rw [ha2]; omega)]
      simp only [zb1_some, zlet_eq]
      rw [w_id (a := k3 + 1) (by omega)]
      have := t5.put ha3 hp
      have hv : insV G x (100 * c + 10 * s + e) = insw x L R s e := by
        unfold insV
        rw [cxg_e (by rw [r3]; exact hget), r1, r2]
      rw [hv] at this
      exact go (k3 + 1) _ this
  · rintro ⟨k3, M3⟩ h3
    unfold F_X2_findInsertions_J122
    refine Ok.lett (Ok.ret ?_)
    rw [w_id (a := (s : Int) + 1) (by omega)]
    exact ⟨⟨s + 1, by show (s : Int) + 1 = _; omega, by omega, h3⟩, by show (20 - ((s : Int) + 1)).toNat < (20 - (s : Int)).toNat; omega⟩
noncomputable def redL (G : zGr) (x : Int) : List Nat := frl (redP G x) (100 * G.2.2.length)
theorem FX2_findReductions {M : zM} {S : zS} {G : zGr} {x : Int} {a : Nat} (hG : grok G) (hC : gC M S G) (hx : wd x) (ha : rowA S a) : Ok (F_X2_findReductions x a M S) (fun r => r.1 = ((redL G x).length : Int) ∧ rowl (r.2 a) ((redL G x).map (fun r => mvc (redV G x r) r)) ∧ cfr (fun b => b = a) S M r.2) := by
  have hb := ln_b x
  obtain ⟨hG1, hG2, hG3, hG4⟩ := id hG
  obtain ⟨ha1, ha2, ha3, ha4⟩ := ha
  obtain ⟨c3, c4, c5, cc⟩ := id hC
  have hP8 := redP_8 hG (x := x)
  unfold F_X2_findReductions
  rw [FX9_length hx]
  simp only [zb1_some]
  unfold F_X2_findReductions_L11
  have e5 : ∀ {M1 : zM}, cfr (fun b => b = a) S M M1 → M1 5 = M 5 := fun h => h.1 5 (fun q => ha4 q.symm) (Or.inl (by decide))
  refine Ok.loop (fun z => ∃ c : Nat, z.2.1 = c ∧ c ≤ G.2.2.length ∧ lstJ (redP G x) (fun r => mvc (redV G x r) r) a S M (100 * c) z.1 z.2.2) (fun z => (10 - z.2.1).toNat) (fun e => lstJ (redP G x) (fun r => mvc (redV G x r) r) a S M (100 * G.2.2.length) e.1 e.2) ⟨0, rfl, by omega, rfl, rowl_nil _, cfr.refl⟩ (by show (10 - (0 : Int)).toNat < zN; decide) ?_ (fun e he => Ok.ret he)
  rintro ⟨k, v5, M1⟩ ⟨c, j1, j2, j3⟩
  dsimp only at j1 j2 j3 ⊢
  subst j1
  have hf1 := j3.2.2
  have nxt : ∀ (k2 : Int) (M2 : zM), c < G.2.2.length → lstJ (redP G x) (fun r => mvc (redV G x r) r) a S M (100 * (c + 1)) k2 M2 → Ok (F_X2_findReductions_J159 x a (ln x) k2 c M2 S) (Turn (fun z : Int × Int × zM => ∃ c : Nat, z.2.1 = c ∧ c ≤ G.2.2.length ∧ lstJ (redP G x) (fun r => mvc (redV G x r) r) a S M (100 * c) z.1 z.2.2) (fun z => (10 - z.2.1).toNat) (fun e => lstJ (redP G x) (fun r => mvc (redV G x r) r) a S M (100 * G.2.2.length) e.1 e.2) (k, (c : Int), M1)) := fun k2 M2 hc hJ => by
    unfold F_X2_findReductions_J159
    refine Ok.lett (Ok.ret ?_)
    rw [w_id (a := (c : Int) + 1) (by omega)]
    exact ⟨⟨c + 1, by show (c : Int) + 1 = _; omega, by omega, hJ⟩, by show (10 - ((c : Int) + 1)).toNat < (10 - (c : Int)).toNat; omega⟩
  unfold F_X2_findReductions_B11
  rw [e5 hf1, c3, c5]
  refine Ok.ite (fun q => ?_) (fun q => Ok.ret (by have e : c = G.2.2.length := by omega
                                                   rw [e] at j3; exact j3))
  refine Ok.ite (fun q0 => Ok.ret (j3.skip (by omega) (fun r _ _ hp => ?_))) (fun q0 => ?_)
  · obtain ⟨L, R, pr, _, _, _, h4, _⟩ := hp
    omega
  have hc : c < G.2.2.length := by omega
  have hget : G.2.2[c]? = some G.2.2[c] := List.getElem?_eq_getElem hc
  obtain ⟨L, R, pr, hLR⟩ : ∃ L R pr, G.2.2[c] = (L, R, pr) := ⟨_, _, _, rfl⟩
  rw [hLR] at hget
  have hcx := hG4 _ (List.mem_of_getElem? hget)
  have hL := ln_cx hcx.1
  have hR := ln_cx0 hcx.2.1
  have hok : ∀ {M2 : zM}, cfr (fun b => b = a) S M M2 → ctxok M2 S (zrf S 7 c) L R pr := fun h => h.2 _ _ _ _ (cc c L R pr hget)
  have hS0 := (hok hf1).1
  dsimp only at hL hR
  rw [FX2_context (by omega)]
  simp only [zb1_some]
  refine Ok.neg (by have := hS0.1; omega) (Ok.chk hS0.2.1 ?_)
  rw [FX0_growth (hok hf1)]
  simp only [zb1_some, zlet_eq]
  rw [w_id (a := ln x - (ln L + ln R)) (by omega)]
  have hred : ∀ s e : Nat, s ≤ 9 → e ≤ 9 → (redP G x (100 * c + 10 * s + e) ↔ (s ≤ e ∧ (e : Int) + ln L + ln R ≤ ln x ∧ fa x s (s + ln L) = L ∧ fa x (e + ln L) (e + ln L + ln R) = R ∧ sel G.2.1 pr (tkw x L R s e) s e)) := by
    intro s e hs he
    obtain ⟨r1, r2, r3⟩ := rs_e (c := c) hs he
    unfold redP
    rw [r1, r2, r3, hget]
    constructor
    · rintro ⟨L2, R2, pr2, q1, q2, q3, q4, q5⟩
      cases q1
      exact ⟨by omega, q3, q5⟩
    · rintro ⟨q2, q3, q5⟩
      exact ⟨L, R, pr, rfl, by omega, q3, by omega, q5⟩
  have hdec : ∀ r : Nat, 100 * c ≤ r → r < 100 * (c + 1) → ∃ s e : Nat, s ≤ 9 ∧ e ≤ 9 ∧ r = 100 * c + 10 * s + e := fun r h1 h2 => ⟨r / 10 % 10, r % 10, by omega, by omega, by omega⟩
  unfold F_X2_findReductions_L56
  refine Ok.loop (fun z => ∃ s : Nat, z.2.1 = s ∧ s ≤ 10 ∧ lstJ (redP G x) (fun r => mvc (redV G x r) r) a S M (100 * c + 10 * s) z.1 z.2.2) (fun z => (20 - z.2.1).toNat) (fun e => lstJ (redP G x) (fun r => mvc (redV G x r) r) a S M (100 * (c + 1)) e.1 e.2) ⟨0, rfl, by omega, j3⟩ (by show (20 - (0 : Int)).toNat < zN; decide) ?_ (fun e he => nxt e.1 e.2 hc he)
  rintro ⟨k2, v8, M2⟩ ⟨s, s1, s2, s3⟩
  dsimp only at s1 s2 s3 ⊢
  subst s1
  have hf2 := s3.2.2
  unfold F_X2_findReductions_B56
  refine Ok.ite (fun q2 => Ok.ret ?_) (fun q2 => ?_)
  · refine s3.skip (by omega) (fun r h1 h2 hp => ?_)
    obtain ⟨s', e', hs, he, rfl⟩ := hdec r (by omega) h2
    have := (hred s' e' hs he).mp hp
    omega
  -- the next place
  have nxs : ∀ (k3 : Int) (M3 : zM), lstJ (redP G x) (fun r => mvc (redV G x r) r) a S M (100 * c + 10 * (s + 1)) k3 M3 → Ok (F_X2_findReductions_J153 x a (ln x) k3 c (zrf S 7 c) (ln x - (ln L + ln R)) s M3 S) (Turn (fun z : Int × Int × zM => ∃ s : Nat, z.2.1 = s ∧ s ≤ 10 ∧ lstJ (redP G x) (fun r => mvc (redV G x r) r) a S M (100 * c + 10 * s) z.1 z.2.2) (fun z => (20 - z.2.1).toNat) (fun e : Int × zM => lstJ (redP G x) (fun r => mvc (redV G x r) r) a S M (100 * (c + 1)) e.1 e.2) (k2, (s : Int), M2)) := fun k3 M3 hJ => by
    unfold F_X2_findReductions_J153
    refine Ok.lett (Ok.ret ?_)
    rw [w_id (a := (s : Int) + 1) (by omega)]
    exact ⟨⟨s + 1, by show (s : Int) + 1 = _; omega, by omega, hJ⟩, by show (20 - ((s : Int) + 1)).toNat < (20 - (s : Int)).toNat; omega⟩
  refine Ok.chk hS0.2.1 (Ok.b1 (FX0_leftStandsAt (hok hf2) hx (by omega) (by omega)) (fun r hr => ?_))
  refine Ok.ite (fun q3 => nxs k2 M2 (s3.skip (by omega) (fun r h1 h2 hp => ?_))) (fun q3 => ?_)
  · obtain ⟨s', e', hs, he, rfl⟩ := hdec r (by omega) (by omega)
    have h := (hred s' e' hs he).mp hp
    have : s' = s := by omega
    subst this
    exact tv_0 hr q3 h.2.2.1
  have hleft := tv_1 hr q3
  unfold F_X2_findReductions_L82
  refine Ok.loop (fun z => ∃ e : Nat, z.2.1 = e ∧ s ≤ e ∧ e ≤ 10 ∧ lstJ (redP G x) (fun r => mvc (redV G x r) r) a S M (100 * c + 10 * s + e) z.1 z.2.2) (fun z => (20 - z.2.1).toNat) (fun e => lstJ (redP G x) (fun r => mvc (redV G x r) r) a S M (100 * c + 10 * (s + 1)) e.1 e.2) ⟨s, rfl, Nat.le_refl _, s2, s3.skip (by omega) (fun r h1 h2 hp => ?_)⟩ (by show (20 - (s : Int)).toNat < zN; rw [zN_v]; omega) ?_ (fun e he => nxs e.1 e.2 he)
  · obtain ⟨s', e', hs, he, rfl⟩ := hdec r (by omega) (by omega)
    have := (hred s' e' hs he).mp hp
    omega
  · rintro ⟨k3, v9, M3⟩ ⟨e, t1, t2, t3, t4⟩
    dsimp only at t1 t2 t3 t4 ⊢
    subst t1
    have hf3 := t4.2.2
    unfold F_X2_findReductions_B82
    refine Ok.ite (fun q3 => Ok.ret ?_) (fun q3 => ?_)
    · refine t4.skip (by omega) (fun r h1 h2 hp => ?_)
      obtain ⟨s', e', hs, he, rfl⟩ := hdec r (by omega) (by omega)
      have := (hred s' e' hs he).mp hp
      omega
    have hin := hred s e (by omega) (by omega)
    rw [e5 hf3, c4]
    have go : ∀ (k4 : Int) (M4 : zM), lstJ (redP G x) (fun r => mvc (redV G x r) r) a S M (100 * c + 10 * s + (e + 1)) k4 M4 → Ok (F_X2_findReductions_J147 x a (ln x) k4 c (zrf S 7 c) (ln x - (ln L + ln R)) s e M4 S) (Turn (fun z : Int × Int × zM => ∃ e : Nat, z.2.1 = e ∧ s ≤ e ∧ e ≤ 10 ∧ lstJ (redP G x) (fun r => mvc (redV G x r) r) a S M (100 * c + 10 * s + e) z.1 z.2.2) (fun z => (20 - z.2.1).toNat) (fun e : Int × zM => lstJ (redP G x) (fun r => mvc (redV G x r) r) a S M (100 * c + 10 * (s + 1)) e.1 e.2) (k3, (e : Int), M3)) := fun k4 M4 hJ => by
      unfold F_X2_findReductions_J147
      refine Ok.lett (Ok.ret ?_)
      rw [w_id (a := (e : Int) + 1) (by omega)]
      exact ⟨⟨e + 1, by show (e : Int) + 1 = _; omega, by omega, by omega, hJ⟩, by show (20 - ((e : Int) + 1)).toNat < (20 - (e : Int)).toNat; omega⟩
    have no : ∀ (k4 : Int) (M4 : zM), lstJ (redP G x) (fun r => mvc (redV G x r) r) a S M (100 * c + 10 * s + e) k4 M4 → ¬ redP G x (100 * c + 10 * s + e) → lstJ (redP G x) (fun r => mvc (redV G x r) r) a S M (100 * c + 10 * s + (e + 1)) k4 M4 := fun k4 M4 h hnp => h.skip (by omega) (fun r h1 h2 hp => by
      have e1 : r = 100 * c + 10 * s + e := by omega
      rw [e1] at hp
      exact hnp hp)
    refine Ok.chk hS0.2.1 ?_
    rw [FX0_takeAway (hok hf3) hx (by omega) (by omega) (by omega)]
    simp only [zb1_some]
    obtain ⟨hl1, hl2⟩ := tkw_r (x := x) (L := L) (R := R) (s := s) (e := e) (by omega) (by omega) (by omega) (by omega) (by omega)
    by_cases hright : fa x (e + ln L) (e + ln L + ln R) = R
    · rw [if_pos hright]
      refine Ok.neg (by have := hl2.1; omega) (Ok.chk hS0.2.1 ?_)
      rw [show ln x - (ln L + ln R) = ln (tkw x L R s e) by omega]
      refine Ok.b2 (FX0_selects (A := fun _ => False) hG2 hl2 (hok hf3) (by omega) (by omega) (by omega)) (fun r M4 hr => ?_)
      rw [show ln (tkw x L R s e) = ln x - (ln L + ln R) by omega]
      obtain ⟨hr, hf⟩ := hr
      dsimp only at hr hf
      have t5 := t4.step ha3 hf
      refine Ok.ite (fun q4 => go k3 M4 (no _ _ t5 (fun hp => tv_0 hr q4 (hin.mp hp).2.2.2.2))) (fun q4 => ?_)
      have hp : redP G x (100 * c + 10 * s + e) := hin.mpr ⟨t2, by omega, hleft, hright, tv_1 hr q4⟩
      have hlt := frl_lt hP8 (show 100 * c + 10 * s + e < 500 by omega) hp
      obtain ⟨r1, r2, r3⟩ := rs_e (c := c) (s := s) (e := e) (by omega) (by omega)
      have hk := t4.1
      have hmv := FX4_of_r (r := 100 * c + 10 * s + e) hl2 (by omega)
      rw [r1, r2, r3] at hmv
      rw [hmv]
      simp only [zb1_some]
      rw [FX6_put ha1 (by omega) (by rw [ha2]; omega)]
      simp only [zb1_some, zlet_eq]
      rw [w_id (a := k3 + 1) (by omega)]
      have := t5.put ha3 hp
      have hv : redV G x (100 * c + 10 * s + e) = tkw x L R s e := by
        unfold redV
        rw [cxg_e (by rw [r3]; exact hget), r1, r2]
      rw [hv] at this
      exact go (k3 + 1) _ this
    · rw [if_neg hright]
      exact Ok.pos (by decide) (go k3 M3 (no _ _ t4 (fun hp => hright (hin.mp hp).2.2.2.1)))
