/-! PURE 7: the class: contexts, their memory of what was asked -/
theorem FX6_at {M : zM} {S : zS} {a : Nat} {i : Int} (hk : zkd S a = 20) (h0 : 0 ≤ i) (h1 : i < zlen S a) : F_X6_at a i M S = some (M a i) := by
  unfold F_X6_at
  rw [if_neg (by omega), zchk_pos hk, if_pos h1, zchk_pos hk, zchk_pos ⟨h0, h1⟩]
theorem FX6_put {M : zM} {S : zS} {a : Nat} {i v : Int} (hk : zkd S a = 20) (h0 : 0 ≤ i) (h1 : i < zlen S a) : F_X6_put a i v M S = some (zs M a i v) := by
  unfold F_X6_put
  rw [if_neg (by omega), zchk_pos hk, if_pos h1, zchk_pos hk, zchk_pos ⟨h0, h1⟩]
  rfl
theorem FX6_put_out {M : zM} {S : zS} {a : Nat} {i v : Int} (hk : zkd S a = 20) (h : i < 0 ∨ zlen S a ≤ i) : F_X6_put a i v M S = some M := by
  unfold F_X6_put
  by_cases h0 : i < 0
  · rw [if_pos h0]
  · rw [if_neg h0, zchk_pos hk, if_neg (by omega)]
theorem FX6_at_ {M : zM} {S : zS} {a : Nat} {i : Int} (hk : zkd S a = 21) (h0 : 0 ≤ i) (h1 : i < zlen S a) : F_X6_at_ a i M S = some (M a i) := by
  unfold F_X6_at_
  rw [if_neg (by omega), zchk_pos hk, if_pos h1, zchk_pos hk, zchk_pos ⟨h0, h1⟩]
theorem FX6_put_ {M : zM} {S : zS} {a : Nat} {i v : Int} (hk : zkd S a = 21) (h0 : 0 ≤ i) (h1 : i < zlen S a) : F_X6_put_ a i v M S = some (zs M a i v) := by
  unfold F_X6_put_
  rw [if_neg (by omega), zchk_pos hk, if_pos h1, zchk_pos hk, zchk_pos ⟨h0, h1⟩]
  rfl
/-- a context's cells -/
def ctxS (S : zS) (p : Nat) : Prop := 89 < p ∧ zkd S p = 0 ∧ zkd S (p + 1) = 5 ∧ zkd S (p + 2) = 20 ∧ zkd S (p + 3) = 21 ∧ zkd S (p + 4) = 21 ∧ zlen S (p + 3) = 462 ∧ zlen S (p + 4) = 462 ∧ zrf S p 4 = p + 1 ∧ zrf S (p + 1) 0 = p + 2 ∧ zrf S (p + 1) 1 = p + 3 ∧ zrf S (p + 1) 2 = p + 4
def cac (M : zM) (p : Nat) (pr : List Int) : Prop := ∀ x : Int, wd x → lb (M (p + 4) (x / 64)) (x % 64).toNat = (lb (M (p + 3) (x / 64)) (x % 64).toNat && ful pr x)
def ctxok (M : zM) (S : zS) (p : Nat) (L R : Int) (pr : List Int) : Prop := ctxS S p ∧ prgC M S (p + 2) pr ∧ pwf pr ∧ (M p 0 = L ∧ M p 1 = ln L ∧ M p 2 = R ∧ M p 3 = ln R) ∧ (1 ≤ L ∧ L < 40) ∧ (0 ≤ R ∧ R < 40) ∧ cac M p pr
/-- from M to M1 only the cells of A, and what contexts remember, have changed -/
def cfr (A : Nat → Prop) (S : zS) (M M1 : zM) : Prop := (∀ b, ¬ A b → (b ≤ 89 ∨ zkd S b ≠ 21) → M1 b = M b) ∧ ∀ p L R pr, ctxok M S p L R pr → ctxok M1 S p L R pr
theorem cfr.refl {A : Nat → Prop} {S : zS} {M : zM} : cfr A S M M := ⟨fun _ _ _ => rfl, fun _ _ _ _ h => h⟩
theorem cfr.trans {A : Nat → Prop} {S : zS} {M M1 M2 : zM} (h : cfr A S M M1) (i : cfr A S M1 M2) : cfr A S M M2 := ⟨fun b hb hc => (i.1 b hb hc).trans (h.1 b hb hc), fun p L R pr q => i.2 p L R pr (h.2 p L R pr q)⟩
theorem cfr.mono {A B : Nat → Prop} {S : zS} {M M1 : zM} (h : cfr A S M M1) (i : ∀ b, A b → B b) : cfr B S M M1 := ⟨fun b hb hc => h.1 b (fun q => hb (i b q)) hc, h.2⟩
theorem ctxok.same {M M1 : zM} {S : zS} {p : Nat} {L R : Int} {pr : List Int} (h : ctxok M S p L R pr) (e0 : M1 p = M p) (e2 : M1 (p + 2) = M (p + 2)) (e3 : M1 (p + 3) = M (p + 3)) (e4 : M1 (p + 4) = M (p + 4)) : ctxok M1 S p L R pr := by
  unfold ctxok prgC cac at *
  rw [e0, e2, e3, e4]
  exact h
theorem cfr.zs {A : Nat → Prop} {S : zS} {M : zM} {a : Nat} {k v : Int} (h : A a) (ha : a ≤ 89) : cfr A S M (zs M a k v) := by
  refine ⟨fun b hb _ => zs_ne M k v (fun q => hb (q ▸ h)), fun p L R pr q => ?_⟩
  have hp := q.1.1
  exact q.same (zs_ne M k v (by omega)) (zs_ne M k v (by omega)) (zs_ne M k v (by omega)) (zs_ne M k v (by omega))
theorem ctxok.other {M M1 : zM} {S : zS} {p p1 : Nat} {L R : Int} {pr : List Int} (h : ctxok M S p1 L R pr) (hp : ctxS S p) (hne : p1 ≠ p) (hf : ∀ b, b ≠ p + 3 → b ≠ p + 4 → M1 b = M b) : ctxok M1 S p1 L R pr := by
  obtain ⟨q0, q1, q2, q3, q4, q5, _⟩ := h.1
  obtain ⟨r0, r1, r2, r3, r4, r5, _⟩ := hp
  refine h.same (hf _ (fun e => ?_) (fun e => ?_)) (hf _ (fun e => ?_) (fun e => ?_)) (hf _ (fun e => ?_) (fun e => ?_)) (hf _ (fun e => ?_) (fun e => ?_))
  · rw [e] at q1; omega
  · rw [e] at q1; omega
  · rw [e] at q3; omega
  · rw [e] at q3; omega
  · exact hne (by omega)
  · have e2 : p1 = p + 1 := by omega
    rw [e2] at q1; omega
  · have e2 : p1 + 1 = p := by omega
    rw [e2] at q2; omega
  · exact hne (by omega)
theorem lb_bit : ∀ b : Nat, b < 64 → ∀ j : Nat, j < 64 → lb (zlshl 1 b) j = decide (j = b) := by decide +kernel
theorem land_bit {r : Int} {b : Nat} (hb : b < 64) : zcmp (zland r (zlshl 1 b)) 0 = 0 ↔ lb r b = false := by
  rw [zcmp_0]
  constructor
  · intro h
    have h2 := lb_and r (zlshl 1 b) b
    rw [h, lb_0, lb_bit b hb b hb] at h2
    simpa using h2.symm
  · intro h
    refine lb_ext (cL_zland _ _) (by decide) (fun j hj => ?_)
    rw [lb_and, lb_bit b hb j hj, lb_0]
    by_cases e : j = b
    · subst e; rw [h]; rfl
    · simp [e]
theorem lor_bit {r : Int} {b j : Nat} (hb : b < 64) (hj : j < 64) : lb (zlor r (zlshl 1 b)) j = (lb r j || decide (j = b)) := by rw [lb_or, lb_bit b hb j hj]
theorem FX7_fulfils {M : zM} {S : zS} {p : Nat} {L R x : Int} {pr : List Int} {A : Nat → Prop} (hx : wd x) (h : ctxok M S p L R pr) : Ok (F_X7_fulfils (p + 1) x M S) (fun r => tv r.1 (ful pr x = true) ∧ cfr A S M r.2) := by
  have hS := h.1
  obtain ⟨q0, q1, q2, q3, q4, q5, q6, q7, q8, q9, q10, q11⟩ := h.1
  obtain ⟨_, hprg, hwf, _, _, _, hcac⟩ := h
  have hx0 := hx.1
  have hx1 := hx.2
  unfold F_X7_fulfils
  simp only [zlet_eq]
  rw [zshr_6 hx0 (by omega), zand_63 hx0 (by omega), q10]
  have hw0 : 0 ≤ x / 64 := by omega
  have hw1 : x / 64 < 462 := by omega
  have hb0 : (x % 64).toNat < 64 := by omega
  have hbe : x % 64 = (((x % 64).toNat : Nat) : Int) := by omega
  generalize hbb : (x % 64).toNat = b at hb0 hbe
  generalize hww : x / 64 = wx at hw0 hw1
  rw [hbe, FX6_at_ q4 hw0 (by rw [q6]; exact hw1)]
  simp only [zb1_some]
  have hc0 := hcac x hx
  rw [hbb, hww] at hc0
  -- the answer
  have ans : ∀ M1 : zM, lb (M1 (p + 4) wx) b = ful pr x → cfr A S M M1 → Ok (F_X7_fulfils_J71 (p + 1) wx (zlshl 1 b) M1 S) (fun r => tv r.1 (ful pr x = true) ∧ cfr A S M r.2) := by
    intro M1 h1 h2
    unfold F_X7_fulfils_J71
    rw [q11, FX6_at_ q5 hw0 (by rw [q7]; exact hw1)]
    simp only [zb1_some]
    refine Ok.chk q2 (Ok.ite (fun c => Ok.ret ⟨tv_f ?_, h2⟩) (fun c => Ok.ret ⟨tv_t ?_, h2⟩))
    · rw [← h1, (land_bit hb0).mp c]; decide
    · rw [← h1]
      cases hh : lb (M1 (p + 4) wx) b with
      | true => rfl
      | false => exact absurd ((land_bit hb0).mpr hh) c
  refine Ok.chk q2 (Ok.ite (fun c => ?_) (fun c => ?_))
  · have hk := (land_bit hb0).mp c
    rw [FX6_put_ q4 hw0 (by rw [q6]; exact hw1)]
    simp only [zb1_some]
    generalize hM2 : zs M (p + 3) wx (zlor (M (p + 3) wx) (zlshl 1 b)) = M2
    have hother : ∀ c, c ≠ p + 3 → M2 c = M c := fun c hc => by rw [← hM2]; exact zs_ne _ _ _ hc
    have hprg2 : prgC M2 S (p + 2) pr := by
      unfold prgC
      rw [hother _ (by omega)]
      exact hprg
    refine Ok.chk q2 (Ok.chk q2 (Ok.chk q2 ?_))
    refine Ok.b1 (FX7_evaluate hx q2 (by rw [q9]; exact hprg2) hwf) (fun r hr => ?_)
    -- bits of the two rows
    have b3 : ∀ y : Int, wd y → lb (M2 (p + 3) (y / 64)) (y % 64).toNat = (lb (M (p + 3) (y / 64)) (y % 64).toNat || decide (y = x)) := by
      intro y hy
      have hy0 := hy.1
      rw [← hM2, zs_eq]
      by_cases e : y / 64 = wx
      · rw [e, up_eq, lor_bit hb0 (by omega)]
        congr 1
        exact decide_eq_decide.mpr ⟨fun q => by omega, fun q => by omega⟩
      · rw [up_ne _ _ e, decide_eq_false (by omega), Bool.or_false]
    have done : ∀ M3 : zM, (∀ c, c ≠ p + 4 → M3 c = M2 c) → (∀ y : Int, wd y → lb (M3 (p + 4) (y / 64)) (y % 64).toNat = (lb (M (p + 4) (y / 64)) (y % 64).toNat || (decide (y = x) && ful pr x))) → lb (M3 (p + 4) wx) b = ful pr x ∧ cfr A S M M3 := by
      intro M3 h3 h4
      refine ⟨?_, fun c _ hc => ?_, fun p1 L1 R1 pr1 hp1 => ?_⟩
      · have := h4 x hx
        rw [hbb, hww, hc0, hk] at this
        rw [this]; simp
      · have n1 : c ≠ p + 3 := by
          intro e; subst e; rcases hc with hc | hc
          · omega
          · exact hc q4
        have n2 : c ≠ p + 4 := by
          intro e; subst e; rcases hc with hc | hc
          · omega
          · exact hc q5
        rw [h3 c n2, hother c n1]
      · by_cases e : p1 = p
        · subst e
          obtain ⟨g1, g2, g3, g4, g5, g6, g7⟩ := hp1
          have epr : ful pr1 = ful pr := by
            have e1 : pr1 = pr := by
              refine List.ext_getElem? (fun i => ?_)
              have l1 := g2.2.1
              have l2 := hprg.2.1
              by_cases hi : i < pr.length
              · have hi1 : i < pr1.length := by omega
                have a1 := g2.2.2 i _ (List.getElem?_eq_getElem hi1)
                have a2 := hprg.2.2 i _ (List.getElem?_eq_getElem hi)
                rw [List.getElem?_eq_getElem hi1, List.getElem?_eq_getElem hi]
                congr 1
                revert a1 a2
                generalize M (p1 + 2) i = z
                generalize pr1[i] = u
                generalize pr[i] = v
                intro a1 a2
                rcases a1 with ⟨e1, e2⟩ | ⟨e1, e2⟩ | ⟨e1, e2⟩ | ⟨e1, e2⟩ | ⟨w1, h1, d1, c1, e1, e2⟩ | ⟨k1, t1, c1, e1, e2⟩ <;> rcases a2 with ⟨f1, f2⟩ | ⟨f1, f2⟩ | ⟨f1, f2⟩ | ⟨f1, f2⟩ | ⟨w2, h2, d2, c2, f1, f2⟩ | ⟨k2, t2, c2, f1, f2⟩
                all_goals (try unfold cok at c1); (try unfold cok at c2); (try unfold pok at c1); (try unfold pok at c2); omega
              · rw [List.getElem?_eq_none (by omega), List.getElem?_eq_none (by omega)]
            rw [e1]
          refine ⟨g1, ?_, g3, ?_, g5, g6, fun y hy => ?_⟩
          · unfold prgC
            rw [h3 _ (by omega), hother _ (by omega)]
            exact g2
          · rw [h3 _ (by omega), hother _ (by omega)]
            exact g4
          · rw [h4 y hy, h3 _ (by omega), b3 y hy, g7 y hy, epr]
            by_cases ey : y = x
            · subst ey; rw [decide_eq_true rfl]; simp
            · rw [decide_eq_false ey]; simp
        · exact hp1.other hS e (fun c c3 c4 => by rw [h3 c c4, hother c c3])
    refine Ok.ite (fun c2 => ?_) (fun c2 => ?_)
    · have hff : ful pr x = false := by
        cases hh : ful pr x with
        | false => rfl
        | true => exact absurd hh (tv_0 hr c2)
      have := done M2 (fun _ _ => rfl) (fun y _ => by rw [hff, Bool.and_false, Bool.or_false, hother _ (by omega)])
      exact ans M2 this.1 this.2
    · have hff : ful pr x = true := tv_1 hr c2
      rw [q11, FX6_at_ q5 hw0 (by rw [q7]; exact hw1)]
      simp only [zb1_some]
      rw [FX6_put_ q5 hw0 (by rw [q7]; exact hw1)]
      simp only [zb1_some]
      have := done (zs M2 (p + 4) wx (zlor (M2 (p + 4) wx) (zlshl 1 b))) (fun c hc => zs_ne _ _ _ hc) (fun y hy => by
        have hy0 := hy.1
        rw [zs_eq, hff, Bool.and_true, hother _ (by omega)]
        by_cases e : y / 64 = wx
        · rw [e, up_eq, lor_bit hb0 (by omega)]
          congr 1
          exact decide_eq_decide.mpr ⟨fun q => by omega, fun q => by omega⟩
        · rw [up_ne _ _ e, decide_eq_false (by omega), Bool.or_false])
      exact Ok.chk q2 (Ok.chk q2 (ans _ this.1 this.2))
  · have hk : lb (M (p + 3) wx) b = true := by
      cases hh : lb (M (p + 3) wx) b with
      | true => rfl
      | false => exact absurd ((land_bit hb0).mpr hh) c
    exact ans M (by rw [hc0, hk, Bool.true_and]) cfr.refl
/-- which factors the class selects -/
theorem FX0_selects {M : zM} {S : zS} {p : Nat} {L R mode x s e : Int} {pr : List Int} {A : Nat → Prop} (hm : 0 ≤ mode ∧ mode ≤ 4) (hx : wd x) (h : ctxok M S p L R pr) (h0 : 0 ≤ s) (h1 : s ≤ e) (h2 : e ≤ ln x) : Ok (F_X0_selects p mode x (ln x) s e M S) (fun r => tv r.1 (sel mode pr x s e) ∧ cfr A S M r.2) := by
  have hb := ln_b x
  obtain ⟨q0, q1, q2, q3, q4, q5, q6, q7, q8, q9, q10, q11⟩ := h.1
  unfold F_X0_selects
  rw [FX9_factor hx h0 h1 h2, q8]
  simp only [zb1_some]
  refine Ok.chk q1 (Ok.chk q2 (Ok.b2 (FX7_fulfils (A := A) (fa_r h0 h1 h2).2 h) (fun r M1 hr => ?_)))
  obtain ⟨hr, hf⟩ := hr
  dsimp only at hr hf
  refine Ok.ite (fun c => Ok.ret ⟨tv_f (fun q => tv_0 hr c q.1), hf⟩) (fun c => ?_)
  have hful := tv_1 hr c
  unfold F_X0_selects_J40
  refine Ok.ite (fun c0 => Ok.ite (fun c1 => Ok.ite (fun c2 => Ok.ret ⟨tv_t ⟨hful, fun _ => ⟨c1, c2⟩, fun q => by omega⟩, hf⟩) (fun c2 => Ok.ret ⟨tv_f (fun q => c2 (q.2.1 c0).2), hf⟩)) (fun c1 => Ok.ret ⟨tv_f (fun q => c1 (q.2.1 c0).1), hf⟩)) (fun c0 => Ok.ite (fun c1 => Ok.ret ⟨tv_t ⟨hful, fun q => absurd q c0, fun q => by omega⟩, hf⟩) (fun c1 => ?_))
  -- the two loops
  have key : ∀ (last lastE t0 : Int), 0 ≤ t0 → t0 ≤ ln x + 1 → last ≤ ln x → lastE ≤ ln x → (∀ t f : Int, 0 ≤ t → t ≤ f → f ≤ ln x → (bars mode s e t f ↔ (t0 ≤ t ∧ t ≤ last ∧ (if mode = 2 then e else t) ≤ f ∧ f ≤ lastE))) → (∀ t : Int, t0 ≤ t → t ≤ last → t ≤ (if mode = 2 then e else t)) → Ok (F_X0_selects_J99 p mode x (ln x) s e last lastE t0 M1 S) (fun r => tv r.1 (sel mode pr x s e) ∧ cfr A S M r.2) := by
    intro last lastE t0 k0 k00 k1 k2 hbars hstart
    unfold F_X0_selects_J99 F_X0_selects_L101
    refine Ok.loop (fun z => t0 ≤ z.1 ∧ z.1 ≤ ln x + 1 ∧ cfr A S M z.2 ∧ ∀ t f : Int, t0 ≤ t → t < z.1 → t ≤ last → (if mode = 2 then e else t) ≤ f → f ≤ lastE → (t ≠ s ∨ f ≠ e) → ful pr (fa x t f) = false) (fun z => (20 - z.1).toNat) (fun v => match v with | .inl M2 => cfr A S M M2 ∧ ¬ sel mode pr x s e | .inr M2 => cfr A S M M2 ∧ sel mode pr x s e) ⟨Int.le_refl t0, k00, hf, fun t f g1 g2 => by change t < t0 at g2; omega⟩ (by show (20 - t0).toNat < zN; rw [zN_v]; omega) ?_ ?_
    · rintro ⟨t, M2⟩ ⟨i1, i2, i3, i4⟩
      dsimp only at i1 i2 i3 i4 ⊢
      unfold F_X0_selects_B101 F_X0_selects_J120
      refine Ok.ite (fun d => Ok.ret ⟨i3, hful, fun q => absurd q c0, fun qm t1 f1 g1 g2 g3 g4 g5 g6 => ?_⟩) (fun d => ?_)
      · have g7 := (hbars t1 f1 g1 g2 g3).mp g6
        have := i4 t1 f1 g7.1 (by omega) g7.2.1 g7.2.2.1 g7.2.2.2 g4
        rw [this] at g5; cases g5
      · have hinner : ∀ f0 : Int, f0 = (if mode = 2 then e else t) → Ok (F_X0_selects_L122 p mode x (ln x) s e last lastE t f0 M2 S) (Turn (fun z : Int × zM => t0 ≤ z.1 ∧ z.1 ≤ ln x + 1 ∧ cfr A S M z.2 ∧ ∀ t f : Int, t0 ≤ t → t < z.1 → t ≤ last → (if mode = 2 then e else t) ≤ f → f ≤ lastE → (t ≠ s ∨ f ≠ e) → ful pr (fa x t f) = false) (fun z => (20 - z.1).toNat) (fun v => match v with | .inl M2 => cfr A S M M2 ∧ ¬ sel mode pr x s e | .inr M2 => cfr A S M M2 ∧ sel mode pr x s e) (t, M2)) := by
          intro f0 hf0
          have ht := hstart t i1 (by omega)
          rw [← hf0] at ht
          unfold F_X0_selects_L122
          refine Ok.loop (fun z => f0 ≤ z.1 ∧ cfr A S M z.2 ∧ ∀ f : Int, f0 ≤ f → f < z.1 → f ≤ lastE → (t ≠ s ∨ f ≠ e) → ful pr (fa x t f) = false) (fun z => (20 - z.1).toNat) (fun v => match v with | .inl M2 => cfr A S M M2 ∧ ¬ sel mode pr x s e | .inr M2 => cfr A S M M2 ∧ ∀ f : Int, f0 ≤ f → f ≤ lastE → (t ≠ s ∨ f ≠ e) → ful pr (fa x t f) = false) ⟨Int.le_refl _, i3, fun f g1 g2 => by change f < f0 at g2; omega⟩ (by show (20 - f0).toNat < zN; rw [zN_v]; omega) ?_ ?_
          · rintro ⟨f, M3⟩ ⟨j1, j2, j3⟩
            dsimp only at j1 j2 j3 ⊢
            unfold F_X0_selects_B122
            refine Ok.ite (fun d2 => Ok.ret ⟨j2, fun f1 g1 g2 g3 => j3 f1 g1 (by omega) g2 g3⟩) (fun d2 => ?_)
            have nxt : ∀ M4 : zM, cfr A S M M4 → ((t ≠ s ∨ f ≠ e) → ful pr (fa x t f) = false) → Ok (F_X0_selects_J164 p mode x (ln x) s e last lastE t f M4 S) (Turn (fun z : Int × zM => f0 ≤ z.1 ∧ cfr A S M z.2 ∧ ∀ f : Int, f0 ≤ f → f < z.1 → f ≤ lastE → (t ≠ s ∨ f ≠ e) → ful pr (fa x t f) = false) (fun z => (20 - z.1).toNat) (fun v : zM ⊕ zM => match v with | .inl M2 => cfr A S M M2 ∧ ¬ sel mode pr x s e | .inr M2 => cfr A S M M2 ∧ ∀ f : Int, f0 ≤ f → f ≤ lastE → (t ≠ s ∨ f ≠ e) → ful pr (fa x t f) = false) (f, M3)) := by
              intro M4 hM4 hno
              unfold F_X0_selects_J164
              refine Ok.lett (Ok.ret ?_)
              rw [w_id (a := f + 1) (by omega)]
              refine ⟨⟨by show f0 ≤ f + 1; omega, hM4, fun f1 g1 g2 g3 g4 => ?_⟩, by show (20 - (f + 1)).toNat < (20 - f).toNat; omega⟩
              change f1 < f + 1 at g2
              by_cases ef : f1 = f
              · subst ef; exact hno g4
              · exact j3 f1 g1 (by omega) g3 g4
            have try_ : (t ≠ s ∨ f ≠ e) → Ok (F_X0_selects_J143 p mode x (ln x) s e last lastE t f M3 S) (Turn (fun z : Int × zM => f0 ≤ z.1 ∧ cfr A S M z.2 ∧ ∀ f : Int, f0 ≤ f → f < z.1 → f ≤ lastE → (t ≠ s ∨ f ≠ e) → ful pr (fa x t f) = false) (fun z => (20 - z.1).toNat) (fun v : zM ⊕ zM => match v with | .inl M2 => cfr A S M M2 ∧ ¬ sel mode pr x s e | .inr M2 => cfr A S M M2 ∧ ∀ f : Int, f0 ≤ f → f ≤ lastE → (t ≠ s ∨ f ≠ e) → ful pr (fa x t f) = false) (f, M3)) := by
              intro hne
              unfold F_X0_selects_J143
              rw [FX9_factor hx (by omega) (by omega) (by omega), q8]
              simp only [zb1_some]
              refine Ok.chk q1 (Ok.chk q2 (Ok.b2 (FX7_fulfils (A := A) (fa_r (by omega) (by omega) (by omega)).2 (j2.2 p L R pr h)) (fun r2 M4 hr2 => ?_)))
              obtain ⟨hr2, hf2⟩ := hr2
              dsimp only at hr2 hf2
              refine Ok.ite (fun d3 => nxt M4 (j2.trans hf2) (fun _ => ?_)) (fun d3 => Ok.ret ⟨j2.trans hf2, fun q => ?_⟩)
              · cases hh : ful pr (fa x t f) with
                | false => rfl
                | true => exact absurd hh (tv_0 hr2 d3)
              · exact q.2.2 (by omega) t f (by omega) (by omega) (by omega) hne (tv_1 hr2 d3) ((hbars t f (by omega) (by omega) (by omega)).mpr ⟨i1, by omega, by rw [← hf0]; exact j1, by omega⟩)
            refine Ok.ite (fun d3 => Ok.ite (fun d4 => nxt M3 j2 (fun q => by omega)) (fun d4 => try_ (Or.inr d4))) (fun d3 => try_ (Or.inl d3))
          · rintro (M3 | M3) hM3
            · exact Ok.ret hM3
            · unfold F_X0_selects_J170
              refine Ok.lett (Ok.ret ?_)
              rw [w_id (a := t + 1) (by omega)]
              refine ⟨⟨by show t0 ≤ t + 1; omega, by show t + 1 ≤ _; omega, hM3.1, fun t1 f1 g1 g2 g3 g4 g5 g6 => ?_⟩, by show (20 - (t + 1)).toNat < (20 - t).toNat; omega⟩
              change t1 < t + 1 at g2
              by_cases et : t1 = t
              · subst et; rw [← hf0] at g4; exact hM3.2 f1 g4 g5 g6
              · exact i4 t1 f1 g1 (by omega) g3 g4 g5 g6
        refine Ok.ite (fun m2 => hinner e (by rw [if_pos m2])) (fun m2 => hinner t (by rw [if_neg m2]))
    · rintro (M2 | M2) hM2
      · exact Ok.ret ⟨tv_f hM2.2, hM2.1⟩
      · exact Ok.ret ⟨tv_t hM2.2, hM2.1⟩
  unfold F_X0_selects_J73 F_X0_selects_J86
  refine Ok.ite (fun m3 => ?_) (fun m3 => Ok.ite (fun m2 => ?_) (fun m2 => ?_))
  · refine Ok.pos m3 (Ok.pos m3 (key e e s h0 (by omega) h2 h2 (fun t f g1 g2 g3 => ?_) (fun t g1 g2 => by rw [if_neg (by omega)]; omega)))
    unfold bars
    rw [if_neg (by omega), if_pos m3, if_neg (by omega)]
    omega
  · refine Ok.neg m3 (Ok.neg m3 (key s (ln x) 0 (Int.le_refl 0) (by omega) (by omega) (by omega) (fun t f g1 g2 g3 => ?_) (fun t g1 g2 => by rw [if_pos m2]; omega)))
    unfold bars
    rw [if_pos m2, if_pos m2]
    omega
  · rw [w_id (a := s - 1) (by omega)]
    refine Ok.neg m3 (Ok.neg m3 (key (s - 1) (ln x) 0 (Int.le_refl 0) (by omega) (by omega) (by omega) (fun t f g1 g2 g3 => ?_) (fun t g1 g2 => by rw [if_neg m2]; omega)))
    unfold bars
    rw [if_neg m2, if_neg m3, if_neg m2]
    omega
