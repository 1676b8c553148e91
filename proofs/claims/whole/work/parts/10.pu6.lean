/-! PURE 6: the reference: which factors are selected; insertions made -/
def bars (mode s e t f : Int) : Prop := if mode = 2 then t ≤ s ∧ e ≤ f else if mode = 3 then s ≤ t ∧ f ≤ e else t < s
def sel (mode : Int) (pr : List Int) (x s e : Int) : Prop := ful pr (fa x s e) = true ∧ (mode = 0 → s = 0 ∧ e = ln x) ∧ (1 < mode → ∀ t f : Int, 0 ≤ t → t ≤ f → f ≤ ln x → (t ≠ s ∨ f ≠ e) → ful pr (fa x t f) = true → ¬ bars mode s e t f)
def insw (x L R s e : Int) : Int := jn (jn (jn (jn (fa x 0 s) L) (fa x s e)) R) (fa x e (ln x))
def fitd (M : zM) (pr : List Int) (x : Int) : Prop := M 48 20 = x ∧ M 48 21 = ln x ∧ ∀ s e : Int, 0 ≤ s → s ≤ e → e ≤ ln x → M 57 (10 * s + e) = b2 (ful pr (fa x s e))
theorem prgM.fr {M M1 : zM} {c : Int} {pr : List Int} (h : prgM M c pr) (h2 : M1 52 = M 52) (h3 : M1 53 = M 53) : prgM M1 c pr := by
  unfold prgM
  rw [h2, h3]
  exact h
theorem FX11_fit {M : zM} {c x : Int} {pr : List Int} (hc : 0 ≤ c ∧ c < 5) (hx : wd x) (hp0 : prgM M c pr) (hw : pwf pr) : Ok (F_X11_fit x c M) (fun M1 => fitd M1 pr x ∧ fr (fun b => b = 48 ∨ b = 56 ∨ b = 57) M M1 ∧ ∀ k, k ≠ 20 → k ≠ 21 → M1 48 k = M 48 k) := by
  have hb := ln_b x
  unfold F_X11_fit
  simp only [zlet_eq]
  rw [FX11_lengthOf hx]
  simp only [zb1_some]
  generalize hM2 : zs (zs M 48 20 x) 48 21 (ln x) = M2
  have e20 : M2 48 20 = x := by rw [← hM2, zs_off _ _ (Or.inr (by decide)), zs_at]
  have e21 : M2 48 21 = ln x := by rw [← hM2, zs_at]
  have ek : ∀ k, k ≠ 20 → k ≠ 21 → M2 48 k = M 48 k := fun k h0 h1 => by rw [← hM2, zs_off _ _ (Or.inr h1), zs_off _ _ (Or.inr h0)]
  have ef : fr (fun b => b = 48 ∨ b = 56 ∨ b = 57) M M2 := by rw [← hM2]; exact (fr.zs (Or.inl rfl)).trans (fr.zs (Or.inl rfl))
  have hp2 : prgM M2 c pr := hp0.fr (ef 52 (by decide)) (ef 53 (by decide))
  have big : ∀ s e1 : Int, ∀ M1 : zM, (∀ s1 e : Int, 0 ≤ s1 → s1 ≤ e → e ≤ ln x → (s1 < s ∨ (s1 = s ∧ e < e1)) → M1 57 (10 * s1 + e) = b2 (ful pr (fa x s1 e))) → True := fun _ _ _ _ => trivial
  unfold F_X11_fit_L15
  refine Ok.loop (fun s => 0 ≤ s.1 ∧ s.1 ≤ ln x + 1 ∧ fr (fun b => b = 56 ∨ b = 57) M2 s.2 ∧ ∀ s1 e : Int, 0 ≤ s1 → s1 ≤ e → e ≤ ln x → s1 < s.1 → s.2 57 (10 * s1 + e) = b2 (ful pr (fa x s1 e))) (fun s => (20 - s.1).toNat) (fun e => fr (fun b => b = 56 ∨ b = 57) M2 e ∧ ∀ s1 e1 : Int, 0 ≤ s1 → s1 ≤ e1 → e1 ≤ ln x → e 57 (10 * s1 + e1) = b2 (ful pr (fa x s1 e1))) ⟨Int.le_refl 0, by show 0 ≤ _; omega, fr.refl, fun s1 e q1 q2 q3 q4 => by change s1 < 0 at q4; omega⟩ (by show (20 - (0 : Int)).toNat < zN; decide) ?_ ?_
  · rintro ⟨s, M1⟩ ⟨i1, i2, i3, i4⟩
    dsimp only at i1 i2 i3 i4 ⊢
    unfold F_X11_fit_B15
    have f48 : M1 48 = M2 48 := i3 48 (by decide)
    rw [f48, e21]
    refine Ok.ite (fun cc => Ok.ret ⟨i3, fun s1 e q1 q2 q3 => i4 s1 e q1 q2 q3 (by omega)⟩) (fun cc => ?_)
    unfold F_X11_fit_L26
    refine Ok.loop (fun t => s ≤ t.1 ∧ t.1 ≤ ln x + 1 ∧ fr (fun b => b = 56 ∨ b = 57) M2 t.2 ∧ ∀ s1 e : Int, 0 ≤ s1 → s1 ≤ e → e ≤ ln x → (s1 < s ∨ (s1 = s ∧ e < t.1)) → t.2 57 (10 * s1 + e) = b2 (ful pr (fa x s1 e))) (fun t => (20 - t.1).toNat) (fun e => fr (fun b => b = 56 ∨ b = 57) M2 e ∧ ∀ s1 e1 : Int, 0 ≤ s1 → s1 ≤ e1 → e1 ≤ ln x → s1 < s + 1 → e 57 (10 * s1 + e1) = b2 (ful pr (fa x s1 e1))) ⟨Int.le_refl s, by show s ≤ _; omega, i3, fun s1 e q1 q2 q3 q4 => i4 s1 e q1 q2 q3 (by change s1 < s ∨ (s1 = s ∧ e < s) at q4; omega)⟩ (by show (20 - s).toNat < zN; rw [zN_v]; omega) ?_ ?_
    · rintro ⟨e, M3⟩ ⟨j1, j2, j3, j4⟩
      dsimp only at j1 j2 j3 j4 ⊢
      unfold F_X11_fit_B26
      have g48 : M3 48 = M2 48 := j3 48 (by decide)
      rw [g48, e21]
      refine Ok.ite (fun c2 => Ok.ret ⟨j3, fun s1 e1 q1 q2 q3 q4 => j4 s1 e1 q1 q2 q3 (by omega)⟩) (fun c2 => ?_)
      rw [FX11_part hx i1 j1 (by omega)]
      simp only [zb1_some]
      refine Ok.b2 (FX11_fulfils hc (fa_r i1 j1 (by omega)).2 (hp2.fr (j3 52 (by decide)) (j3 53 (by decide))) hw) (fun r M4 hr => ?_)
      obtain ⟨r1, r2⟩ := hr
      dsimp only at r1 r2
      rw [w_id (a := 10 * s + e) (by omega), w_id (a := e + 1) (by omega)]
      refine Ok.chk (by omega) (Ok.chk (by rw [r1]; exact b2_01 _) (Ok.lett (Ok.lett (Ok.ret ?_))))
      refine ⟨⟨by show s ≤ e + 1; omega, by show e + 1 ≤ _; omega, ?_, fun s1 e1 q1 q2 q3 q4 => ?_⟩, by show (20 - (e + 1)).toNat < (20 - e).toNat; omega⟩
      · exact j3.trans ((r2.mono (fun b hb => Or.inl hb)).trans (fr.zs (Or.inr rfl)))
      · change s1 < s ∨ (s1 = s ∧ e1 < e + 1) at q4
        show zs M4 57 (10 * s + e) r 57 (10 * s1 + e1) = _
        by_cases hh : s1 = s ∧ e1 = e
        · rw [hh.1, hh.2, zs_at, r1]
        · rw [zs_off _ _ (Or.inr (by omega)), r2 57 (by decide)]
          exact j4 s1 e1 q1 q2 q3 (by omega)
    · intro M3 ⟨k1, k2⟩
      unfold F_X11_fit_J69
      refine Ok.lett (Ok.ret ?_)
      rw [w_id (a := s + 1) (by omega)]
      exact ⟨⟨by show 0 ≤ s + 1; omega, by show s + 1 ≤ _; omega, k1, k2⟩, by show (20 - (s + 1)).toNat < (20 - s).toNat; omega⟩
  · intro M3 ⟨k1, k2⟩
    unfold F_X11_fit_J75
    refine Ok.ret ⟨⟨by rw [k1 48 (by decide)]; exact e20, by rw [k1 48 (by decide)]; exact e21, k2⟩, ef.trans (k1.mono (fun b hb => Or.inr hb)), fun k h0 h1 => by rw [k1 48 (by decide)]; exact ek k h0 h1⟩
theorem FX11_isSelected {M : zM} {x s e : Int} {pr : List Int} (h : fitd M pr x) (hm : 0 ≤ M 48 8 ∧ M 48 8 ≤ 4) (h0 : 0 ≤ s) (h1 : s ≤ e) (h2 : e ≤ ln x) : Ok (F_X11_isSelected s e M) (fun r => tv r (sel (M 48 8) pr x s e)) := by
  have hb := ln_b x
  obtain ⟨_, e21, hf⟩ := h
  generalize hmode : M 48 8 = mode at hm
  unfold F_X11_isSelected
  rw [w_id (a := 10 * s + e) (by omega), hf s e h0 h1 h2, hmode, e21]
  refine Ok.chk (by omega) (Ok.ite (fun c => Ok.ret (tv_f (fun q => ?_))) (fun c => ?_))
  · have q1 := q.1
    rw [b2_0.mp c] at q1
    exact absurd q1 (by decide)
  · have hful : ful pr (fa x s e) = true := tv_1 b2_tv c
    unfold F_X11_isSelected_J39
    refine Ok.ite (fun c0 => Ok.ite (fun c1 => Ok.ite (fun c2 => Ok.ret (tv_t ⟨hful, fun _ => ⟨c1, c2⟩, fun q => by omega⟩)) (fun c2 => Ok.ret (tv_f (fun q => c2 (q.2.1 c0).2)))) (fun c1 => Ok.ret (tv_f (fun q => c1 (q.2.1 c0).1)))) (fun c0 => ?_)
    -- the others
    have fin : ∀ v : Int, tv v (1 < mode → ∀ t f : Int, 0 ≤ t → t ≤ f → f ≤ ln x → (t ≠ s ∨ f ≠ e) → ful pr (fa x t f) = true → ¬ bars mode s e t f) → Ok (F_X11_isSelected_J212 v M) (fun r => tv r (sel mode pr x s e)) := fun v hv => by
      unfold F_X11_isSelected_J212
      exact Ok.chk (tv_b hv) (Ok.ret (tv_iff hv ⟨fun q => ⟨hful, fun q0 => absurd q0 c0, q⟩, fun q => q.2.2⟩))
    unfold F_X11_isSelected_L46
    refine Ok.loop (fun t => 0 ≤ t.2 ∧ t.2 ≤ ln x + 1 ∧ tv t.1 (1 < mode → ∀ t1 f : Int, 0 ≤ t1 → t1 ≤ f → f ≤ ln x → t1 < t.2 → (t1 ≠ s ∨ f ≠ e) → ful pr (fa x t1 f) = true → ¬ bars mode s e t1 f)) (fun t => (20 - t.2).toNat) (fun v => tv v (1 < mode → ∀ t f : Int, 0 ≤ t → t ≤ f → f ≤ ln x → (t ≠ s ∨ f ≠ e) → ful pr (fa x t f) = true → ¬ bars mode s e t f)) ⟨Int.le_refl 0, by show 0 ≤ _; omega, tv_t (fun _ t1 f q1 q2 q3 q4 => by change t1 < 0 at q4; omega)⟩ (by show (20 - (0 : Int)).toNat < zN; decide) ?_ fin
    rintro ⟨v3, v4⟩ ⟨i1, i2, i3⟩
    dsimp only at i1 i2 i3 ⊢
    unfold F_X11_isSelected_B46
    rw [e21, hmode]
    refine Ok.ite (fun c1 => Ok.ret (tv_iff i3 ⟨fun q qm t f q1 q2 q3 => q qm t f q1 q2 q3 (by omega), fun q qm t f q1 q2 q3 _ => q qm t f q1 q2 q3⟩)) (fun c1 => Ok.ite (fun c2 => ?_) (fun c2 => Ok.ret ?_))
    · unfold F_X11_isSelected_L67
      refine Ok.loop (fun t => v4 ≤ t.2 ∧ t.2 ≤ ln x + 1 ∧ tv t.1 (∀ t1 f : Int, 0 ≤ t1 → t1 ≤ f → f ≤ ln x → (t1 < v4 ∨ (t1 = v4 ∧ f < t.2)) → (t1 ≠ s ∨ f ≠ e) → ful pr (fa x t1 f) = true → ¬ bars mode s e t1 f)) (fun t => (20 - t.2).toNat) (fun v => tv v (∀ t1 f : Int, 0 ≤ t1 → t1 ≤ f → f ≤ ln x → t1 < v4 + 1 → (t1 ≠ s ∨ f ≠ e) → ful pr (fa x t1 f) = true → ¬ bars mode s e t1 f)) ⟨Int.le_refl _, by show v4 ≤ _; omega, tv_iff i3 ⟨fun q t1 f q1 q2 q3 q4 => q c2 t1 f q1 q2 q3 (by change t1 < v4 ∨ (t1 = v4 ∧ f < v4) at q4; omega), fun q _ t1 f q1 q2 q3 q4 => q t1 f q1 q2 q3 (Or.inl q4)⟩⟩ (by show (20 - v4).toNat < zN; rw [zN_v]; omega) ?_ ?_
      · rintro ⟨v5, f⟩ ⟨j1, j2, j3⟩
        dsimp only at j1 j2 j3 ⊢
        unfold F_X11_isSelected_B67
        rw [e21]
        refine Ok.ite (fun c3 => Ok.ret (tv_iff j3 ⟨fun q t1 f1 q1 q2 q3 q4 => q t1 f1 q1 q2 q3 (by omega), fun q t1 f1 q1 q2 q3 q4 => q t1 f1 q1 q2 q3 (by omega)⟩)) (fun c3 => ?_)
        rw [w_id (a := 10 * v4 + f) (by omega), hf v4 f i1 j1 (by omega)]
        refine Ok.chk (by omega) ?_
        -- the turn's end
        have go : ∀ v : Int, tv v (∀ t1 f1 : Int, 0 ≤ t1 → t1 ≤ f1 → f1 ≤ ln x → (t1 < v4 ∨ (t1 = v4 ∧ f1 < f + 1)) → (t1 ≠ s ∨ f1 ≠ e) → ful pr (fa x t1 f1) = true → ¬ bars mode s e t1 f1) → Ok (F_X11_isSelected_J199 s e v4 f v M) (Turn (fun t : Int × Int => v4 ≤ t.2 ∧ t.2 ≤ ln x + 1 ∧ tv t.1 (∀ t1 f : Int, 0 ≤ t1 → t1 ≤ f → f ≤ ln x → (t1 < v4 ∨ (t1 = v4 ∧ f < t.2)) → (t1 ≠ s ∨ f ≠ e) → ful pr (fa x t1 f) = true → ¬ bars mode s e t1 f)) (fun t => (20 - t.2).toNat) (fun v => tv v (∀ t1 f : Int, 0 ≤ t1 → t1 ≤ f → f ≤ ln x → t1 < v4 + 1 → (t1 ≠ s ∨ f ≠ e) → ful pr (fa x t1 f) = true → ¬ bars mode s e t1 f)) (v5, f)) := fun v hv => by
          unfold F_X11_isSelected_J199
          refine Ok.lett (Ok.ret ?_)
          rw [w_id (a := f + 1) (by omega)]
          exact ⟨⟨by show v4 ≤ f + 1; omega, by show f + 1 ≤ _; omega, hv⟩, by show (20 - (f + 1)).toNat < (20 - f).toNat; omega⟩
        -- what this turn adds
        have add : ∀ v : Int, tv v ((∀ t1 f1 : Int, 0 ≤ t1 → t1 ≤ f1 → f1 ≤ ln x → (t1 < v4 ∨ (t1 = v4 ∧ f1 < f)) → (t1 ≠ s ∨ f1 ≠ e) → ful pr (fa x t1 f1) = true → ¬ bars mode s e t1 f1) ∧ ((v4 ≠ s ∨ f ≠ e) → ful pr (fa x v4 f) = true → ¬ bars mode s e v4 f)) → tv v (∀ t1 f1 : Int, 0 ≤ t1 → t1 ≤ f1 → f1 ≤ ln x → (t1 < v4 ∨ (t1 = v4 ∧ f1 < f + 1)) → (t1 ≠ s ∨ f1 ≠ e) → ful pr (fa x t1 f1) = true → ¬ bars mode s e t1 f1) := fun v hv => tv_iff hv ⟨fun ⟨q, qq⟩ t1 f1 q1 q2 q3 q4 q5 q6 => by
            by_cases hh : t1 = v4 ∧ f1 = f
            · rw [hh.1, hh.2] at q5 q6 ⊢; exact qq q5 q6
            · exact q t1 f1 q1 q2 q3 (by omega) q5 q6, fun q => ⟨fun t1 f1 q1 q2 q3 q4 => q t1 f1 q1 q2 q3 (by omega), fun q5 q6 => q v4 f i1 j1 (by omega) (Or.inr ⟨rfl, by omega⟩) q5 q6⟩⟩
        have j178 : ∀ o b : Int, tv o ((v4 ≠ s ∨ f ≠ e) ∧ ful pr (fa x v4 f) = true) → tv b (bars mode s e v4 f) → Ok (F_X11_isSelected_J178 s e v5 v4 f o b M) (Turn (fun t : Int × Int => v4 ≤ t.2 ∧ t.2 ≤ ln x + 1 ∧ tv t.1 (∀ t1 f : Int, 0 ≤ t1 → t1 ≤ f → f ≤ ln x → (t1 < v4 ∨ (t1 = v4 ∧ f < t.2)) → (t1 ≠ s ∨ f ≠ e) → ful pr (fa x t1 f) = true → ¬ bars mode s e t1 f)) (fun t => (20 - t.2).toNat) (fun v => tv v (∀ t1 f : Int, 0 ≤ t1 → t1 ≤ f → f ≤ ln x → t1 < v4 + 1 → (t1 ≠ s ∨ f ≠ e) → ful pr (fa x t1 f) = true → ¬ bars mode s e t1 f)) (v5, f)) := fun o b ho hbb => by
          unfold F_X11_isSelected_J178 F_X11_isSelected_J198 F_X11_isSelected_J194
          refine Ok.ite (fun c4 => go 0 (add 0 (tv_f (fun q => tv_0 j3 c4 q.1)))) (fun c4 => Ok.ite (fun c5 => go 1 (add 1 (tv_t ⟨tv_1 j3 c4, fun q5 q6 => absurd ⟨q5, q6⟩ (tv_0 ho c5)⟩))) (fun c5 => Ok.ite (fun c6 => go 1 (add 1 (tv_t ⟨tv_1 j3 c4, fun _ _ => tv_0 hbb c6⟩))) (fun c6 => go 0 (add 0 (tv_f (fun q => q.2 (tv_1 ho c5).1 (tv_1 ho c5).2 (tv_1 hbb c6)))))))
        have j109 : ∀ o : Int, tv o ((v4 ≠ s ∨ f ≠ e) ∧ ful pr (fa x v4 f) = true) → Ok (F_X11_isSelected_J109 s e v5 v4 f o M) (Turn (fun t : Int × Int => v4 ≤ t.2 ∧ t.2 ≤ ln x + 1 ∧ tv t.1 (∀ t1 f : Int, 0 ≤ t1 → t1 ≤ f → f ≤ ln x → (t1 < v4 ∨ (t1 = v4 ∧ f < t.2)) → (t1 ≠ s ∨ f ≠ e) → ful pr (fa x t1 f) = true → ¬ bars mode s e t1 f)) (fun t => (20 - t.2).toNat) (fun v => tv v (∀ t1 f : Int, 0 ≤ t1 → t1 ≤ f → f ≤ ln x → t1 < v4 + 1 → (t1 ≠ s ∨ f ≠ e) → ful pr (fa x t1 f) = true → ¬ bars mode s e t1 f)) (v5, f)) := fun o ho => by
          unfold F_X11_isSelected_J109 F_X11_isSelected_J135 F_X11_isSelected_J163
          rw [hmode]
          have hbr : ∀ b : Int, (b = 1 ∧ bars mode s e v4 f) ∨ (b = 0 ∧ ¬ bars mode s e v4 f) → Ok (F_X11_isSelected_J178 s e v5 v4 f o b M) _ := fun b hb => j178 o b ho hb
          refine Ok.ite (fun m2 => ?_) (fun m2 => Ok.ite (fun m3 => ?_) (fun m3 => ?_))
          · refine Ok.ite (fun c4 => hbr 0 (Or.inr ⟨rfl, ?_⟩)) (fun c4 => Ok.ite (fun c5 => hbr 0 (Or.inr ⟨rfl, ?_⟩)) (fun c5 => hbr 1 (Or.inl ⟨rfl, ?_⟩)))
            all_goals unfold bars; rw [if_pos m2]; omega
          · refine Ok.ite (fun c4 => hbr 0 (Or.inr ⟨rfl, ?_⟩)) (fun c4 => Ok.ite (fun c5 => hbr 0 (Or.inr ⟨rfl, ?_⟩)) (fun c5 => hbr 1 (Or.inl ⟨rfl, ?_⟩)))
            all_goals unfold bars; rw [if_neg m2, if_pos m3]; omega
          · refine Ok.ite (fun c4 => hbr 1 (Or.inl ⟨rfl, ?_⟩)) (fun c4 => hbr 0 (Or.inr ⟨rfl, ?_⟩))
            all_goals unfold bars; rw [if_neg m2, if_neg m3]; omega
        unfold F_X11_isSelected_J108 F_X11_isSelected_J104
        refine Ok.ite (fun c4 => j109 0 (tv_f (fun q => ?_))) (fun c4 => Ok.ite (fun c5 => Ok.ite (fun c6 => j109 0 (tv_f (fun q => by have := q.1; omega))) (fun c6 => j109 1 (tv_t ⟨Or.inr c6, tv_1 b2_tv c4⟩))) (fun c5 => j109 1 (tv_t ⟨Or.inl c5, tv_1 b2_tv c4⟩)))
        have q1 := q.2
        rw [b2_0.mp c4] at q1
        exact absurd q1 (by decide)
      · intro v hv
        unfold F_X11_isSelected_J206
        refine Ok.lett (Ok.ret ?_)
        rw [w_id (a := v4 + 1) (by omega)]
        exact ⟨⟨by show 0 ≤ v4 + 1; omega, by show v4 + 1 ≤ _; omega, tv_iff hv ⟨fun q _ => q, fun q => q c2⟩⟩, by show (20 - (v4 + 1)).toNat < (20 - v4).toNat; omega⟩
    · exact tv_iff i3 ⟨fun _ q => absurd q c2, fun _ q => absurd q c2⟩
theorem jn_assoc {a b c : Int} (hb : wd b) (hc : wd c) (h : ln b + ln c ≤ 9) : jn a (jn b c) = jn (jn a b) c := by
  have h1 := ln_b b
  have h2 := ln_b c
  have e := (jn_r hb hc h).1
  unfold jn at e ⊢
  rw [e, p3_add h1.1 h2.1, Int.add_mul, Int.mul_assoc]
  omega
theorem FX11_hasRoom {M : zM} {c L R lim n : Int} (hc : 0 ≤ c ∧ c < 5) (hL : wd L) (hR : wd R) (e1 : M 50 c = L) (e2 : M 51 c = R) (e3 : M 48 9 = lim) (e4 : M 48 21 = n) (hn : 0 ≤ n ∧ n ≤ 9) : Ok (F_X11_hasRoom c M) (fun r => tv r (n + ln L + ln R ≤ lim)) := by
  have := ln_b L
  have := ln_b R
  unfold F_X11_hasRoom
  rw [e1, e2, e3, e4, FX11_lengthOf hL, FX11_lengthOf hR]
  simp only [zb1_some]
  rw [w_id (a := n + ln L + ln R) (by omega)]
  exact Ok.chk hc (Ok.chk hc (Ok.ite (fun q => Ok.ret (tv_f (by omega))) (fun q => Ok.ret (tv_t (by omega)))))
theorem insw_r {x L R s e : Int} (hx : wd x) (hL : wd L) (hR : wd R) (h : ln x + ln L + ln R ≤ 9) (h0 : 0 ≤ s) (h1 : s ≤ e) (h2 : e ≤ ln x) : ln (insw x L R s e) = ln x + ln L + ln R ∧ wd (insw x L R s e) := by
  have := ln_b L
  have := ln_b R
  obtain ⟨a1, a2⟩ := fa_r (x := x) (Int.le_refl 0) h0 (by omega)
  obtain ⟨b1, b2⟩ := fa_r (x := x) h0 h1 h2
  obtain ⟨c1, c2⟩ := fa_r (x := x) (s := e) (e := ln x) (by omega) h2 (by omega)
  obtain ⟨d1, d2⟩ := jn_r a2 hL (by omega)
  obtain ⟨f1, f2⟩ := jn_r d2 b2 (by omega)
  obtain ⟨g1, g2⟩ := jn_r f2 hR (by omega)
  obtain ⟨k1, k2⟩ := jn_r g2 c2 (by omega)
  unfold insw
  exact ⟨by omega, k2⟩
theorem FX11_inserted {M : zM} {c x L R s e : Int} (hc : 0 ≤ c ∧ c < 5) (hx : wd x) (hL : wd L) (hR : wd R) (e1 : M 50 c = L) (e2 : M 51 c = R) (e3 : M 48 20 = x) (e4 : M 48 21 = ln x) (h : ln x + ln L + ln R ≤ 9) (h0 : 0 ≤ s) (h1 : s ≤ e) (h2 : e ≤ ln x) : F_X11_inserted c s e M = some (insw x L R s e) := by
  have := ln_b L
  have := ln_b R
  obtain ⟨a1, a2⟩ := fa_r (x := x) (Int.le_refl 0) h0 (by omega)
  obtain ⟨b1, b2⟩ := fa_r (x := x) h0 h1 h2
  obtain ⟨c1, c2⟩ := fa_r (x := x) (s := e) (e := ln x) (by omega) h2 (by omega)
  obtain ⟨d1, d2⟩ := jn_r a2 hL (by omega)
  obtain ⟨f1, f2⟩ := jn_r b2 hR (by omega)
  obtain ⟨g1, g2⟩ := jn_r d2 f2 (by omega)
  unfold F_X11_inserted
  rw [e1, e2, e3, e4, FX11_part hx (Int.le_refl 0) h0 (by omega)]
  simp only [zb1_some]
  rw [zchk_pos hc, FX11_joined a2 hL (by omega)]
  simp only [zb1_some]
  rw [FX11_part hx h0 h1 h2]
  simp only [zb1_some]
  rw [zchk_pos hc, FX11_joined b2 hR (by omega)]
  simp only [zb1_some]
  rw [FX11_joined d2 f2 (by omega)]
  simp only [zb1_some]
  rw [FX11_part hx (by omega) h2 (by omega)]
  simp only [zb1_some]
  rw [FX11_joined g2 c2 (by omega)]
  simp only [zb1_some]
  rw [jn_assoc b2 hR (by omega)]
  rfl
theorem FX11_isFactor {M : zM} {v n : Int} (h0 : 0 ≤ v) (h1 : v < 1000) (e4 : M 48 21 = n) : Ok (F_X11_isFactor v M) (fun r => tv r (v / 10 ≤ v % 10 ∧ v % 10 ≤ n)) := by
  unfold F_X11_isFactor F_X11_isFactor_J26
  rw [e4, zrem_e h0 (by omega) (by decide) (by decide), zdiv_e h0 (by omega) (by decide) (by decide)]
  exact Ok.ite (fun q => Ok.ret (tv_f (by omega))) (fun q => Ok.ite (fun q2 => Ok.ret (tv_f (by omega))) (fun q2 => Ok.ret (tv_t (by omega))))
