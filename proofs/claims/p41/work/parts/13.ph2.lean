/-! PURE 66: texts: the reference's reader, its small steps -/
theorem zs_self {M : zM} {a : Nat} {k v : Int} (h : M a k = v) : zs M a k v = M := by
  funext b j
  by_cases e : b = a
  · by_cases e2 : j = k
    · rw [e, e2, zs_at, h]
    · rw [zs_off _ _ (Or.inr e2)]
  · rw [zs_off _ _ (Or.inl e)]
/-- from M to M1 only the reference's reader has moved -/
def qfr (M M1 : zM) : Prop := mfr (fun b => b = 55) (fun k => 13 ≤ k ∧ k ≤ 17) M M1
theorem qfr.refl {M : zM} : qfr M M := mfr.refl
theorem qfr.trans {M M1 M2 : zM} (h : qfr M M1) (i : qfr M1 M2) : qfr M M2 := mfr.trans h i
theorem qfr.fld {M : zM} {k v : Int} (h : 13 ≤ k ∧ k ≤ 17) : qfr M (zs M 48 k v) := mfr.fld h
theorem qfr.cell {M : zM} {k v : Int} : qfr M (zs M 55 k v) := mfr.cell rfl (by decide)
/-- the reference's reader at position p, op signs open, with the acts pr, without a fault -/
def mpS (T pr : List Int) (p : Nat) (op : Int) (M : zM) : Prop := M 48 12 = (T.length : Int) ∧ M 48 13 = (p : Int) ∧ M 48 14 = -1 ∧ M 48 15 = op ∧ M 48 17 = (pr.length : Int) ∧ rowl (M 54) T ∧ rowl (M 55) pr
def mOk (T pr : List Int) (p : Nat) (op : Int) (M M1 : zM) : Prop := mpS T pr p op M1 ∧ qfr M M1
def mFt (q : Nat) (M M1 : zM) : Prop := M1 48 14 = (q : Int) ∧ qfr M M1
theorem mOk.pre {T pr : List Int} {p : Nat} {op : Int} {M M1 M2 : zM} (h : qfr M M1) (i : mOk T pr p op M1 M2) : mOk T pr p op M M2 := ⟨i.1, h.trans i.2⟩
theorem mFt.pre {q : Nat} {M M1 M2 : zM} (h : qfr M M1) (i : mFt q M1 M2) : mFt q M M2 := ⟨i.1, h.trans i.2⟩
def sgT (T : List Int) (p : Nat) : Int := if p < T.length then chT T p else -1
theorem sgT_eq {T : List Int} {p : Nat} {c : Int} (hc : 0 < c) : sgT T p = c ↔ chT T p = c := by
  unfold sgT
  by_cases h : p < T.length
  · rw [if_pos h]
  · rw [if_neg h, chT_out (by omega)]; omega
theorem sgT_in {T : List Int} {p : Nat} {a b : Int} (ha : 0 < a) : (a ≤ sgT T p ∧ sgT T p ≤ b) ↔ (a ≤ chT T p ∧ chT T p ≤ b) := by
  unfold sgT
  by_cases h : p < T.length
  · rw [if_pos h]
  · rw [if_neg h, chT_out (by omega)]; omega
section
variable {T pr : List Int} {p : Nat} {op : Int} {M : zM}
theorem MP_sign (hT : txtT T) (h : mpS T pr p op M) : F_X11_sign M = some (sgT T p) := by
  obtain ⟨h1, h2, h3, h4, h5, h6, h7⟩ := h
  have h60 := hT.1
  unfold F_X11_sign sgT
  rw [h1, h2]
  by_cases e : p < T.length
  · rw [if_pos (by omega), zchk_pos ⟨by omega, by omega⟩, if_pos e, h6 p _ (chT_in e)]
  · rw [if_neg (by omega), if_neg e]
theorem mpS.mv (h : mpS T pr p op M) (q : Nat) : mpS T pr q op (zs M 48 13 (q : Int)) ∧ qfr M (zs M 48 13 (q : Int)) := by
  obtain ⟨h1, h2, h3, h4, h5, h6, h7⟩ := h
  refine ⟨⟨?_, zs_at M 48 13 _, ?_, ?_, ?_, ?_, ?_⟩, qfr.fld (by decide)⟩
  · rw [zs_off _ _ (Or.inr (by decide))]; exact h1
  · rw [zs_off _ _ (Or.inr (by decide))]; exact h3
  · rw [zs_off _ _ (Or.inr (by decide))]; exact h4
  · rw [zs_off _ _ (Or.inr (by decide))]; exact h5
  · rw [zs_ne _ _ _ (by decide)]; exact h6
  · rw [zs_ne _ _ _ (by decide)]; exact h7
theorem mpS.nx (h : mpS T pr p op M) (h60 : p < 60) : zs M 48 13 (w ((M 48 13) + 1)) = zs M 48 13 ((p + 1 : Nat) : Int) := by
  rw [h.2.1, w_id (by omega)]
  congr 1
theorem mpS.st (h : mpS T pr p op M) (h60 : p ≤ 60) : zs M 48 13 (w ((M 48 13) + 0)) = M := by
  rw [h.2.1, w_id (by omega)]
  exact zs_self (by rw [h.2.1]; omega)
theorem mpS.ft (h : mpS T pr p op M) (q : Nat) : mFt q M (zs M 48 14 (q : Int)) := ⟨zs_at M 48 14 _, qfr.fld (by decide)⟩
theorem mpS.fh (h : mpS T pr p op M) : mFt p M (zs M 48 14 (M 48 13)) := by rw [h.2.1]; exact h.ft p
theorem MP_goes_y {c : Int} (hT : txtT T) (h : mpS T pr p op M) (hc : 0 < c) (e : chT T p = c) : ∃ M1, F_X11_goes c M = some (1, M1) ∧ mpS T pr (p + 1) op M1 ∧ qfr M M1 := by
  have hl := chT_lt (T := T) (p := p) (by omega)
  have h60 := hT.1
  refine ⟨zs M 48 13 ((p + 1 : Nat) : Int), ?_, (h.mv (p + 1)).1, (h.mv (p + 1)).2⟩
  unfold F_X11_goes F_X11_goes_J20 F_X11_goes_J35
  rw [h.2.2.1, if_pos (by decide), MP_sign hT h]
  simp only [zb1_some]
  rw [if_pos ((sgT_eq hc).2 e), if_neg (by decide), zlet_eq, zchk_pos (by decide), h.nx (by omega)]
theorem MP_goes_n {c : Int} (hT : txtT T) (h : mpS T pr p op M) (hp : p ≤ T.length) (hc : 0 < c) (e : chT T p ≠ c) : F_X11_goes c M = some (0, M) := by
  have h60 := hT.1
  unfold F_X11_goes F_X11_goes_J19 F_X11_goes_J20 F_X11_goes_J35
  rw [h.2.2.1, if_pos (by decide), MP_sign hT h]
  simp only [zb1_some]
  rw [if_neg (fun q => e ((sgT_eq hc).1 q)), if_pos trivial, zlet_eq, zchk_pos (by decide), h.st (by omega)]
theorem MP_expect_y {c : Int} (hT : txtT T) (h : mpS T pr p op M) (hc : 0 < c) (e : chT T p = c) : ∃ M1, F_X11_expect c M = some M1 ∧ mpS T pr (p + 1) op M1 ∧ qfr M M1 := by
  obtain ⟨M1, a1, a2, a3⟩ := MP_goes_y hT h hc e
  refine ⟨M1, ?_, a2, a3⟩
  unfold F_X11_expect
  rw [a1]
  simp only [zb2_some]
  rw [if_neg (by decide)]
theorem MP_expect_n {c : Int} (hT : txtT T) (h : mpS T pr p op M) (hp : p ≤ T.length) (hc : 0 < c) (e : chT T p ≠ c) : ∃ M1, F_X11_expect c M = some M1 ∧ mFt p M M1 := by
  refine ⟨_, ?_, h.fh⟩
  unfold F_X11_expect
  rw [MP_goes_n hT h hp hc e]
  simp only [zb2_some]
  rw [if_pos trivial, h.2.2.1, if_pos (by decide), zlet_eq]
theorem MP_isL (hT : txtT T) (h : mpS T pr p op M) : F_X11_isLetter M = some (if 97 ≤ chT T p ∧ chT T p ≤ 99 then 1 else 0) := by
  unfold F_X11_isLetter F_X11_isLetter_J25
  rw [h.2.2.1, if_pos (by decide), MP_sign hT h]
  simp only [zb1_some]
  rw [FX11_isIn]
  simp only [zb1_some]
  by_cases e : 97 ≤ chT T p ∧ chT T p ≤ 99
  · rw [if_pos ((sgT_in (by decide)).2 e), if_pos e, if_neg (by decide)]
  · rw [if_neg (fun q => e ((sgT_in (by decide)).1 q)), if_neg e, if_pos rfl]
theorem sgT_l (e : 97 ≤ chT T p ∧ chT T p ≤ 99) : sgT T p = chT T p := by
  unfold sgT
  rw [if_pos (chT_lt (by omega))]
theorem MP_put {a : Int} (h : mpS T pr p op M) (hl : pr.length < 60) : ∃ M1, F_X11_put a M = some M1 ∧ mpS T (pr ++ [a]) p op M1 ∧ qfr M M1 := by
  obtain ⟨h1, h2, h3, h4, h5, h6, h7⟩ := h
  refine ⟨zs (zs M 55 (pr.length : Int) a) 48 17 ((pr.length : Int) + 1), ?_, ⟨?_, ?_, ?_, ?_, ?_, ?_, ?_⟩, qfr.trans (M1 := zs M 55 (pr.length : Int) a) qfr.cell (qfr.fld (by decide))⟩
  · unfold F_X11_put
    rw [h3, if_pos (by decide), h5, zchk_pos ⟨by omega, by omega⟩]
    simp only [zlet_eq]
    rw [zs_ne M (a := 55) (b := 48) _ _ (by decide), h5, w_id (by omega)]
  · rw [zs_off _ _ (Or.inr (by decide)), zs_ne _ _ _ (by decide)]; exact h1
  · rw [zs_off _ _ (Or.inr (by decide)), zs_ne _ _ _ (by decide)]; exact h2
  · rw [zs_off _ _ (Or.inr (by decide)), zs_ne _ _ _ (by decide)]; exact h3
  · rw [zs_off _ _ (Or.inr (by decide)), zs_ne _ _ _ (by decide)]; exact h4
  · rw [zs_at, List.length_append]; rfl
  · rw [zs_ne _ _ _ (by decide), zs_ne _ _ _ (by decide)]; exact h6
  · rw [zs_ne _ _ _ (by decide)]
    have h := rowl_push (v := a) h7 rfl
    intro i v hi
    rw [zs_eq]
    exact h i v hi
theorem MP_opens_y (h : mpS T pr p op M) (ho : 0 ≤ op ∧ op < 6) : ∃ M1, F_X11_opens M = some M1 ∧ mpS T pr p (op + 1) M1 ∧ qfr M M1 := by
  obtain ⟨h1, h2, h3, h4, h5, h6, h7⟩ := h
  refine ⟨zs M 48 15 (op + 1), ?_, ⟨?_, ?_, ?_, zs_at M 48 15 _, ?_, ?_, ?_⟩, qfr.fld (by decide)⟩
  · unfold F_X11_opens F_X11_opens_J26
    rw [h4, if_neg (by omega), w_id (by omega), zlet_eq]
  · rw [zs_off _ _ (Or.inr (by decide))]; exact h1
  · rw [zs_off _ _ (Or.inr (by decide))]; exact h2
  · rw [zs_off _ _ (Or.inr (by decide))]; exact h3
  · rw [zs_off _ _ (Or.inr (by decide))]; exact h5
  · rw [zs_ne _ _ _ (by decide)]; exact h6
  · rw [zs_ne _ _ _ (by decide)]; exact h7
theorem MP_opens_n {q : Nat} (h : mpS T pr p 6 M) (hq : p = q + 1) (h60 : p ≤ 60) : ∃ M1, F_X11_opens M = some M1 ∧ mFt q M M1 := by
  obtain ⟨h1, h2, h3, h4, h5, h6, h7⟩ := h
  refine ⟨zs (zs M 48 14 (q : Int)) 48 15 7, ?_, ?_, qfr.trans (M1 := zs M 48 14 (q : Int)) (qfr.fld (by decide)) (qfr.fld (by decide))⟩
  · unfold F_X11_opens F_X11_opens_J26
    rw [h4, if_pos rfl, h3, if_pos (by decide), h2, w_id (by omega), zlet_eq, zs_off _ _ (Or.inr (by decide)), h4, w_id (by omega), zlet_eq, show (p : Int) - 1 = (q : Int) by omega]
    rfl
  · rw [zs_off _ _ (Or.inr (by decide)), zs_at]
theorem mpS.opn (h : mpS T pr p op M) (v : Int) : mpS T pr p v (zs M 48 15 v) ∧ qfr M (zs M 48 15 v) := by
  obtain ⟨h1, h2, h3, h4, h5, h6, h7⟩ := h
  refine ⟨⟨?_, ?_, ?_, zs_at M 48 15 _, ?_, ?_, ?_⟩, qfr.fld (by decide)⟩
  · rw [zs_off _ _ (Or.inr (by decide))]; exact h1
  · rw [zs_off _ _ (Or.inr (by decide))]; exact h2
  · rw [zs_off _ _ (Or.inr (by decide))]; exact h3
  · rw [zs_off _ _ (Or.inr (by decide))]; exact h5
  · rw [zs_ne _ _ _ (by decide)]; exact h6
  · rw [zs_ne _ _ _ (by decide)]; exact h7
end
/-! with a fault nothing is read any more -/
theorem mFt.go {q : Nat} {M M1 M2 : zM} (h : mFt q M M1) (i : mFt q M1 M2) : mFt q M M2 := ⟨i.1, h.2.trans i.2⟩
theorem mFt.fld {q : Nat} {M : zM} {k v : Int} (h : M 48 14 = (q : Int)) (hk : 13 ≤ k ∧ k ≤ 17) (hk2 : k ≠ 14) : mFt q M (zs M 48 k v) := ⟨by rw [zs_off _ _ (Or.inr (Ne.symm hk2))]; exact h, qfr.fld hk⟩
theorem mFt.refl {q : Nat} {M : zM} (h : M 48 14 = (q : Int)) : mFt q M M := ⟨h, qfr.refl⟩
section
variable {q : Nat} {M : zM}
theorem MF_goes {c : Int} (h : M 48 14 = (q : Int)) : Ok (F_X11_goes c M) (fun r => r.1 = 0 ∧ mFt q M r.2) := by
  unfold F_X11_goes F_X11_goes_J19 F_X11_goes_J20 F_X11_goes_J35
  refine Ok.neg (by omega) (Ok.pos rfl (Ok.lett (Ok.chk (by decide) (Ok.ret ⟨rfl, mFt.fld h (by decide) (by decide)⟩))))
theorem MF_expect {c : Int} (h : M 48 14 = (q : Int)) : Ok (F_X11_expect c M) (mFt q M) := by
  unfold F_X11_expect
  refine Ok.b2 (MF_goes h) (fun v M1 ⟨a1, a2⟩ => ?_)
  dsimp only at a1 a2
  refine Ok.pos a1 (Ok.neg (by rw [a2.1]; omega) (Ok.ret a2))
theorem MF_isL (h : M 48 14 = (q : Int)) : F_X11_isLetter M = some 0 := by
  unfold F_X11_isLetter F_X11_isLetter_J25
  rw [if_neg (by omega)]
theorem MF_put {a : Int} (h : M 48 14 = (q : Int)) : F_X11_put a M = some M := by
  unfold F_X11_put
  rw [if_neg (by omega)]
theorem MF_word {a b : Int} (h : M 48 14 = (q : Int)) : F_X11_readWord a b M = some (0, M) := by
  refine Ok.eqs (b := ((0 : Int), M)) ?_
  unfold F_X11_readWord F_X11_readWord_L5
  refine Ok.loop (fun z => z = ((0 : Int), (0 : Int), M)) (fun _ => 0) (fun e => e = ((0 : Int), (0 : Int), M)) rfl (by rw [zN_v]; decide) ?_ ?_
  · rintro z rfl
    dsimp only
    unfold F_X11_readWord_B5
    rw [MF_isL h]
    simp only [zb1_some]
    exact Ok.ite (fun _ => Ok.pos trivial (Ok.ret rfl)) (fun _ => Ok.ret rfl)
  · rintro e rfl
    dsimp only
    unfold F_X11_readWord_J48
    exact Ok.ite (fun _ => Ok.neg (by omega) (Ok.ret rfl)) (fun _ => Ok.ret rfl)
theorem MF_digit31 (h : M 48 14 = (q : Int)) : Ok (F_X11_readDigit_J31 M) (fun r => mFt q M r.2) := by
  unfold F_X11_readDigit_J31 F_X11_readDigit_J49 F_X11_readDigit_J67
  exact Ok.neg (by omega) (Ok.neg (by omega) (Ok.lett (Ok.ret (mFt.fld h (by decide) (by decide)))))
theorem MF_digit {a : Int} (h : M 48 14 = (q : Int)) : Ok (F_X11_readDigit a M) (fun r => mFt q M r.2) := by
  unfold F_X11_readDigit
  exact Ok.neg (by omega) (MF_digit31 h)
theorem MF_J90 {a b : Int} (h : M 48 14 = (q : Int)) : Ok (F_X11_readComparison_J90 a b M) (mFt q M) := by
  unfold F_X11_readComparison_J90
  refine Ok.b2 (MF_digit h) (fun v M1 a1 => ?_)
  dsimp only at a1
  rw [MF_put a1.1]
  simp only [zb1_some]
  exact Ok.ret a1
theorem MF_J78 {a b : Int} (h : M 48 14 = (q : Int)) : Ok (F_X11_readComparison_J78 a b M) (mFt q M) := by
  unfold F_X11_readComparison_J78
  refine Ok.ite (fun _ => Ok.b1 (MF_expect h) (fun M1 a1 => (MF_J90 a1.1).mono (fun M2 a2 => a1.go a2))) (fun _ => MF_J90 h)
theorem MF_J51 {a : Int} (h : M 48 14 = (q : Int)) : Ok (F_X11_readComparison_J51 a M) (mFt q M) := by
  unfold F_X11_readComparison_J51
  refine Ok.b2 (MF_goes h) (fun v M1 ⟨a1, a2⟩ => ?_)
  dsimp only at a1 a2
  refine Ok.pos a1 (Ok.b2 (MF_goes a2.1) (fun v M2 ⟨b1, b2⟩ => ?_))
  dsimp only at b1 b2
  exact Ok.pos b1 ((MF_J78 b2.1).mono (fun M3 c => a2.go (b2.go c)))
theorem MF_comp (h : M 48 14 = (q : Int)) : Ok (F_X11_readComparison M) (mFt q M) := by
  unfold F_X11_readComparison F_X11_readComparison_J18
  rw [MF_isL h]
  simp only [zb1_some]
  refine Ok.pos trivial (Ok.pos trivial ?_)
  unfold F_X11_readComparison_J36
  refine Ok.lett (Ok.pos rfl ?_)
  have h1 : mFt q M (zs M 48 13 (w ((M 48 13) + 0))) := mFt.fld h (by decide) (by decide)
  exact Ok.b1 (MF_expect h1.1) (fun M1 a1 => (MF_J51 a1.1).mono (fun M2 a2 => h1.go (a1.go a2)))
theorem MF_one {rc : Nat → zM → Option zM} (h : M 48 14 = (q : Int)) : Ok (F_X11_readOne rc M) (mFt q M) := by
  unfold F_X11_readOne
  refine Ok.b2 (MF_goes h) (fun v M1 ⟨a1, a2⟩ => ?_)
  dsimp only at a1 a2
  refine Ok.pos a1 (Ok.b2 (MF_goes a2.1) (fun v M2 ⟨b1, b2⟩ => ?_))
  dsimp only at b1 b2
  replace b2 := a2.go b2
  refine Ok.pos b1 (Ok.b2 (MF_goes b2.1) (fun v M3 ⟨c1, c2⟩ => ?_))
  dsimp only at c1 c2
  replace c2 := b2.go c2
  refine Ok.pos c1 (Ok.b2 (MF_goes c2.1) (fun v M4 ⟨d1, d2⟩ => ?_))
  dsimp only at d1 d2
  replace d2 := c2.go d2
  refine Ok.pos d1 (Ok.b2 (MF_goes d2.1) (fun v M5 ⟨e1, e2⟩ => ?_))
  dsimp only at e1 e2
  replace e2 := d2.go e2
  refine Ok.pos e1 (Ok.b2 (MF_goes e2.1) (fun v M6 ⟨f1, f2⟩ => ?_))
  dsimp only at f1 f2
  replace f2 := e2.go f2
  exact Ok.pos f1 (Ok.b1 (MF_comp f2.1) (fun M7 g => Ok.ret (f2.go g)))
theorem MF_all {rc : Nat → zM → Option zM} (hr : ∀ M1 : zM, M1 48 14 = (q : Int) → Ok (rc 2 M1) (mFt q M1)) (h : M 48 14 = (q : Int)) : Ok (F_X11_readAll rc M) (mFt q M) := by
  unfold F_X11_readAll
  refine Ok.b1 (hr M h) (fun M1 a1 => ?_)
  unfold F_X11_readAll_L4
  refine Ok.loop (fun z => z = M1) (fun _ => 0) (fun e => mFt q M1 e) rfl (by rw [zN_v]; decide) ?_ (fun e he => by unfold F_X11_readAll_J25; exact Ok.ret (a1.go he))
  rintro z rfl
  unfold F_X11_readAll_B4
  refine Ok.b2 (MF_goes a1.1) (fun v M2 ⟨b1, b2⟩ => ?_)
  dsimp only at b1 b2
  exact Ok.pos b1 (Ok.ret b2)
theorem MF_sel {rc : Nat → zM → Option zM} (hr : ∀ M1 : zM, M1 48 14 = (q : Int) → Ok (rc 1 M1) (mFt q M1)) (h : M 48 14 = (q : Int)) : Ok (F_X11_readSelector rc M) (mFt q M) := by
  unfold F_X11_readSelector
  refine Ok.b1 (hr M h) (fun M1 a1 => ?_)
  unfold F_X11_readSelector_L4
  refine Ok.loop (fun z => z = M1) (fun _ => 0) (fun e => mFt q M1 e) rfl (by rw [zN_v]; decide) ?_ (fun e he => by unfold F_X11_readSelector_J25; exact Ok.ret (a1.go he))
  rintro z rfl
  unfold F_X11_readSelector_B4
  refine Ok.b2 (MF_goes a1.1) (fun v M2 ⟨b1, b2⟩ => ?_)
  dsimp only at b1 b2
  exact Ok.pos b1 (Ok.ret b2)
end
theorem MF_GQ2 {q : Nat} {M : zM} (n : Nat) (hn : 1 ≤ n) (h : M 48 14 = (q : Int)) : Ok (F_GQ n 2 M) (mFt q M) := by
  obtain ⟨m, rfl⟩ : ∃ m, n = m + 1 := ⟨n - 1, by omega⟩
  show Ok (if 2 = 0 then F_X11_readSelector (F_GQ m) M else if 2 = 1 then F_X11_readAll (F_GQ m) M else F_X11_readOne (F_GQ m) M) (mFt q M)
  exact Ok.neg (by decide) (Ok.neg (by decide) (MF_one h))
theorem MF_GQ1 {q : Nat} {M : zM} (n : Nat) (hn : 2 ≤ n) (h : M 48 14 = (q : Int)) : Ok (F_GQ n 1 M) (mFt q M) := by
  obtain ⟨m, rfl⟩ : ∃ m, n = m + 1 := ⟨n - 1, by omega⟩
  show Ok (if 1 = 0 then F_X11_readSelector (F_GQ m) M else if 1 = 1 then F_X11_readAll (F_GQ m) M else F_X11_readOne (F_GQ m) M) (mFt q M)
  exact Ok.neg (by decide) (Ok.pos rfl (MF_all (fun M1 h1 => MF_GQ2 m (by omega) h1) h))
theorem MF_GQ0 {q : Nat} {M : zM} (n : Nat) (hn : 3 ≤ n) (h : M 48 14 = (q : Int)) : Ok (F_GQ n 0 M) (mFt q M) := by
  obtain ⟨m, rfl⟩ : ∃ m, n = m + 1 := ⟨n - 1, by omega⟩
  show Ok (if 0 = 0 then F_X11_readSelector (F_GQ m) M else if 0 = 1 then F_X11_readAll (F_GQ m) M else F_X11_readOne (F_GQ m) M) (mFt q M)
  exact Ok.pos rfl (MF_sel (fun M1 h1 => MF_GQ1 m (by omega) h1) h)
