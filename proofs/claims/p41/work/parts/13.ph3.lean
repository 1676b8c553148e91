/-! PURE 67: texts: words, digits, comparisons on both sides -/
section
variable {T pr : List Int} {p : Nat} {op : Int} {M : zM}
theorem MP_word {a m : Nat} (hT : txtT T) (h : mpS T pr p op M) (hm : m ≤ 8) (hp : p ≤ T.length) (ha : a ≤ 1) : Ok (F_X11_readWord (a : Int) (m : Int) M) (fun r => r.1 = lwT T p m 0 ∧ ((a ≤ lcT T p m ∧ mOk T pr (p + lcT T p m) op M r.2) ∨ (lcT T p m < a ∧ mFt p M r.2))) := by
  unfold F_X11_readWord F_X11_readWord_L5
  refine Ok.loop (fun z => ∃ i q : Nat, z.2.1 = i ∧ i ≤ m ∧ q ≤ T.length ∧ mpS T pr q op z.2.2 ∧ qfr M z.2.2 ∧ wd z.1 ∧ ln z.1 = i ∧ lwT T q (m - i) z.1 = lwT T p m 0 ∧ q + lcT T q (m - i) = p + lcT T p m ∧ q = p + i) (fun z => (100 - z.2.1).toNat) (fun e => e.1 = lwT T p m 0 ∧ e.2.1 = (lcT T p m : Nat) ∧ mpS T pr (p + lcT T p m) op e.2.2 ∧ qfr M e.2.2) ⟨0, p, rfl, by omega, hp, h, qfr.refl, wd_z, ln_z, rfl, rfl, rfl⟩ (by show (100 - (0 : Int)).toNat < zN; decide) ?_ ?_
  · rintro ⟨v3, v4, M1⟩ ⟨i, q, i1, i2, i3, i4, i5, i6, i7, i8, i9, i10⟩
    dsimp only at i1 i2 i3 i4 i5 i6 i7 i8 i9 i10 ⊢
    subst i1
    unfold F_X11_readWord_B5
    refine Ok.ite (fun c => ?_) (fun c => Ok.ret ?_)
    · obtain ⟨n, hn⟩ : ∃ n, m - i = n + 1 := ⟨m - i - 1, by omega⟩
      rw [hn] at i8 i9
      rw [lwT_s] at i8
      rw [lcT_s] at i9
      rw [MP_isL hT i4]
      simp only [zb1_some]
      have h60 := hT.1
      by_cases e : 97 ≤ chT T q ∧ chT T q ≤ 99
      · rw [if_pos e] at i8 i9
        rw [if_pos e]
        have hl := chT_lt (T := T) (p := q) (by omega)
        obtain ⟨a1, a2, a3⟩ := lw_nx i6 (by omega) e
        refine Ok.neg (by decide) ?_
        obtain ⟨_, b2, b3⟩ := jn_3 (x := v3) (d := 1 + chT T q - 97) (by omega)
        rw [MP_sign hT i4, sgT_l e]
        simp only [zb1_some]
        rw [w_id (a := 1 + chT T q - 97) (by omega), FX11_joined i6 b3 (by omega), ← a3, i4.nx (by omega), w_id (a := (i : Int) + 1) (by omega)]
        simp only [zb1_some]
        refine Ok.lett (Ok.lett (Ok.ret ⟨⟨i + 1, q + 1, by show (i : Int) + 1 = _; omega, by omega, by omega, (i4.mv (q + 1)).1, i5.trans (i4.mv (q + 1)).2, a1, by rw [a2, i7]; omega, ?_, ?_, by omega⟩, by show (100 - ((i : Int) + 1)).toNat < (100 - (i : Int)).toNat; omega⟩))
        · rw [show m - (i + 1) = n by omega]; exact i8
        · rw [show m - (i + 1) = n by omega]; omega
      · rw [if_neg e] at i8 i9
        rw [if_neg e]
        refine Ok.pos rfl (Ok.ret ?_)
        exact ⟨i8, by show (i : Int) = _; omega, by rw [← i9]; exact i4, i5⟩
    · have e0 : m - i = 0 := by omega
      rw [e0] at i8 i9
      have i9' : q + 0 = p + lcT T p m := i9
      exact ⟨i8, by show (i : Int) = _; omega, by rw [← i9]; exact i4, i5⟩
  · rintro ⟨v3, v4, M1⟩ ⟨b1, b2, b3, b4⟩
    dsimp only at b1 b2 b3 b4 ⊢
    unfold F_X11_readWord_J48
    rw [b2]
    refine Ok.ite (fun c => Ok.pos (by rw [b3.2.2.1]; decide) (Ok.lett (Ok.ret ⟨b1, Or.inr ⟨by omega, ?_⟩⟩))) (fun c => Ok.ret ⟨b1, Or.inl ⟨by omega, b3, b4⟩⟩)
    have e0 : lcT T p m = 0 := by omega
    rw [e0] at b3
    exact mFt.pre b4 b3.fh
theorem MP_J67 {d : Int} (h : mpS T pr p op M) (h60 : p < 60) : F_X11_readDigit_J49 d M = some (d, zs M 48 13 ((p + 1 : Nat) : Int)) := by
  unfold F_X11_readDigit_J49 F_X11_readDigit_J67
  rw [h.2.2.1, if_pos (by decide), h.nx h60, zlet_eq]
theorem MP_digit {a : Int} (hT : txtT T) (h : mpS T pr p op M) (ha : 0 ≤ a ∧ a ≤ 9) : Ok (F_X11_readDigit a M) (fun r => if 48 + a ≤ chT T p ∧ chT T p ≤ 57 then r.1 = chT T p - 48 ∧ mOk T pr (p + 1) op M r.2 else mFt p M r.2) := by
  unfold F_X11_readDigit
  refine Ok.pos (by rw [h.2.2.1]; decide) ?_
  rw [MP_sign hT h]
  simp only [zb1_some]
  rw [FX11_isIn, w_id (a := 48 + a) (by omega)]
  simp only [zb1_some]
  by_cases e : 48 + a ≤ chT T p ∧ chT T p ≤ 57
  · have hl := chT_lt (T := T) (p := p) (by omega)
    have h60 := hT.1
    have es : sgT T p = chT T p := by unfold sgT; rw [if_pos hl]
    rw [es, if_pos e]
    refine Ok.neg (by decide) ?_
    unfold F_X11_readDigit_J31
    refine Ok.pos (by rw [h.2.2.1]; decide) ?_
    rw [MP_sign hT h, es]
    simp only [zb1_some]
    rw [w_id (a := chT T p - 48) (by omega), MP_J67 h (by omega)]
    refine Ok.ret ?_
    rw [if_pos e]
    exact ⟨rfl, (h.mv (p + 1)).1, (h.mv (p + 1)).2⟩
  · rw [if_neg (fun q => e ((sgT_in (by omega)).1 q))]
    refine Ok.pos rfl (Ok.lett ?_)
    have f := h.fh
    refine (MF_digit31 f.1).mono (fun r a1 => ?_)
    rw [if_neg e]
    exact f.go a1
/-- a comparison: where it is at fault, its act -/
def cmpF (T : List Int) (p : Nat) : Option Nat := if chT T p = 35 ∨ (97 ≤ chT T p ∧ chT T p ≤ 99) then (if 60 ≤ chT T (p + 1) ∧ chT T (p + 1) ≤ 62 then (if 48 ≤ chT T (p + 2) ∧ chT T (p + 2) ≤ 57 then none else some (p + 2)) else some (p + 1)) else some p
def cmpW (T : List Int) (p : Nat) : Int := if chT T p = 35 then 3 else chT T p - 97
def cmpA (T : List Int) (p : Nat) : Int := 1000 + 100 * cmpW T p + 10 * (chT T (p + 1) - 60) + (chT T (p + 2) - 48)
theorem cmpW_r (h : chT T p = 35 ∨ (97 ≤ chT T p ∧ chT T p ≤ 99)) : 0 ≤ cmpW T p ∧ cmpW T p ≤ 3 := by
  unfold cmpW
  by_cases e : chT T p = 35
  · rw [if_pos e]; omega
  · rw [if_neg e]; omega
theorem MP_J90 {v hw : Int} (hT : txtT T) (h : mpS T pr p op M) (hl : pr.length < 60) (hv : 0 ≤ v ∧ v ≤ 3) (hh : 0 ≤ hw ∧ hw ≤ 2) : Ok (F_X11_readComparison_J90 v hw M) (fun r => if 48 ≤ chT T p ∧ chT T p ≤ 57 then mOk T (pr ++ [1000 + 100 * v + 10 * hw + (chT T p - 48)]) (p + 1) op M r else mFt p M r) := by
  unfold F_X11_readComparison_J90
  refine Ok.b2 (MP_digit (a := 0) hT h (by decide)) (fun d M1 a1 => ?_)
  dsimp only at a1
  rw [Int.add_zero] at a1
  by_cases e : 48 ≤ chT T p ∧ chT T p ≤ 57
  · rw [if_pos e] at a1
    obtain ⟨a1, a2⟩ := a1
    subst a1
    rw [w_id (by omega)]
    obtain ⟨M2, b1, b2, b3⟩ := MP_put (a := 1000 + 100 * v + 10 * hw + (chT T p - 48)) a2.1 hl
    rw [b1]
    simp only [zb1_some]
    refine Ok.ret ?_
    rw [if_pos e]
    exact ⟨b2, a2.2.trans b3⟩
  · rw [if_neg e] at a1
    rw [MF_put a1.1]
    simp only [zb1_some]
    refine Ok.ret ?_
    rw [if_neg e]
    exact a1
theorem MP_J51 {v : Int} (hT : txtT T) (h : mpS T pr p op M) (hp : p ≤ T.length) (hl : pr.length < 60) (hv : 0 ≤ v ∧ v ≤ 3) : Ok (F_X11_readComparison_J51 v M) (fun r => if 60 ≤ chT T p ∧ chT T p ≤ 62 then (if 48 ≤ chT T (p + 1) ∧ chT T (p + 1) ≤ 57 then mOk T (pr ++ [1000 + 100 * v + 10 * (chT T p - 60) + (chT T (p + 1) - 48)]) (p + 2) op M r else mFt (p + 1) M r) else mFt p M r) := by
  have fin : ∀ (M1 : zM) (hw : Int), mpS T pr (p + 1) op M1 → qfr M M1 → chT T p = 60 + hw → 0 ≤ hw ∧ hw ≤ 2 → Ok (F_X11_readComparison_J90 v hw M1) (fun r => if 60 ≤ chT T p ∧ chT T p ≤ 62 then (if 48 ≤ chT T (p + 1) ∧ chT T (p + 1) ≤ 57 then mOk T (pr ++ [1000 + 100 * v + 10 * (chT T p - 60) + (chT T (p + 1) - 48)]) (p + 2) op M r else mFt (p + 1) M r) else mFt p M r) := fun M1 hw h1 hq e hh => by
    refine (MP_J90 hT h1 hl hv hh).mono (fun r a1 => ?_)
    rw [if_pos (by omega), show chT T p - 60 = hw by omega]
    by_cases e2 : 48 ≤ chT T (p + 1) ∧ chT T (p + 1) ≤ 57
    · rw [if_pos e2] at a1 ⊢; exact mOk.pre hq a1
    · rw [if_neg e2] at a1 ⊢; exact mFt.pre hq a1
  unfold F_X11_readComparison_J51
  by_cases e1 : chT T p = 60
  · obtain ⟨M1, a1, a2, a3⟩ := MP_goes_y hT h (by decide) e1
    rw [a1]
    simp only [zb2_some]
    unfold F_X11_readComparison_J78
    exact Ok.neg (by decide) (Ok.neg (by decide) (fin M1 0 a2 a3 (by omega) (by decide)))
  · rw [MP_goes_n hT h hp (by decide) e1]
    simp only [zb2_some]
    refine Ok.pos trivial ?_
    by_cases e2 : chT T p = 61
    · obtain ⟨M1, a1, a2, a3⟩ := MP_goes_y hT h (by decide) e2
      rw [a1]
      simp only [zb2_some]
      unfold F_X11_readComparison_J78
      exact Ok.neg (by decide) (Ok.neg (by decide) (fin M1 1 a2 a3 (by omega) (by decide)))
    · rw [MP_goes_n hT h hp (by decide) e2]
      simp only [zb2_some]
      refine Ok.pos trivial ?_
      unfold F_X11_readComparison_J78
      refine Ok.pos rfl ?_
      by_cases e3 : chT T p = 62
      · obtain ⟨M1, a1, a2, a3⟩ := MP_expect_y hT h (by decide) e3
        rw [a1]
        simp only [zb1_some]
        exact fin M1 2 a2 a3 (by omega) (by decide)
      · obtain ⟨M1, a1, a2⟩ := MP_expect_n hT h hp (by decide) e3
        rw [a1]
        simp only [zb1_some]
        refine (MF_J90 a2.1).mono (fun r a3 => ?_)
        rw [if_neg (by omega)]
        exact a2.go a3
theorem MP_comp (hT : txtT T) (h : mpS T pr p op M) (hp : p ≤ T.length) (hl : pr.length < 60) : Ok (F_X11_readComparison M) (fun r => match cmpF T p with | none => mOk T (pr ++ [cmpA T p]) (p + 3) op M r | some q => mFt q M r) := by
  have h60 := hT.1
  have fin : ∀ (M1 : zM), mpS T pr (p + 1) op M1 → qfr M M1 → p + 1 ≤ T.length → (chT T p = 35 ∨ (97 ≤ chT T p ∧ chT T p ≤ 99)) → Ok (F_X11_readComparison_J51 (cmpW T p) M1) (fun r => match cmpF T p with | none => mOk T (pr ++ [cmpA T p]) (p + 3) op M r | some q => mFt q M r) := fun M1 h1 hq hp1 e => by
    refine (MP_J51 hT h1 hp1 hl (cmpW_r e)).mono (fun r a1 => ?_)
    unfold cmpF cmpA
    rw [if_pos e]
    by_cases e1 : 60 ≤ chT T (p + 1) ∧ chT T (p + 1) ≤ 62
    · rw [if_pos e1] at a1 ⊢
      by_cases e2 : 48 ≤ chT T (p + 2) ∧ chT T (p + 2) ≤ 57
      · rw [if_pos e2]
        rw [if_pos (show 48 ≤ chT T (p + 1 + 1) ∧ chT T (p + 1 + 1) ≤ 57 from e2)] at a1
        exact mOk.pre hq a1
      · rw [if_neg e2]
        rw [if_neg (show ¬ (48 ≤ chT T (p + 1 + 1) ∧ chT T (p + 1 + 1) ≤ 57) from e2)] at a1
        exact mFt.pre hq a1
    · rw [if_neg e1] at a1 ⊢
      exact mFt.pre hq a1
  unfold F_X11_readComparison
  rw [MP_isL hT h]
  simp only [zb1_some]
  by_cases e : 97 ≤ chT T p ∧ chT T p ≤ 99
  · rw [if_pos e]
    have hl := chT_lt (T := T) (p := p) (by omega)
    refine Ok.neg (by decide) ?_
    rw [MP_sign hT h, sgT_l e]
    simp only [zb1_some]
    rw [w_id (a := chT T p - 97) (by omega)]
    unfold F_X11_readComparison_J18
    rw [MP_isL hT h, if_pos e]
    simp only [zb1_some]
    refine Ok.neg (by decide) ?_
    unfold F_X11_readComparison_J36
    rw [h.nx (by omega)]
    refine Ok.lett (Ok.neg (by omega) ?_)
    have ew : chT T p - 97 = cmpW T p := by unfold cmpW; rw [if_neg (by omega)]
    rw [ew]
    exact fin _ (h.mv (p + 1)).1 (h.mv (p + 1)).2 hl (Or.inr e)
  · rw [if_neg e]
    refine Ok.pos rfl ?_
    unfold F_X11_readComparison_J18
    rw [MP_isL hT h, if_neg e]
    simp only [zb1_some]
    refine Ok.pos trivial ?_
    unfold F_X11_readComparison_J36
    rw [h.st (by omega)]
    refine Ok.lett (Ok.pos rfl ?_)
    by_cases e2 : chT T p = 35
    · have hl := chT_lt (T := T) (p := p) (by omega)
      obtain ⟨M1, a1, a2, a3⟩ := MP_expect_y hT h (by decide) e2
      rw [a1]
      simp only [zb1_some]
      have ew : 3 = cmpW T p := by unfold cmpW; rw [if_pos e2]
      rw [ew]
      exact fin _ a2 a3 hl (Or.inl e2)
    · obtain ⟨M1, a1, a2⟩ := MP_expect_n hT h hp (by decide) e2
      rw [a1]
      simp only [zb1_some]
      refine (MF_J51 a2.1).mono (fun r a3 => ?_)
      unfold cmpF
      rw [if_neg (by omega)]
      exact a2.go a3
end
section
variable {T pr : List Int} {p : Nat} {M : zM}
theorem CP_comp (hT : txtT T) (h : cpS T pr p M) (hl : pr.length < 60) : Ok (F_X1_readComparison M) (fun r => match cmpF T p with | none => cOk T (pr ++ [cmpA T p]) (p + 3) M r | some q => cFt q M r) := by
  have h60 := hT.1
  have fin : (chT T p = 35 ∨ (97 ≤ chT T p ∧ chT T p ≤ 99)) → Ok (F_X1_readComparison_J29 (chT T p) M) (fun r => match cmpF T p with | none => cOk T (pr ++ [cmpA T p]) (p + 3) M r | some q => cFt q M r) := fun e => by
    have hl0 := chT_lt (T := T) (p := p) (by omega)
    unfold F_X1_readComparison_J29 cmpF
    rw [if_pos e, h.nx (by omega)]
    refine Ok.lett ?_
    obtain ⟨a1, a2⟩ := h.mv (p + 1)
    generalize zs M 2 4 ((p + 1 : Nat) : Int) = M1 at a1 a2 ⊢
    rw [CP_here hT a1]
    simp only [zb1_some]
    by_cases e1 : 60 ≤ chT T (p + 1) ∧ chT T (p + 1) ≤ 62
    · rw [if_pos e1]
      have hl1 := chT_lt (T := T) (p := p + 1) (by omega)
      refine Ok.neg (by omega) (Ok.neg (by omega) ?_)
      rw [a1.nx (by omega)]
      refine Ok.lett ?_
      obtain ⟨b1, b2⟩ := a1.mv (p + 1 + 1)
      generalize zs M1 2 4 ((p + 1 + 1 : Nat) : Int) = M2 at b1 b2 ⊢
      rw [CP_here hT b1]
      simp only [zb1_some]
      replace b2 := a2.trans b2
      by_cases e2 : 48 ≤ chT T (p + 2) ∧ chT T (p + 2) ≤ 57
      · rw [if_pos e2]
        have hl2 := chT_lt (T := T) (p := p + 2) (by omega)
        have e2' : 48 ≤ chT T (p + 1 + 1) ∧ chT T (p + 1 + 1) ≤ 57 := e2
        refine Ok.neg (by omega) (Ok.neg (by omega) ?_)
        rw [b1.nx (by omega)]
        refine Ok.lett ?_
        obtain ⟨c1, c2⟩ := b1.mv (p + 1 + 1 + 1)
        generalize zs M2 2 4 ((p + 1 + 1 + 1 : Nat) : Int) = M3 at c1 c2 ⊢
        replace c2 := b2.trans c2
        have hw := cmpW_r e
        have last : Ok (F_X1_readComparison_J119 (chT T (p + 1)) (chT T (p + 1 + 1)) (cmpW T p) M3) (cOk T (pr ++ [cmpA T p]) (p + 3) M) := by
          unfold F_X1_readComparison_J119
          rw [w_id (by omega)]
          obtain ⟨M4, d1, d2, d3⟩ := CP_add (s := 4) (g := ((cmpW T p) * 3 + (chT T (p + 1) - 60)) * 10 + (chT T (p + 1 + 1) - 48)) (a := cmpA T p) c1 hl (by
            rw [zstep (by decide) (by omega)]
            exact Or.inr (Or.inr (Or.inr (Or.inr (Or.inl ⟨cmpW T p, chT T (p + 1) - 60, chT T (p + 2) - 48, ⟨hw, by omega, by omega⟩, rfl, rfl⟩)))))
          rw [d1]
          simp only [zb2_some]
          exact Ok.chk (by decide) (Ok.ret ⟨rfl, d2, c2.trans d3⟩)
        by_cases e3 : chT T p = 35
        · have ew : cmpW T p = 3 := by unfold cmpW; rw [if_pos e3]
          rw [ew] at last
          exact Ok.pos e3 last
        · have ew : cmpW T p = chT T p - 97 := by unfold cmpW; rw [if_neg e3]
          rw [ew] at last
          rw [w_id (a := chT T p - 97) (by omega)]
          exact Ok.neg e3 last
      · rw [if_neg e2]
        have e2' : ¬ (48 ≤ chT T (p + 1 + 1) ∧ chT T (p + 1 + 1) ≤ 57) := e2
        have hr : cFt (p + 2) M (0, M2) := ⟨rfl, b1.2.2.1, b2⟩
        by_cases z : chT T (p + 1 + 1) < 48
        · exact Ok.pos z (Ok.ret hr)
        · exact Ok.neg z (Ok.pos (by omega) (Ok.ret hr))
    · rw [if_neg e1]
      have hr : cFt (p + 1) M (0, M1) := ⟨rfl, a1.2.2.1, a2⟩
      by_cases z : chT T (p + 1) < 60
      · exact Ok.pos z (Ok.ret hr)
      · exact Ok.neg z (Ok.pos (by omega) (Ok.ret hr))
  unfold F_X1_readComparison
  rw [CP_here hT h]
  simp only [zb1_some]
  by_cases e0 : chT T p = 35
  · have f := fin (Or.inl e0)
    exact Ok.pos e0 f
  · by_cases e : 97 ≤ chT T p ∧ chT T p ≤ 99
    · exact Ok.neg e0 (Ok.neg (by omega) (Ok.neg (by omega) (fin (Or.inr e))))
    · have hr : cmpF T p = some p := by unfold cmpF; rw [if_neg (by omega)]
      rw [hr]
      have hf : cFt p M (0, M) := ⟨rfl, h.2.2.1, pfr.refl⟩
      refine Ok.neg e0 ?_
      by_cases z : chT T p < 97
      · exact Ok.pos z (Ok.ret hf)
      · exact Ok.neg z (Ok.pos (by omega) (Ok.ret hf))
end
