/-! PURE 69: texts: conditions, and the whole selector -/
section
variable {T pr : List Int} {p : Nat} {M M0 : zM}
/-- the act of a sign behind a part -/
theorem dps_2 {ext : List Int} (h : ∀ d, dps ext d = some (d + 1)) (d : Nat) : dps (ext ++ [2]) d = some (d + 1) := by
  rw [dps_app (h d)]
  show (match dp1 2 (d + 1) with | none => none | some e => dps [] e) = _
  have h : dp1 2 (d + 1) = some (d + 1) := by
    unfold dp1
    rw [if_pos rfl, if_pos (by omega)]
  rw [h]
  rfl
theorem JP_not {op : Nat} {rc : Nat → Int → zM → Option (Int × zM)} {rd : Nat → zM → Option zM} (hT : txtT T) (hC : cpS T pr p M) (hM : mpS T pr p (op : Int) M0) (hp : p ≤ T.length) (hl : pr.length < p) (ho : op ≤ 6) (e : chT T p = 33) (hF : ∀ (q : Nat) (M1 : zM), M1 48 14 = (q : Int) → Ok (rd 2 M1) (mFt q M1)) (hx : op < 6 → ∀ (p : Nat) (pr : List Int) (M M0 : zM), cpS T pr p M → mpS T pr p ((op : Int) + 1) M0 → p ≤ T.length → pr.length < p → PR T pr p ((op : Int) + 1) M M0 (rc 2 ((op : Int) + 1) M) (rd 2 M0)) : PR T pr p op M M0 (if (op : Int) < 6 then (zb2 (F_X1_skip 33 M) fun r6 M7 => if r6 = 0 then (F_X1_readCondition_J106 rc M7) else (zb2 (rc 2 (w ((op : Int) + 1)) M7) fun r10 M11 => if r10 = 0 then (F_X1_readCondition_J106 rc M11) else (zb2 (F_X1_addStep 1 0 M11) fun r14 M15 => if r14 = 0 then (F_X1_readCondition_J106 rc M15) else some (1, M15)))) else (F_X1_readCondition_J106 rc M)) (zb2 (F_X11_goes 33 M0) fun _ M2 => (zb1 (F_X11_opens M2) fun M52 => zb1 (rd 2 M52) fun M54 => zlet (zs M54 48 15 (w ((M54 48 15) - 1))) fun M57 => zb1 (F_X11_put 2 M57) fun M58 => some M58)) := by
  have h60 := hT.1
  obtain ⟨M01, b1, b2, b3⟩ := MP_goes_y hT hM (by decide) e
  have hl0 := chT_lt (T := T) (p := p) (by omega)
  rw [b1]
  simp only [zb2_some]
  by_cases h6 : op < 6
  · rw [if_pos (by omega)]
    obtain ⟨M1, a1, a2, a3, a4⟩ := CP_skip_y hT hC (by decide) e
    obtain ⟨M02, c1, c2, c3⟩ := MP_opens_y b2 ⟨by omega, by omega⟩
    rw [a1, c1]
    simp only [zb2_some, zb1_some]
    rw [if_neg (by decide), w_id (a := (op : Int) + 1) (by omega)]
    replace c3 := b3.trans c3
    rcases hx h6 (p + 1) pr M1 M02 a2 c2 a4 (by omega) with ⟨ext, p2, k1, k2, k3, k4, ⟨⟨r, M2⟩, k5, d1, d2, d3⟩, ⟨M03, k6, e1, e2⟩⟩ | ⟨q, k1, ⟨⟨r, M2⟩, k5, d1, d2, d3⟩, ⟨M03, k6, e1, e2⟩⟩
    · dsimp only at d1 d2 d3
      subst d1
      rw [k5, k6]
      simp only [zb2_some, zb1_some]
      have hlen : (pr ++ ext).length < 60 := by rw [List.length_append]; omega
      obtain ⟨M3, f1, f2, f3⟩ := CP_add (s := 1) (g := 0) (a := 2) d2 hlen (by rw [zstep (by decide) (by decide)]; exact Or.inr (Or.inl ⟨rfl, rfl⟩))
      have g0 := e1.opn (op : Int)
      obtain ⟨M04, g1, g2, g3⟩ := MP_put (a := 2) g0.1 hlen
      rw [if_neg (by decide), f1, e1.2.2.2.1, w_id (a := (op : Int) + 1 - 1) (by omega), show (op : Int) + 1 - 1 = op by omega, zlet_eq, g1]
      simp only [zb2_some, zb1_some]
      refine Or.inl ⟨ext ++ [2], p2, by omega, by rw [List.length_append]; show ext.length + 1 + p ≤ p2; omega, k3, dps_2 k4, Ok.neg (by decide) (Ok.ret ⟨rfl, ?_, (a3.trans d3).trans f3⟩), Ok.ret ⟨?_, ((c3.trans e2).trans g0.2).trans g3⟩⟩
      · rw [← List.append_assoc]; exact f2
      · rw [← List.append_assoc]; exact g2
    · dsimp only at d1 d2 d3
      subst d1
      rw [k5, k6]
      simp only [zb2_some, zb1_some]
      rw [zlet_eq]
      have hf : mFt q M03 (zs M03 48 15 (w ((M03 48 15) - 1))) := mFt.fld e1 (by decide) (by decide)
      rw [MF_put hf.1]
      simp only [zb1_some]
      unfold F_X1_readCondition_J106
      exact Or.inr ⟨q, k1, Ok.pos trivial (Ok.ret ⟨rfl, d2, a3.trans d3⟩), Ok.ret (mFt.pre (c3.trans e2) hf)⟩
  · have e6 : op = 6 := by omega
    subst e6
    rw [if_neg (by decide)]
    obtain ⟨M02, c1, c2⟩ := MP_opens_n (q := p) b2 rfl (by omega)
    rw [c1]
    simp only [zb1_some]
    obtain ⟨M03, d1, d2⟩ := hF p M02 c2.1
    rw [d1]
    simp only [zb1_some]
    rw [zlet_eq]
    have hf : mFt p M03 (zs M03 48 15 (w ((M03 48 15) - 1))) := mFt.fld d2.1 (by decide) (by decide)
    rw [MF_put hf.1]
    simp only [zb1_some]
    unfold F_X1_readCondition_J106
    exact Or.inr ⟨p, hp, Ok.ret ⟨rfl, hC.2.2.1, pfr.refl⟩, Ok.ret (mFt.pre b3 (c2.go (d2.go hf)))⟩
theorem JP_par {op : Nat} {rc : Nat → Int → zM → Option (Int × zM)} {rd : Nat → zM → Option zM} (hT : txtT T) (hC : cpS T pr p M) (hM : mpS T pr p (op : Int) M0) (hp : p ≤ T.length) (hl : pr.length < p) (ho : op ≤ 6) (e : chT T p = 40) (hF : ∀ (q : Nat) (M1 : zM), M1 48 14 = (q : Int) → Ok (rd 0 M1) (mFt q M1)) (hx : op < 6 → ∀ (p : Nat) (pr : List Int) (M M0 : zM), cpS T pr p M → mpS T pr p ((op : Int) + 1) M0 → p ≤ T.length → pr.length < p → PR T pr p ((op : Int) + 1) M M0 (rc 0 ((op : Int) + 1) M) (rd 0 M0)) : PR T pr p op M M0 (if (op : Int) < 6 then (zb2 (F_X1_skip 40 M) fun r32 M33 => if r32 = 0 then (F_X1_readCondition_J146 rc M33) else (zb2 (rc 0 (w ((op : Int) + 1)) M33) fun r36 M37 => if r36 = 0 then (F_X1_readCondition_J146 rc M37) else (zb2 (F_X1_skip 41 M37) fun r40 M41 => if r40 = 0 then (F_X1_readCondition_J146 rc M41) else some (1, M41)))) else (F_X1_readCondition_J146 rc M)) (zb2 (F_X11_goes 40 M0) fun _ M2 => (zb1 (F_X11_opens M2) fun M44 => zb1 (rd 0 M44) fun M46 => zb1 (F_X11_expect 41 M46) fun M48 => zlet (zs M48 48 15 (w ((M48 48 15) - 1))) fun M51 => some M51)) := by
  have h60 := hT.1
  obtain ⟨M01, b1, b2, b3⟩ := MP_goes_y hT hM (by decide) e
  have hl0 := chT_lt (T := T) (p := p) (by omega)
  rw [b1]
  simp only [zb2_some]
  by_cases h6 : op < 6
  · rw [if_pos (by omega)]
    obtain ⟨M1, a1, a2, a3, a4⟩ := CP_skip_y hT hC (by decide) e
    obtain ⟨M02, c1, c2, c3⟩ := MP_opens_y b2 ⟨by omega, by omega⟩
    rw [a1, c1]
    simp only [zb2_some, zb1_some]
    rw [if_neg (by decide), w_id (a := (op : Int) + 1) (by omega)]
    replace c3 := b3.trans c3
    rcases hx h6 (p + 1) pr M1 M02 a2 c2 a4 (by omega) with ⟨ext, p2, k1, k2, k3, k4, ⟨⟨r, M2⟩, k5, d1, d2, d3⟩, ⟨M03, k6, e1, e2⟩⟩ | ⟨q, k1, ⟨⟨r, M2⟩, k5, d1, d2, d3⟩, ⟨M03, k6, e1, e2⟩⟩
    · dsimp only at d1 d2 d3
      subst d1
      rw [k5, k6]
      simp only [zb2_some, zb1_some]
      rw [if_neg (by decide)]
      by_cases e41 : chT T p2 = 41
      · obtain ⟨M3, f1, f2, f3, f4⟩ := CP_skip_y hT d2 (by decide) e41
        obtain ⟨M04, g1, g2, g3⟩ := MP_expect_y hT e1 (by decide) e41
        rw [f1, g1]
        simp only [zb2_some, zb1_some]
        have g0 := g2.opn (op : Int)
        rw [g2.2.2.2.1, w_id (a := (op : Int) + 1 - 1) (by omega), show (op : Int) + 1 - 1 = op by omega, zlet_eq]
        exact Or.inl ⟨ext, p2 + 1, by omega, by omega, f4, k4, Ok.neg (by decide) (Ok.ret ⟨rfl, f2, (a3.trans d3).trans f3⟩), Ok.ret ⟨g0.1, ((c3.trans e2).trans g3).trans g0.2⟩⟩
      · rw [CP_skip_n hT d2 e41]
        obtain ⟨M04, g1, g2⟩ := MP_expect_n hT e1 k3 (by decide) e41
        rw [g1]
        simp only [zb2_some, zb1_some]
        rw [zlet_eq]
        have hf : mFt p2 M04 (zs M04 48 15 (w ((M04 48 15) - 1))) := mFt.fld g2.1 (by decide) (by decide)
        unfold F_X1_readCondition_J146
        exact Or.inr ⟨p2, k3, Ok.pos trivial (Ok.ret ⟨rfl, d2.2.2.1, a3.trans d3⟩), Ok.ret (mFt.pre (c3.trans e2) (g2.go hf))⟩
    · dsimp only at d1 d2 d3
      subst d1
      rw [k5, k6]
      simp only [zb2_some, zb1_some]
      obtain ⟨M04, g1, g2⟩ := MF_expect (c := 41) e1
      rw [g1]
      simp only [zb1_some]
      rw [zlet_eq]
      have hf : mFt q M04 (zs M04 48 15 (w ((M04 48 15) - 1))) := mFt.fld g2.1 (by decide) (by decide)
      unfold F_X1_readCondition_J146
      exact Or.inr ⟨q, k1, Ok.pos trivial (Ok.ret ⟨rfl, d2, a3.trans d3⟩), Ok.ret (mFt.pre (c3.trans e2) (g2.go hf))⟩
  · have e6 : op = 6 := by omega
    subst e6
    rw [if_neg (by decide)]
    obtain ⟨M02, c1, c2⟩ := MP_opens_n (q := p) b2 rfl (by omega)
    rw [c1]
    simp only [zb1_some]
    obtain ⟨M03, d1, d2⟩ := hF p M02 c2.1
    rw [d1]
    simp only [zb1_some]
    obtain ⟨M04, g1, g2⟩ := MF_expect (c := 41) d2.1
    rw [g1]
    simp only [zb1_some]
    rw [zlet_eq]
    have hf : mFt p M04 (zs M04 48 15 (w ((M04 48 15) - 1))) := mFt.fld g2.1 (by decide) (by decide)
    unfold F_X1_readCondition_J146
    exact Or.inr ⟨p, hp, Ok.ret ⟨rfl, hC.2.2.1, pfr.refl⟩, Ok.ret (mFt.pre b3 (c2.go (d2.go (g2.go hf))))⟩
theorem JP_star {op : Int} {rc : Nat → Int → zM → Option (Int × zM)} (hT : txtT T) (hC : cpS T pr p M) (hM : mpS T pr p op M0) (hp : p ≤ T.length) (hl : pr.length < p) (e : chT T p = 42) : PR T pr p op M M0 (zb2 (F_X1_skip 42 M) fun r45 M46 => if r45 = 0 then (F_X1_readCondition_J170 rc M46) else (zb2 (F_X1_addStep 0 0 M46) fun r49 M50 => if r49 = 0 then (F_X1_readCondition_J170 rc M50) else some (1, M50))) (zb2 (F_X11_goes 42 M0) fun _ M2 => (zb1 (F_X11_put 1 M2) fun M42 => some M42)) := by
  have h60 := hT.1
  have hl0 := chT_lt (T := T) (p := p) (by omega)
  obtain ⟨M1, a1, a2, a3, a4⟩ := CP_skip_y hT hC (by decide) e
  obtain ⟨M01, b1, b2, b3⟩ := MP_goes_y hT hM (by decide) e
  rw [a1, b1]
  simp only [zb2_some]
  obtain ⟨M3, f1, f2, f3⟩ := CP_add (s := 0) (g := 0) (a := 1) a2 (by omega) (by rw [zstep (by decide) (by decide)]; exact Or.inl ⟨rfl, rfl⟩)
  obtain ⟨M04, g1, g2, g3⟩ := MP_put (a := 1) b2 (by omega)
  rw [if_neg (by decide), f1, g1]
  simp only [zb2_some, zb1_some]
  exact Or.inl ⟨[1], p + 1, by omega, by show 1 + p ≤ _; omega, a4, fun d => rfl, Ok.neg (by decide) (Ok.ret ⟨rfl, f2, a3.trans f3⟩), Ok.ret ⟨g2, b3.trans g3⟩⟩
/-- a pattern with its sign -/
theorem JP_sgn {op c k : Int} {J : zM → Option (Int × zM)} (hJ : ∀ M, J M = some (0, M)) (hT : txtT T) (hC : cpS T pr p M) (hM : mpS T pr p op M0) (hp : p ≤ T.length) (hl : pr.length < p) (hc : 0 < c) (e : chT T p = c) (hk : 0 ≤ k ∧ k ≤ 2) : PR T pr p op M M0 (zb2 (F_X1_skip c M) fun r M7 => if r = 0 then J M7 else (zb2 (F_X1_readLetters 3 M7) fun r M2 => zb2 (F_X1_addPattern (5 + k) r M2) fun r2 M3 => if r2 = 0 then J M3 else some (1, M3))) (zb2 (F_X11_goes c M0) fun _ M2 => (zb2 (F_X11_readWord 1 3 M2) fun r M2 => zb1 (F_X11_put (w (5000 + 100 * k + r)) M2) fun M3 => some M3)) := by
  have h60 := hT.1
  have hl0 := chT_lt (T := T) (p := p) (by omega)
  obtain ⟨M1, a1, a2, a3, a4⟩ := CP_skip_y hT hC hc e
  obtain ⟨M01, b1, b2, b3⟩ := MP_goes_y hT hM hc e
  rw [a1, b1]
  simp only [zb2_some]
  rw [if_neg (by decide)]
  simp only [hJ]
  exact (JP_pat hT a2 b2 a4 (by omega) hk).pre (by omega) a3 b3
theorem JP_cond {op : Nat} {rc : Nat → Int → zM → Option (Int × zM)} {rd : Nat → zM → Option zM} (hT : txtT T) (hC : cpS T pr p M) (hM : mpS T pr p (op : Int) M0) (hp : p ≤ T.length) (hl : pr.length < p) (ho : op ≤ 6) (hF0 : ∀ (q : Nat) (M1 : zM), M1 48 14 = (q : Int) → Ok (rd 0 M1) (mFt q M1)) (hF2 : ∀ (q : Nat) (M1 : zM), M1 48 14 = (q : Int) → Ok (rd 2 M1) (mFt q M1)) (hx0 : op < 6 → ∀ (p : Nat) (pr : List Int) (M M0 : zM), cpS T pr p M → mpS T pr p ((op : Int) + 1) M0 → p ≤ T.length → pr.length < p → PR T pr p ((op : Int) + 1) M M0 (rc 0 ((op : Int) + 1) M) (rd 0 M0)) (hx2 : op < 6 → ∀ (p : Nat) (pr : List Int) (M M0 : zM), cpS T pr p M → mpS T pr p ((op : Int) + 1) M0 → p ≤ T.length → pr.length < p → PR T pr p ((op : Int) + 1) M M0 (rc 2 ((op : Int) + 1) M) (rd 2 M0)) : PR T pr p op M M0 (F_X1_readCondition rc op M) (F_X11_readOne rd M0) := by
  have h8 : pr.length < 60 := by have := hT.1; omega
  unfold F_X11_readOne
  have cls : F_X1_readCondition rc op M = F_X1_readCondition rc op M := rfl
  conv at cls => rhs; unfold F_X1_readCondition
  rw [CP_here hT hC] at cls
  simp only [zb1_some] at cls
  by_cases e33 : chT T p = 33
  · obtain ⟨M01, b1, b2, b3⟩ := MP_goes_y hT hM (by decide) e33
    have h := JP_not (rc := rc) (rd := rd) hT hC hM hp hl ho e33 hF2 hx2
    rw [if_pos e33] at cls
    rw [← cls] at h
    rw [b1] at h ⊢
    simp only [zb2_some] at h ⊢
    rw [if_neg (by decide)]
    exact h
  rw [if_neg e33] at cls
  rw [MP_goes_n hT hM hp (by decide) e33]
  simp only [zb2_some]
  rw [if_pos trivial]
  by_cases e40 : chT T p = 40
  · obtain ⟨M01, b1, b2, b3⟩ := MP_goes_y hT hM (by decide) e40
    have h := JP_par (rc := rc) (rd := rd) hT hC hM hp hl ho e40 hF0 hx0
    rw [if_neg (by omega), if_pos e40] at cls
    rw [← cls] at h
    rw [b1] at h ⊢
    simp only [zb2_some] at h ⊢
    rw [if_neg (by decide)]
    exact h
  rw [MP_goes_n hT hM hp (by decide) e40]
  simp only [zb2_some]
  rw [if_pos trivial]
  by_cases e42 : chT T p = 42
  · obtain ⟨M01, b1, b2, b3⟩ := MP_goes_y hT hM (by decide) e42
    have h := JP_star (rc := rc) hT hC hM hp hl e42
    rw [if_neg (by omega), if_neg e40, if_pos e42] at cls
    rw [← cls] at h
    rw [b1] at h ⊢
    simp only [zb2_some] at h ⊢
    rw [if_neg (by decide)]
    exact h
  rw [MP_goes_n hT hM hp (by decide) e42]
  simp only [zb2_some]
  rw [if_pos trivial]
  by_cases e94 : chT T p = 94
  · obtain ⟨M01, b1, b2, b3⟩ := MP_goes_y hT hM (by decide) e94
    have h := JP_sgn (k := 0) (J := F_X1_readCondition_J198 rc) (fun _ => rfl) hT hC hM hp hl (by decide) e94 (by decide)
    rw [if_neg (by omega), if_neg e40, if_neg e42, if_pos e94] at cls
    rw [show (5 : Int) + 0 = 5 from rfl, ← cls] at h
    rw [b1] at h ⊢
    simp only [zb2_some] at h ⊢
    rw [if_neg (by decide)]
    exact h
  rw [MP_goes_n hT hM hp (by decide) e94]
  simp only [zb2_some]
  rw [if_pos trivial]
  by_cases e36 : chT T p = 36
  · obtain ⟨M01, b1, b2, b3⟩ := MP_goes_y hT hM (by decide) e36
    have h := JP_sgn (k := 1) (J := F_X1_readCondition_J227 rc) (fun _ => rfl) hT hC hM hp hl (by decide) e36 (by decide)
    rw [if_pos e36] at cls
    rw [show (5 : Int) + 1 = 6 from rfl, ← cls] at h
    rw [b1] at h ⊢
    simp only [zb2_some] at h ⊢
    rw [if_neg (by decide)]
    exact h
  rw [MP_goes_n hT hM hp (by decide) e36]
  simp only [zb2_some]
  rw [if_pos trivial]
  by_cases e126 : chT T p = 126
  · obtain ⟨M01, b1, b2, b3⟩ := MP_goes_y hT hM (by decide) e126
    have h := JP_sgn (k := 2) (J := F_X1_readCondition_J256 rc) (fun _ => rfl) hT hC hM hp hl (by decide) e126 (by decide)
    rw [if_neg e36, if_neg e40, if_neg e42, if_neg e94, if_pos e126] at cls
    rw [show (5 : Int) + 2 = 7 from rfl, ← cls] at h
    rw [b1] at h ⊢
    simp only [zb2_some] at h ⊢
    rw [if_neg (by decide)]
    exact h
  rw [MP_goes_n hT hM hp (by decide) e126]
  simp only [zb2_some]
  rw [if_pos trivial]
  rw [if_neg e36, if_neg e40, if_neg e42, if_neg e94, if_neg e126] at cls
  rw [cls]
  exact JP_comp hT hC hM hp h8
end
/-- a selector on both sides -/
theorem JP_all {T : List Int} (hT : txtT T) : ∀ (n k op p : Nat) (pr : List Int) (M M0 : zM), k ≤ 2 → op ≤ 6 → 3 * (6 - op) + 6 ≤ n + k → cpS T pr p M → mpS T pr p (op : Int) M0 → p ≤ T.length → pr.length < p → PR T pr p op M M0 (F_GP n k op M) (F_GQ n k M0) := by
  have h60 := hT.1
  intro n
  induction n with
  | zero => intro k op p pr M M0 hk ho hn; omega
  | succ n ih =>
    intro k op p pr M M0 hk ho hn hC hM hp hl
    show PR T pr p op M M0 (if k = 0 then F_X1_readAlternatives (F_GP n) op M else if k = 1 then F_X1_readConjunction (F_GP n) op M else F_X1_readCondition (F_GP n) op M) (if k = 0 then F_X11_readSelector (F_GQ n) M0 else if k = 1 then F_X11_readAll (F_GQ n) M0 else F_X11_readOne (F_GQ n) M0)
    obtain hk0 | hk1 | hk2 : k = 0 ∨ k = 1 ∨ k = 2 := by omega
    · subst hk0
      rw [if_pos rfl, if_pos rfl]
      exact JP_parts (c := 124) (s := 3) (a := 4) (x := F_GP n 1 op) (y := F_GQ n 1) hT (by decide) (by rw [zstep (by decide) (by decide)]; exact Or.inr (Or.inr (Or.inr (Or.inl ⟨rfl, rfl⟩)))) (Or.inr rfl) (fun p pr M M0 a b c d => ih 1 op p pr M M0 (by decide) ho (by omega) a b c d) hC hM hp hl
    · subst hk1
      rw [if_neg (by decide), if_pos rfl, if_neg (by decide), if_pos rfl]
      exact JP_parts (c := 38) (s := 2) (a := 3) (x := F_GP n 2 op) (y := F_GQ n 2) hT (by decide) (by rw [zstep (by decide) (by decide)]; exact Or.inr (Or.inr (Or.inl ⟨rfl, rfl⟩))) (Or.inl rfl) (fun p pr M M0 a b c d => ih 2 op p pr M M0 (by decide) ho (by omega) a b c d) hC hM hp hl
    · subst hk2
      rw [if_neg (by decide), if_neg (by decide), if_neg (by decide), if_neg (by decide)]
      refine JP_cond hT hC hM hp hl ho (fun q M1 h => MF_GQ0 n (by omega) h) (fun q M1 h => MF_GQ2 n (by omega) h) (fun h6 p pr M M0 a b c d => ?_) (fun h6 p pr M M0 a b c d => ?_)
      · have h := ih 0 (op + 1) p pr M M0 (by decide) (by omega) (by omega) a (by rw [show ((op + 1 : Nat) : Int) = (op : Int) + 1 by omega]; exact b) c d
        rw [show ((op + 1 : Nat) : Int) = (op : Int) + 1 by omega] at h
        exact h
      · have h := ih 2 (op + 1) p pr M M0 (by decide) (by omega) (by omega) a (by rw [show ((op + 1 : Nat) : Int) = (op : Int) + 1 by omega]; exact b) c d
        rw [show ((op + 1 : Nat) : Int) = (op : Int) + 1 by omega] at h
        exact h
