/-! PURE 73: texts: contexts; the whole reading on both sides -/
section
variable {T : List Int} {p : Nat} {M M0 : zM}
/-- the class's reading of a context, behind its left part; behind its right part -/
def ccT2 (M14 : zM) : Option (Int × zM) := zb2 (F_X1_skip 32 M14) fun r15 M16 => (if r15 = 0 then (F_X1_readContext_J57 M16) else (zb2 (F_GP 40 0 0 M16) fun r19 M20 => (if r19 = 0 then (F_X1_readContext_J57 M20) else (some (1, M20)))))
def ccT1 (M4 : zM) : Option (Int × zM) := zb2 (F_X1_skip 44 M4) fun r7 M8 => (if r7 = 0 then (some (0, M8)) else (zb2 (F_X1_readLetters 3 M8) fun r11 M12 => (zlet (zs M12 2 7 r11) fun M14 => ccT2 M14)))
theorem ccT_eq : F_X1_readContext M = zb2 (F_X1_readLetters 3 M) fun r1 M2 => (zlet (zs M2 2 6 r1) fun M4 => (if (M4 2 6) = 0 then (some (0, M4)) else ccT1 M4)) := rfl
theorem cpS.fld {pr : List Int} {k v : Int} (h : cpS T pr p M) (hk : 5 ≤ k) : cpS T pr p (zs M 2 k v) := by
  obtain ⟨h1, h2, h3, h4, h5⟩ := h
  refine ⟨?_, ?_, ?_, ?_, ?_⟩
  · rw [zs_off _ _ (Or.inr (by omega))]; exact h1
  · rw [zs_ne _ _ _ (by decide)]; exact h2
  · rw [zs_off _ _ (Or.inr (by omega))]; exact h3
  · rw [zs_off _ _ (Or.inr (by omega))]; exact h4
  · rw [zs_ne _ _ _ (by decide)]; exact h5
theorem pwf_of {pr : List Int} {M1 : zM} (h : cpS T pr p M1) (hd : dps pr 0 = some 1) (hl : pr.length ≤ 60) : pwf pr := by
  refine ⟨hd, hl, fun a ha => ?_⟩
  obtain ⟨i, hi, e⟩ := List.mem_iff_getElem.mp ha
  exact ⟨M1 4 i, h.2.2.2.2 i a (by rw [List.getElem?_eq_getElem hi, e])⟩
theorem JR_ct2 {L R : Int} (hT : txtT T) (hC : cpS T [] p M) (hM : mpS T [] p 0 M0) (hp : p ≤ T.length) (h1 : 1 ≤ p) (e6 : M 2 6 = L) (e7 : M 2 7 = R) (hL : 1 ≤ L ∧ L < 40) (hR : 0 ≤ R ∧ R < 40) : JR T 1 M M0 (ccT2 M) (ctT2 L R M0) := by
  have h60 := hT.1
  unfold JR ccT2 ctT2
  by_cases e : chT T p = 32
  · obtain ⟨M1, a1, a2, a3, a4⟩ := CP_skip_y hT hC (by decide) e
    obtain ⟨M01, b1, b2, b3⟩ := MP_expect_y hT hM (by decide) e
    rw [a1, b1]
    simp only [zb2_some, zb1_some]
    rw [if_neg (by decide)]
    unfold ctT3
    rcases JP_all hT 40 0 0 (p + 1) [] M1 M01 (by decide) (by decide) (by decide) a2 b2 a4 (by show 0 < p + 1; omega) with ⟨ext, p2, c1, c2, c3, c4, ⟨⟨r, M2⟩, c5, d1, d2, d3⟩, ⟨M02, c6, e1, e2⟩⟩ | ⟨q, c1, ⟨⟨r, M2⟩, c5, d1, d2, d3⟩, ⟨M02, c6, e1, e2⟩⟩
    · dsimp only at d1 d2 d3
      subst d1
      have c5' : F_GP 40 0 0 M1 = some (1, M2) := c5
      rw [List.nil_append] at d2 e1
      rw [c5', c6]
      simp only [zb2_some, zb1_some]
      rw [if_neg (by decide)]
      simp only [zb2_some]
      have hf := a3.trans d3
      have hb : ∀ b, b ≠ 2 → b ≠ 4 → M2 b = M b := hf.1
      rw [J82_1 (by decide), d2.2.2.1, d2.1]
      by_cases e2' : p2 = T.length
      · have hpw : pwf ext := pwf_of d2 (c4 0) (by omega)
        refine ⟨(1, 0, L, R, ext), Or.inr (Or.inr (Or.inl ⟨rfl, rfl, ⟨hL, hR, hpw⟩, by show ext.length < 60; omega⟩)), ?_, M02, ⟨b3.trans e2, by rw [if_neg q1m]; exact e1.2.2.1, fun _ => ⟨e1.2.2.2.2.1, e1.2.2.2.2.2.2⟩⟩, ?_⟩
        · refine Ok.pos (by omega) (Ok.ret ⟨rfl, hb, fun q => absurd q q1m, fun q => absurd q q10, fun _ => ⟨?_, ?_, d2.2.2.2.1, d2.2.2.2.2⟩, fun q => absurd q q123⟩)
          · rw [← e6]; exact hf.2 6 (by decide) (by decide)
          · rw [← e7]; exact hf.2 7 (by decide) (by decide)
        · have h := e1
          rw [e2'] at h
          rw [MP_fin_y h]
          simp only [zb1_some]
          rw [if_pos (by rw [h.2.2.1]; decide)]
          unfold mAct
          rw [if_neg q1m, if_neg q10, if_pos (show (1 : Int) = 1 from rfl)]
      · obtain ⟨M3, f1, f2⟩ := MP_fin_n e1 (by omega)
        refine ⟨oFt p2, vO_ft c3, Ok.neg (by omega) (Ok.ret (cRd_ft hb d2.2.2.1)), M3, rdQ_ft (mFt.pre (b3.trans e2) f2), ?_⟩
        rw [f1]
        simp only [zb1_some]
        rw [if_neg (by rw [f2.1]; omega), mAct_ft]
    · dsimp only at d1 d2 d3
      subst d1
      have c5' : F_GP 40 0 0 M1 = some (0, M2) := c5
      rw [c5', c6]
      simp only [zb2_some, zb1_some]
      rw [MF_fin e1]
      simp only [zb1_some]
      rw [if_pos trivial, if_neg (by rw [e1]; omega)]
      unfold F_X1_readContext_J57
      simp only [zb2_some]
      rw [J82_0]
      exact ⟨oFt q, vO_ft c1, Ok.ret (cRd_ft (a3.trans d3).1 d2), M02, rdQ_ft (mFt.pre b3 ⟨e1, e2⟩), by rw [mAct_ft]⟩
  · rw [CP_skip_n hT hC e]
    obtain ⟨M01, b1, b2⟩ := MP_expect_n hT hM hp (by decide) e
    obtain ⟨M02, c1, c2⟩ := MF_ct3 (L := L) (R := R) b2.1
    rw [b1]
    simp only [zb2_some, zb1_some]
    rw [if_pos trivial, c2]
    unfold F_X1_readContext_J57
    simp only [zb2_some]
    rw [J82_0]
    exact ⟨oFt p, vO_ft hp, Ok.ret (cRd_ft (fun _ _ _ => rfl) hC.2.2.1), M02, rdQ_ft (b2.go c1), by rw [mAct_ft]⟩
/-- from a state with the same other cells -/
theorem JR.pre {k : Int} {M M1 M0 M01 : zM} {x y : Option (Int × zM)} (h : JR T k M1 M01 x y) (hc : ∀ b, b ≠ 2 → b ≠ 4 → M1 b = M b) (hm : qfr M0 M01) : JR T k M M0 x y := by
  obtain ⟨o, a1, a2, M2, ⟨b1, b2, b3⟩, a4⟩ := h
  refine ⟨o, a1, a2.mono (fun r ⟨c1, c2, c3⟩ => ⟨c1, fun b h2 h4 => (c2 b h2 h4).trans (hc b h2 h4), c3⟩), M2, ⟨hm.trans b1, b2, b3⟩, a4⟩
theorem JR_ct1 {L : Int} (hT : txtT T) (hC : cpS T [] p M) (hM : mpS T [] p 0 M0) (hp : p ≤ T.length) (h1 : 1 ≤ p) (e6 : M 2 6 = L) (hL : 1 ≤ L ∧ L < 40) : JR T 1 M M0 (ccT1 M) (ctT0 L M0) := by
  have h60 := hT.1
  unfold ccT1 ctT0
  by_cases e : chT T p = 44
  · obtain ⟨M1, a1, a2, a3, a4⟩ := CP_skip_y hT hC (by decide) e
    obtain ⟨M01, b1, b2, b3⟩ := MP_expect_y hT hM (by decide) e
    rw [a1, b1]
    simp only [zb2_some, zb1_some]
    rw [if_neg (by decide)]
    unfold ctT1
    obtain ⟨⟨v, M2⟩, c1, c2, c3, c4⟩ := CP_letters hT a2 3 (by decide) a4
    obtain ⟨⟨v2, M02⟩, d1, d2, d3⟩ := MP_word (a := 0) (m := 3) hT b2 (by decide) a4 (by decide)
    obtain ⟨l1, l2, l3, l4⟩ := lwT_0 (T := T) (p := p + 1) (m := 3) (by decide)
    have l5 := lwT_lt (T := T) (p := p + 1) (m := 3) (by decide)
    have l6 : f3 (((3 : Nat) : Int) + 1) = 40 := by decide
    rw [l6] at l5
    have lc := (lcT_le (T := T) 3 (p + 1)).2 a4
    dsimp only at c2 c3 c4 d2 d3
    subst c2
    subst d2
    have c1' : F_X1_readLetters 3 M1 = some (lwT T (p + 1) 3 0, M2) := c1
    have d1' : F_X11_readWord 0 3 M01 = some (lwT T (p + 1) 3 0, M02) := d1
    rw [c1', d1']
    simp only [zb2_some]
    rw [zlet_eq]
    rcases d3 with ⟨f1, f2⟩ | ⟨f1, f2⟩
    · have hf := a3.trans c4
      refine (JR_ct2 hT (c3.fld (k := 7) (v := lwT T (p + 1) 3 0) (by decide)) f2.1 lc (by omega) ?_ (zs_at M2 2 7 _) hL ⟨l3.1, l5⟩).pre (fun b h2 h4 => ?_) (b3.trans f2.2)
      · rw [zs_off _ _ (Or.inr (by decide)), ← e6]; exact hf.2 6 (by decide) (by decide)
      · rw [zs_ne _ _ _ h2]; exact hf.1 b h2 h4
    · omega
  · rw [CP_skip_n hT hC e]
    obtain ⟨M01, b1, b2⟩ := MP_expect_n hT hM hp (by decide) e
    obtain ⟨M02, c1, c2⟩ := MF_ct1 (L := L) b2.1
    rw [b1]
    simp only [zb2_some, zb1_some]
    rw [if_pos trivial, c2]
    refine ⟨oFt p, vO_ft hp, ?_, M02, rdQ_ft (b2.go c1), by rw [mAct_ft]⟩
    simp only [zb2_some]
    rw [J82_0]
    exact Ok.ret (cRd_ft (fun _ _ _ => rfl) hC.2.2.1)
theorem JR_context (hT : txtT T) (hC : cpS T [] p M) (hM : mpS T [] p 0 M0) (hp : p ≤ T.length) (h1 : 1 ≤ p) : JR T 1 M M0 (F_X1_readContext M) (F_X11_defineContext M0) := by
  have h60 := hT.1
  rw [ccT_eq, ctT_eq]
  obtain ⟨⟨v, M2⟩, c1, c2, c3, c4⟩ := CP_letters hT hC 3 (by decide) hp
  obtain ⟨⟨v2, M02⟩, d1, d2, d3⟩ := MP_word (a := 1) (m := 3) hT hM (by decide) hp (by decide)
  obtain ⟨l1, l2, l3, l4⟩ := lwT_0 (T := T) (p := p) (m := 3) (by decide)
  have l5 := lwT_lt (T := T) (p := p) (m := 3) (by decide)
  have l6 : f3 (((3 : Nat) : Int) + 1) = 40 := by decide
  rw [l6] at l5
  have lc := (lcT_le (T := T) 3 p).2 hp
  dsimp only at c2 c3 c4 d2 d3
  subst c2
  subst d2
  have c1' : F_X1_readLetters 3 M = some (lwT T p 3 0, M2) := c1
  have d1' : F_X11_readWord 1 3 M0 = some (lwT T p 3 0, M02) := d1
  rw [c1', d1']
  simp only [zb2_some]
  rw [zlet_eq, zs_at]
  have hb : ∀ b, b ≠ 2 → b ≠ 4 → zs M2 2 6 (lwT T p 3 0) b = M b := fun b h2 h4 => by rw [zs_ne _ _ _ h2]; exact c4.1 b h2 h4
  have hc := c3.fld (k := 6) (v := lwT T p 3 0) (by decide)
  rcases d3 with ⟨f1, f2⟩ | ⟨f1, f2⟩
  · have hv := l2 (by omega)
    rw [if_neg (by omega)]
    exact (JR_ct1 hT hc f2.1 lc (by omega) (zs_at M2 2 6 _) ⟨hv, l5⟩).pre hb f2.2
  · have hv := l1 (by omega)
    have hl : lcT T p 3 = 0 := by omega
    rw [hl] at hc
    obtain ⟨M03, g1, g2⟩ := MF_ct0 (L := lwT T p 3 0) f2.1
    rw [if_pos hv, g2]
    refine ⟨oFt p, vO_ft hp, ?_, M03, rdQ_ft (f2.go g1), by rw [mAct_ft]⟩
    simp only [zb2_some]
    rw [J82_0]
    exact Ok.ret (cRd_ft hb hc.2.2.1)
end
/-- the whole reading -/
theorem read_joint {T : List Int} {M M0 : zM} (hT : txtT T) (hC : M 2 3 = (T.length : Int) ∧ rowl (M 3) T) (hM : M0 48 11 = (T.length : Int) ∧ rowl (M0 54) T) : ∃ o : zOut, vO T o ∧ Ok (F_X1_read M) (cRd o M) ∧ ∃ M2, rdF o M0 M2 ∧ F_X11_define M0 = mAct o M2 := by
  have h60 := hT.1
  have hC0 : cpS T [] 0 (zs (zs M 2 4 0) 2 2 0) := by
    refine ⟨?_, ?_, ?_, zs_at _ 2 2 0, fun i a h => by simp at h⟩
    · rw [zs_off _ _ (Or.inr (by decide)), zs_off _ _ (Or.inr (by decide))]; exact hC.1
    · rw [zs_ne _ _ _ (by decide), zs_ne _ _ _ (by decide)]; exact hC.2
    · rw [zs_off _ _ (Or.inr (by decide)), zs_at]; rfl
  have hCb : ∀ b, b ≠ 2 → b ≠ 4 → zs (zs M 2 4 0) 2 2 0 b = M b := fun b h2 h4 => by rw [zs_ne _ _ _ h2, zs_ne _ _ _ h2]
  unfold F_X1_read F_X11_define
  simp only [zlet_eq]
  generalize zs (zs M 2 4 0) 2 2 0 = M6 at hC0 hCb ⊢
  have e12 : zs M0 48 0 0 48 11 = (T.length : Int) := by rw [zs_off _ _ (Or.inr (by decide))]; exact hM.1
  rw [e12]
  obtain ⟨M8, hM8⟩ : ∃ M8, M8 = zs (zs (zs (zs (zs (zs (zs M0 48 0 0) 48 12 (T.length : Int)) 48 11 0) 48 13 0) 48 14 (-1)) 48 15 0) 48 17 0 := ⟨_, rfl⟩
  rw [← hM8]
  have hM0' : mpS T [] 0 0 M8 := by
    rw [hM8]
    refine ⟨?_, ?_, ?_, ?_, ?_, ?_, fun i a h => by simp at h⟩
    · rw [zs_off _ _ (Or.inr (by decide)), zs_off _ _ (Or.inr (by decide)), zs_off _ _ (Or.inr (by decide)), zs_off _ _ (Or.inr (by decide)), zs_off _ _ (Or.inr (by decide)), zs_at]
    · rw [zs_off _ _ (Or.inr (by decide)), zs_off _ _ (Or.inr (by decide)), zs_off _ _ (Or.inr (by decide)), zs_at]; rfl
    · rw [zs_off _ _ (Or.inr (by decide)), zs_off _ _ (Or.inr (by decide)), zs_at]
    · rw [zs_off _ _ (Or.inr (by decide)), zs_at]
    · rw [zs_at]; rfl
    · rw [zs_ne _ _ _ (by decide), zs_ne _ _ _ (by decide), zs_ne _ _ _ (by decide), zs_ne _ _ _ (by decide), zs_ne _ _ _ (by decide), zs_ne _ _ _ (by decide), zs_ne _ _ _ (by decide)]; exact hM.2
  have h0 : M8 48 0 = 0 := by
    rw [hM8, zs_off _ _ (Or.inr (by decide)), zs_off _ _ (Or.inr (by decide)), zs_off _ _ (Or.inr (by decide)), zs_off _ _ (Or.inr (by decide)), zs_off _ _ (Or.inr (by decide)), zs_off _ _ (Or.inr (by decide)), zs_at]
  have h11 : M8 48 11 = 0 := by
    rw [hM8, zs_off _ _ (Or.inr (by decide)), zs_off _ _ (Or.inr (by decide)), zs_off _ _ (Or.inr (by decide)), zs_off _ _ (Or.inr (by decide)), zs_at]
  have hfr : mfr (fun b => b = 55) (fun k => k = 0 ∨ (11 ≤ k ∧ k ≤ 17)) M0 M8 := by
    rw [hM8]
    exact ((((((mfr.fld (by omega)).trans (mfr.fld (by omega))).trans (mfr.fld (by omega))).trans (mfr.fld (by omega))).trans (mfr.fld (by omega))).trans (mfr.fld (by omega))).trans (mfr.fld (by omega))
  clear hM8
  -- what a reading behind the name gives
  have fin : ∀ (k : Int) (M1 M01 : zM) (x : Option (Int × zM)) (y : Option (Int × zM)), (∀ b, b ≠ 2 → b ≠ 4 → M1 b = M b) → qfr M8 M01 → JR T k M1 M01 x y → ∃ o : zOut, vO T o ∧ Ok (zb2 x fun r M2 => F_X1_read_J82 k r M2) (cRd o M) ∧ ∃ M2, rdF o M0 M2 ∧ y = mAct o M2 := fun k M1 M01 x y hb hq hJ => by
    obtain ⟨o, a1, a2, M2, ⟨b1, b2, b3⟩, a4⟩ := hJ.pre hb hq
    refine ⟨o, a1, a2, M2, ⟨hfr.trans ⟨b1.1, fun k hk h20 h21 => b1.2 k (by omega) h20 h21⟩, ?_, ?_, b2, b3⟩, a4⟩
    · rw [b1.2 0 (by omega) (by decide) (by decide)]; exact h0
    · rw [b1.2 11 (by omega) (by decide) (by decide)]; exact h11
  have finF : ∀ (q : Nat) (k : Int) (M1 M2 : zM) (y : Option (Int × zM)), q ≤ T.length → (∀ b, b ≠ 2 → b ≠ 4 → M1 b = M b) → M1 2 4 = (q : Int) → mFt q M8 M2 → y = mFail 1 M2 → ∃ o : zOut, vO T o ∧ Ok (F_X1_read_J82 k 0 M1) (cRd o M) ∧ ∃ M2, rdF o M0 M2 ∧ y = mAct o M2 := fun q k M1 M2 y hq hb h4 hm hy => by
    refine ⟨oFt q, vO_ft hq, by rw [J82_0]; exact Ok.ret (cRd_ft hb h4), M2, ⟨hfr.trans ⟨hm.2.1, fun k hk h20 h21 => hm.2.2 k (by omega) h20 h21⟩, ?_, ?_, ?_, fun e => absurd e qm1⟩, by rw [mAct_ft]; exact hy⟩
    · rw [hm.2.2 0 (by omega) (by decide) (by decide)]; exact h0
    · rw [hm.2.2 11 (by omega) (by decide) (by decide)]; exact h11
    · rw [if_pos (show (oFt q).1 = -1 from rfl)]; exact hm.1
  obtain ⟨⟨v, M1⟩, a1, t, a2, a3, a4⟩ := CP_kind hT hC0
  obtain ⟨⟨v2, M01⟩, b1, u, b2, b3⟩ := MP_name (a := 0) (n := 4) hT hM0' (by decide) (by decide) (by decide)
  dsimp only at a3 a4 b3
  have b1' : F_X11_readName 0 3 M8 = some (v2, M01) := b1
  rw [a1, b1']
  simp only [zb2_some]
  have hb1 : ∀ b, b ≠ 2 → b ≠ 4 → M1 b = M b := fun b h2 h4 => (a3.1 b h2 h4).trans (hCb b h2 h4)
  have hle : ∀ j, j < 4 → 0 + preT T 0 (nmB j) ≤ T.length := fun j hj => preT_in (nmB j) 0 (nmB_m j (by omega)) (Nat.zero_le _)
  rcases kinds_eq a2 b2 with ⟨c1, c2, c3, c4⟩ | ⟨c1, c2, c3, c4⟩ | ⟨c1, c2, c3⟩
  · rcases a4 with ⟨d1, d2, d3⟩ | ⟨d1, d2, d3⟩
    · rcases b3 with ⟨e1, e2, e3⟩ | ⟨e1, e2, e3⟩
      · rw [Nat.zero_add] at e2 e3
        have e3' : mOk T [] (nmB u).length 0 M8 M01 := by rw [Nat.zero_add] at e3; exact e3
        obtain ⟨M02, f1, f2, f3'⟩ := MP_expect_y hT e3'.1 (by decide) c2
        have hl := chT_lt (T := T) (p := (nmB u).length) (by omega)
        rw [f1]
        simp only [zb1_some]
        subst c3
        rw [c4] at d3
        rw [d2, e2]
        have hq := e3'.2.trans f3'
        obtain z | z | z | z : t = 0 ∨ t = 1 ∨ t = 2 ∨ t = 3 := by omega
        · subst z
          rw [if_pos (by decide), if_pos (by decide)]
          rw [zb2_id]
          exact fin 0 M1 M02 _ _ hb1 hq (JR_axiom hT d3 f2 hl)
        · subst z
          rw [if_neg (by decide), if_pos (by decide), if_neg (by decide), if_pos (by decide)]
          rw [zb2_id]
          exact fin 1 M1 M02 _ _ hb1 hq (JR_context hT d3 f2 hl (by omega))
        · subst z
          rw [if_neg (by decide), if_neg (by decide), if_pos (by decide), if_neg (by decide), if_neg (by decide), if_pos (by decide)]
          rw [zb2_id]
          exact fin 2 M1 M02 _ _ hb1 hq (JR_mode hT d3 f2 hl (by decide))
        · subst z
          rw [if_neg (by decide), if_neg (by decide), if_neg (by decide), if_pos (by decide), if_neg (by decide), if_neg (by decide), if_neg (by decide), if_pos (by decide)]
          rw [zb2_id]
          exact fin 3 M1 M02 _ _ hb1 hq (JR_limit hT d3 f2 hl)
      · omega
    · omega
  · rcases a4 with ⟨d1, d2, d3⟩ | ⟨d1, d2, d3⟩
    · omega
    · rcases b3 with ⟨e1, e2, e3⟩ | ⟨e1, e2, e3⟩
      · have e2' : v2 = (u : Int) := by rw [e2, Nat.zero_add]
        have e3' : mOk T [] (nmB u).length 0 M8 M01 := by rw [Nat.zero_add, Nat.zero_add] at e3; exact e3
        have hu := b2.2.2 c1
        dsimp only at hu
        rw [Nat.zero_add] at hu
        have hl := hle u c1
        rw [hu, Nat.zero_add] at hl
        obtain ⟨M02, f1, f2⟩ := MP_expect_n hT e3'.1 hl (by decide) c2
        rw [f1]
        simp only [zb1_some]
        rw [c4] at d3
        rw [d2, e2', if_neg (by decide), if_neg (by decide), if_neg (by decide), if_neg (by decide)]
        have hq : mFt (nmB u).length M8 M02 := mFt.pre e3'.2 f2
        obtain z | z | z | z : u = 0 ∨ u = 1 ∨ u = 2 ∨ u = 3 := by omega
        · subst z
          rw [if_pos (by decide), zb2_id]
          obtain ⟨M03, g1, g2⟩ := MF_ax hq.1
          exact finF _ (-1) M1 M03 _ hl hb1 d3 (hq.go g1) g2
        · subst z
          rw [if_neg (by decide), if_pos (by decide), zb2_id]
          obtain ⟨M03, g1, g2⟩ := MF_ctx hq.1
          exact finF _ (-1) M1 M03 _ hl hb1 d3 (hq.go g1) g2
        · subst z
          rw [if_neg (by decide), if_neg (by decide), if_pos (by decide), zb2_id]
          obtain ⟨M03, g1, g2⟩ := MF_mode hq.1
          exact finF _ (-1) M1 M03 _ hl hb1 d3 (hq.go g1) g2
        · subst z
          rw [if_neg (by decide), if_neg (by decide), if_neg (by decide), if_pos (by decide), zb2_id]
          obtain ⟨M03, g1, g2⟩ := MF_lim hq.1
          exact finF _ (-1) M1 M03 _ hl hb1 d3 (hq.go g1) g2
      · omega
  · rcases a4 with ⟨d1, d2, d3⟩ | ⟨d1, d2, d3⟩
    · omega
    · rcases b3 with ⟨e1, e2, e3⟩ | ⟨e1, e2, e3⟩
      · omega
      · rw [Nat.zero_add] at e3
        have hl : 0 + mxN (fun j => preT T 0 (nmB (0 + j))) 4 ≤ T.length := mxN_in 4 (fun j hj => by rw [Nat.zero_add j]; exact hle j hj) (Nat.zero_le _)
        rw [Nat.zero_add] at hl
        obtain ⟨M02, f1, f2⟩ := MF_expect (c := 32) e3.1
        rw [f1]
        simp only [zb1_some]
        rw [d2, e2, if_neg (by decide), if_neg (by decide), if_neg (by decide), if_neg (by decide), if_neg (by decide), if_neg (by decide), if_neg (by decide), if_neg (by decide)]
        rw [c3] at d3
        exact finF _ (-1) M1 M02 _ hl hb1 d3 (e3.go f2) rfl
