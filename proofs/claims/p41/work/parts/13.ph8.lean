/-! PURE 72: texts: what is read, and what follows from it -/
/-- kind (-1: a fault at the second), numbers, program -/
abbrev zOut : Type := Int × Nat × Int × Int × List Int
def vO (T : List Int) (o : zOut) : Prop := (o.1 = -1 ∧ o.2.1 ≤ T.length ∧ o.2.2 = (0, 0, [])) ∨ (o.1 = 0 ∧ o.2.1 = 0 ∧ (1 ≤ o.2.2.1 ∧ o.2.2.1 < 9841) ∧ o.2.2.2 = (0, [])) ∨ (o.1 = 1 ∧ o.2.1 = 0 ∧ cxok o.2.2 ∧ o.2.2.2.2.length < 60) ∨ (o.1 = 2 ∧ o.2.1 = 0 ∧ (0 ≤ o.2.2.1 ∧ o.2.2.1 ≤ 4) ∧ o.2.2.2 = (0, [])) ∨ (o.1 = 3 ∧ o.2.1 = 0 ∧ (1 ≤ o.2.2.1 ∧ o.2.2.1 ≤ 9) ∧ o.2.2.2 = (0, []))
/-- the class has read o -/
def cRd (o : zOut) (M : zM) (r : Int × zM) : Prop := r.1 = o.1 ∧ (∀ b, b ≠ 2 → b ≠ 4 → r.2 b = M b) ∧ (o.1 = -1 → r.2 2 4 = (o.2.1 : Int)) ∧ (o.1 = 0 → r.2 2 5 = o.2.2.1) ∧ (o.1 = 1 → r.2 2 6 = o.2.2.1 ∧ r.2 2 7 = o.2.2.2.1 ∧ r.2 2 2 = (o.2.2.2.2.length : Int) ∧ ∀ (i : Nat) (a : Int), o.2.2.2.2[i]? = some a → srel (r.2 4 i) a) ∧ (o.1 = 2 ∨ o.1 = 3 → r.2 2 8 = o.2.2.1)
/-- the reference has read o -/
def rdF (o : zOut) (M0 M1 : zM) : Prop := mfr (fun b => b = 55) (fun k => k = 0 ∨ (11 ≤ k ∧ k ≤ 17)) M0 M1 ∧ M1 48 0 = 0 ∧ M1 48 11 = 0 ∧ M1 48 14 = (if o.1 = -1 then (o.2.1 : Int) else -1) ∧ (o.1 = 1 → M1 48 17 = (o.2.2.2.2.length : Int) ∧ rowl (M1 55) o.2.2.2.2)
def mFail (c : Int) (M : zM) : Option (Int × zM) := zb2 (F_X11_fail c M) fun r M2 => some (r, M2)
def mCtx (L R : Int) (M : zM) : Option (Int × zM) := if (M 48 7) = 5 then mFail 2 M else (zchk ((0 : Int) ≤ (M 48 7) ∧ (M 48 7) < 5) (zlet (zs M 50 (M 48 7) L) fun M32 => (zchk ((0 : Int) ≤ (M32 48 7) ∧ (M32 48 7) < 5) (zlet (zs M32 51 (M32 48 7) R) fun M35 => (zchk ((0 : Int) ≤ (M35 48 7) ∧ (M35 48 7) < 5) (zlet (zs M35 53 (M35 48 7) (M35 48 17)) fun M39 => (F_X11_defineContext_L96 0 M39)))))))
/-- what the reference does with it -/
def mAct (o : zOut) (M : zM) : Option (Int × zM) := if o.1 = -1 then mFail 1 M else if o.1 = 0 then F_X11_defineAxiom_L29 o.2.2.1 0 0 M else if o.1 = 1 then mCtx o.2.2.1 o.2.2.2.1 M else if o.1 = 2 then (zlet (M 48 8) fun x6 => (zlet (zs M 48 8 o.2.2.1) fun M7 => (some (x6, M7)))) else (zlet (M 48 9) fun x9 => (zlet (zs M 48 9 o.2.2.1) fun M10 => (some (x9, M10))))
/-- from the place behind the first name on -/
def rdQ (o : zOut) (M1 M2 : zM) : Prop := qfr M1 M2 ∧ M2 48 14 = (if o.1 = -1 then (o.2.1 : Int) else -1) ∧ (o.1 = 1 → M2 48 17 = (o.2.2.2.2.length : Int) ∧ rowl (M2 55) o.2.2.2.2)
def oFt (q : Nat) : zOut := (-1, q, 0, 0, [])
theorem zb2_id {α β : Type} (x : Option (α × β)) : (zb2 x fun a b => some (a, b)) = x := by
  cases x with
  | none => rfl
  | some a => exact zb2_some a.1 a.2 _
theorem MP_fin_y {T pr : List Int} {op : Int} {M : zM} (h : mpS T pr T.length op M) : F_X11_finish M = some M := by
  unfold F_X11_finish
  rw [h.2.2.1, if_pos (by decide), h.2.1, h.1, if_neg (by omega)]
theorem MP_fin_n {T pr : List Int} {p : Nat} {op : Int} {M : zM} (h : mpS T pr p op M) (hp : p < T.length) : ∃ M1, F_X11_finish M = some M1 ∧ mFt p M M1 := by
  refine ⟨_, ?_, h.fh⟩
  unfold F_X11_finish
  rw [h.2.2.1, if_pos (by decide), if_pos (by rw [h.2.1, h.1]; omega), zlet_eq]
section
variable {q : Nat} {M : zM}
theorem MF_fin (h : M 48 14 = (q : Int)) : F_X11_finish M = some M := by
  unfold F_X11_finish
  rw [if_neg (by omega)]
theorem MF_ax (h : M 48 14 = (q : Int)) : ∃ M1, mFt q M M1 ∧ F_X11_defineAxiom M = mFail 1 M1 := by
  refine ⟨M, mFt.refl h, ?_⟩
  unfold F_X11_defineAxiom
  rw [MF_word h]
  simp only [zb2_some]
  rw [MF_fin h]
  simp only [zb1_some]
  rw [if_neg (by omega)]
  rfl
theorem MF_lim (h : M 48 14 = (q : Int)) : ∃ M1, mFt q M M1 ∧ F_X11_defineLimit M = mFail 1 M1 := by
  obtain ⟨⟨v, M1⟩, a1, a2⟩ := MF_digit (a := 1) h
  dsimp only at a2
  refine ⟨M1, a2, ?_⟩
  unfold F_X11_defineLimit
  rw [a1]
  simp only [zb2_some]
  rw [MF_fin a2.1]
  simp only [zb1_some]
  rw [if_neg (by rw [a2.1]; omega)]
  rfl
theorem MF_mode18 {v : Int} (h : M 48 14 = (q : Int)) : F_X11_defineMode_J18 v M = mFail 1 M := by
  unfold F_X11_defineMode_J18
  rw [MF_fin h]
  simp only [zb1_some]
  rw [if_neg (by omega)]
  rfl
theorem MF_mode (h : M 48 14 = (q : Int)) : ∃ M1, mFt q M M1 ∧ F_X11_defineMode M = mFail 1 M1 := by
  refine ⟨M, mFt.refl h, ?_⟩
  unfold F_X11_defineMode
  rw [if_neg (by omega)]
  exact MF_mode18 h
def ctT3 (L R : Int) (M20 : zM) : Option (Int × zM) := zb1 (F_GQ 40 0 M20) fun M22 => (zb1 (F_X11_finish M22) fun M24 => (if (M24 48 14) < 0 then mCtx L R M24 else mFail 1 M24))
def ctT2 (L R : Int) (M18 : zM) : Option (Int × zM) := zb1 (F_X11_expect 32 M18) fun M20 => ctT3 L R M20
def ctT1 (L : Int) (M15 : zM) : Option (Int × zM) := zb2 (F_X11_readWord 0 3 M15) fun r17 M18 => ctT2 L r17 M18
def ctT0 (L : Int) (M13 : zM) : Option (Int × zM) := zb1 (F_X11_expect 44 M13) fun M15 => ctT1 L M15
theorem ctT_eq : F_X11_defineContext M = zb2 (F_X11_readWord 1 3 M) fun r12 M13 => ctT0 r12 M13 := rfl
theorem MF_ct3 {L R : Int} (h : M 48 14 = (q : Int)) : ∃ M1, mFt q M M1 ∧ ctT3 L R M = mFail 1 M1 := by
  obtain ⟨M1, a1, a2⟩ := MF_GQ0 40 (by decide) h
  refine ⟨M1, a2, ?_⟩
  unfold ctT3
  rw [a1]
  simp only [zb1_some]
  rw [MF_fin a2.1]
  simp only [zb1_some]
  rw [if_neg (by rw [a2.1]; omega)]
theorem MF_ct2 {L R : Int} (h : M 48 14 = (q : Int)) : ∃ M1, mFt q M M1 ∧ ctT2 L R M = mFail 1 M1 := by
  obtain ⟨M1, a1, a2⟩ := MF_expect (c := 32) h
  obtain ⟨M2, b1, b2⟩ := MF_ct3 (L := L) (R := R) a2.1
  refine ⟨M2, a2.go b1, ?_⟩
  unfold ctT2
  rw [a1]
  simp only [zb1_some]
  exact b2
theorem MF_ct1 {L : Int} (h : M 48 14 = (q : Int)) : ∃ M1, mFt q M M1 ∧ ctT1 L M = mFail 1 M1 := by
  obtain ⟨M2, b1, b2⟩ := MF_ct2 (L := L) (R := 0) h
  refine ⟨M2, b1, ?_⟩
  unfold ctT1
  rw [MF_word h]
  simp only [zb2_some]
  exact b2
theorem MF_ct0 {L : Int} (h : M 48 14 = (q : Int)) : ∃ M1, mFt q M M1 ∧ ctT0 L M = mFail 1 M1 := by
  obtain ⟨M1, a1, a2⟩ := MF_expect (c := 44) h
  obtain ⟨M2, b1, b2⟩ := MF_ct1 (L := L) a2.1
  refine ⟨M2, a2.go b1, ?_⟩
  unfold ctT0
  rw [a1]
  simp only [zb1_some]
  exact b2
theorem MF_ctx (h : M 48 14 = (q : Int)) : ∃ M1, mFt q M M1 ∧ F_X11_defineContext M = mFail 1 M1 := by
  obtain ⟨M2, b1, b2⟩ := MF_ct0 (L := 0) h
  refine ⟨M2, b1, ?_⟩
  rw [ctT_eq, MF_word h]
  simp only [zb2_some]
  exact b2
end
/-- a reading of both sides from a place behind the name on -/
def JR (T : List Int) (k : Int) (M M0 : zM) (x : Option (Int × zM)) (y : Option (Int × zM)) : Prop := ∃ o : zOut, vO T o ∧ Ok (zb2 x fun r M1 => F_X1_read_J82 k r M1) (cRd o M) ∧ ∃ M2, rdQ o M0 M2 ∧ y = mAct o M2
theorem q0m : ¬ ((0 : Int) = -1) := by decide
theorem q01 : ¬ ((0 : Int) = 1) := by decide
theorem q023 : ¬ ((0 : Int) = 2 ∨ (0 : Int) = 3) := by decide
theorem q1m : ¬ ((1 : Int) = -1) := by decide
theorem q10 : ¬ ((1 : Int) = 0) := by decide
theorem q123 : ¬ ((1 : Int) = 2 ∨ (1 : Int) = 3) := by decide
theorem q2m : ¬ ((2 : Int) = -1) := by decide
theorem q20 : ¬ ((2 : Int) = 0) := by decide
theorem q21 : ¬ ((2 : Int) = 1) := by decide
theorem q3m : ¬ ((3 : Int) = -1) := by decide
theorem q30 : ¬ ((3 : Int) = 0) := by decide
theorem q31 : ¬ ((3 : Int) = 1) := by decide
theorem q32 : ¬ ((3 : Int) = 2) := by decide
theorem qm0 : ¬ ((-1 : Int) = 0) := by decide
theorem qm1 : ¬ ((-1 : Int) = 1) := by decide
theorem qm23 : ¬ ((-1 : Int) = 2 ∨ (-1 : Int) = 3) := by decide
theorem mAct_ft {q : Nat} {M : zM} : mAct (oFt q) M = mFail 1 M := by
  unfold mAct
  rw [if_pos (show (oFt q).1 = -1 from rfl)]
theorem rdQ_ft {q : Nat} {M M2 : zM} (h : mFt q M M2) : rdQ (oFt q) M M2 := ⟨h.2, by rw [if_pos (show (oFt q).1 = -1 from rfl)]; exact h.1, fun e => absurd e qm1⟩
theorem vO_ft {T : List Int} {q : Nat} (h : q ≤ T.length) : vO T (oFt q) := Or.inl ⟨rfl, h, rfl⟩
theorem cRd_ft {q : Nat} {M M1 : zM} (h1 : ∀ b, b ≠ 2 → b ≠ 4 → M1 b = M b) (h2 : M1 2 4 = (q : Int)) : cRd (oFt q) M (-1, M1) := ⟨rfl, h1, fun _ => h2, fun e => absurd e qm0, fun e => absurd e qm1, fun e => absurd e qm23⟩
theorem J82_0 {k : Int} {M : zM} : F_X1_read_J82 k 0 M = some (-1, M) := by
  unfold F_X1_read_J82 F_X1_read_J101
  rw [if_pos rfl]
theorem J82_1 {k r : Int} {M : zM} (hr : r ≠ 0) : F_X1_read_J82 k r M = if (M 2 4) = (M 2 3) then some (k, M) else some (-1, M) := by
  unfold F_X1_read_J82 F_X1_read_J101
  rw [if_neg hr]
section
variable {T : List Int} {p : Nat} {op : Int} {M M0 : zM}
theorem JR_axiom (hT : txtT T) (hC : cpS T [] p M) (hM : mpS T [] p op M0) (hp : p ≤ T.length) : JR T 0 M M0 (F_X1_readAxiom M) (F_X11_defineAxiom M0) := by
  have h60 := hT.1
  obtain ⟨⟨v, M1⟩, a1, a2, a3, a4⟩ := CP_letters hT hC 8 (by decide) hp
  obtain ⟨⟨v2, M2⟩, b1, b2, b3⟩ := MP_word (a := 1) (m := 8) hT hM (by decide) hp (by decide)
  obtain ⟨l1, l2, l3, l4⟩ := lwT_0 (T := T) (p := p) (m := 8) (by decide)
  have l5 := lwT_lt (T := T) (p := p) (m := 8) (by decide)
  have l6 : f3 (((8 : Nat) : Int) + 1) = 9841 := by decide
  rw [l6] at l5
  have lc := (lcT_le (T := T) 8 p).2 hp
  dsimp only at a2 a3 a4 b2 b3
  subst a2
  subst b2
  have a1' : F_X1_readLetters 8 M = some (lwT T p 8 0, M1) := a1
  have b1' : F_X11_readWord 1 8 M0 = some (lwT T p 8 0, M2) := b1
  have hx : F_X1_readAxiom M = if lwT T p 8 0 = 0 then some (0, zs M1 2 5 (lwT T p 8 0)) else some (1, zs M1 2 5 (lwT T p 8 0)) := by
    unfold F_X1_readAxiom
    rw [a1']
    simp only [zb2_some, zlet_eq]
    rw [zs_at]
  have hb : ∀ b, b ≠ 2 → b ≠ 4 → zs M1 2 5 (lwT T p 8 0) b = M b := fun b h2 h4 => by rw [zs_ne _ _ _ h2]; exact a4.1 b h2 h4
  have e4 : zs M1 2 5 (lwT T p 8 0) 2 4 = ((p + lcT T p 8 : Nat) : Int) := by rw [zs_off _ _ (Or.inr (by decide))]; exact a3.2.2.1
  have e3 : zs M1 2 5 (lwT T p 8 0) 2 3 = (T.length : Int) := by rw [zs_off _ _ (Or.inr (by decide))]; exact a3.1
  have e5 : zs M1 2 5 (lwT T p 8 0) 2 5 = lwT T p 8 0 := zs_at M1 2 5 _
  unfold JR
  rw [hx]
  have hy : F_X11_defineAxiom M0 = zb1 (F_X11_finish M2) fun M23 => (if (M23 48 14) < 0 then (F_X11_defineAxiom_L29 (lwT T p 8 0) 0 0 M23) else mFail 1 M23) := by
    unfold F_X11_defineAxiom
    rw [b1']
    simp only [zb2_some]
    rfl
  rw [hy]
  rcases b3 with ⟨c1, c2⟩ | ⟨c1, c2⟩
  · have hv := l2 (by omega)
    rw [if_neg (by omega)]
    simp only [zb2_some]
    rw [J82_1 (by decide), e4, e3]
    by_cases e : p + lcT T p 8 = T.length
    · refine ⟨(0, 0, lwT T p 8 0, 0, []), Or.inr (Or.inl ⟨rfl, rfl, ⟨hv, l5⟩, rfl⟩), ?_, M2, ⟨c2.2, by rw [if_neg q0m]; exact c2.1.2.2.1, fun q => absurd q q01⟩, ?_⟩
      · exact Ok.pos (by omega) (Ok.ret ⟨rfl, hb, fun q => absurd q q0m, fun _ => e5, fun q => absurd q q01, fun q => absurd q q023⟩)
      · have h := c2.1
        rw [e] at h
        rw [MP_fin_y h]
        simp only [zb1_some]
        rw [if_pos (by rw [h.2.2.1]; decide)]
        unfold mAct
        rw [if_neg q0m, if_pos (show (0 : Int) = 0 from rfl)]
    · obtain ⟨M3, d1, d2⟩ := MP_fin_n c2.1 (by omega)
      refine ⟨oFt (p + lcT T p 8), vO_ft lc, ?_, M3, rdQ_ft (mFt.pre c2.2 d2), ?_⟩
      · exact Ok.neg (by omega) (Ok.ret (cRd_ft hb e4))
      · rw [d1]
        simp only [zb1_some]
        rw [if_neg (by rw [d2.1]; omega), mAct_ft]
  · have hv := l1 (by omega)
    have hl : lcT T p 8 = 0 := by omega
    rw [hl] at e4
    rw [if_pos hv]
    simp only [zb2_some]
    rw [J82_0]
    refine ⟨oFt p, vO_ft hp, Ok.ret (cRd_ft hb e4), M2, rdQ_ft c2, ?_⟩
    rw [MF_fin c2.1]
    simp only [zb1_some]
    rw [if_neg (by rw [c2.1]; omega), mAct_ft]
theorem JR_limit (hT : txtT T) (hC : cpS T [] p M) (hM : mpS T [] p op M0) (hp : p ≤ T.length) : JR T 3 M M0 (F_X1_readLimit M) (F_X11_defineLimit M0) := by
  have h60 := hT.1
  obtain ⟨⟨v2, M2⟩, b1, b2⟩ := MP_digit (a := 1) hT hM (by decide)
  dsimp only at b2
  unfold JR F_X1_readLimit
  rw [CP_here hT hC]
  simp only [zb1_some]
  have hy : F_X11_defineLimit M0 = zb1 (F_X11_finish M2) fun M4 => (if (M4 48 14) < 0 then (zlet (M4 48 9) fun x9 => (zlet (zs M4 48 9 v2) fun M10 => (some (x9, M10)))) else mFail 1 M4) := by
    unfold F_X11_defineLimit
    rw [b1]
    simp only [zb2_some]
    rfl
  rw [hy]
  by_cases e : 48 + 1 ≤ chT T p ∧ chT T p ≤ 57
  · rw [if_pos e] at b2
    obtain ⟨b2, b3⟩ := b2
    have hl := chT_lt (T := T) (p := p) (by omega)
    rw [if_neg (by omega), if_neg (by omega), w_id (by omega)]
    simp only [zlet_eq]
    have e4 : zs M 2 8 (chT T p - 48) 2 4 = (p : Int) := by rw [zs_off _ _ (Or.inr (by decide))]; exact hC.2.2.1
    rw [e4, w_id (by omega)]
    simp only [zb2_some]
    rw [J82_1 (by decide)]
    have f4 : zs (zs M 2 8 (chT T p - 48)) 2 4 ((p : Int) + 1) 2 4 = (p : Int) + 1 := zs_at _ 2 4 _
    have f3' : zs (zs M 2 8 (chT T p - 48)) 2 4 ((p : Int) + 1) 2 3 = (T.length : Int) := by rw [zs_off _ _ (Or.inr (by decide)), zs_off _ _ (Or.inr (by decide))]; exact hC.1
    have f8 : zs (zs M 2 8 (chT T p - 48)) 2 4 ((p : Int) + 1) 2 8 = chT T p - 48 := by rw [zs_off _ _ (Or.inr (by decide)), zs_at]
    have fb : ∀ b, b ≠ 2 → b ≠ 4 → zs (zs M 2 8 (chT T p - 48)) 2 4 ((p : Int) + 1) b = M b := fun b h2 h4 => by rw [zs_ne _ _ _ h2, zs_ne _ _ _ h2]
    generalize zs (zs M 2 8 (chT T p - 48)) 2 4 ((p : Int) + 1) = M1 at f4 f3' f8 fb ⊢
    rw [f4, f3', b2]
    by_cases e2 : p + 1 = T.length
    · refine ⟨(3, 0, chT T p - 48, 0, []), Or.inr (Or.inr (Or.inr (Or.inr ⟨rfl, rfl, ⟨by show 1 ≤ chT T p - 48; omega, by show chT T p - 48 ≤ 9; omega⟩, rfl⟩))), ?_, M2, ⟨b3.2, by rw [if_neg q3m]; exact b3.1.2.2.1, fun q => absurd q q31⟩, ?_⟩
      · exact Ok.pos (by omega) (Ok.ret ⟨rfl, fb, fun q => absurd q q3m, fun q => absurd q q30, fun q => absurd q q31, fun _ => f8⟩)
      · have h := b3.1
        rw [e2] at h
        rw [MP_fin_y h]
        simp only [zb1_some]
        rw [if_pos (by rw [h.2.2.1]; decide)]
        unfold mAct
        rw [if_neg q3m, if_neg q30, if_neg q31, if_neg q32]
        rfl
    · obtain ⟨M3, d1, d2⟩ := MP_fin_n b3.1 (by omega)
      refine ⟨oFt (p + 1), vO_ft hl, ?_, M3, rdQ_ft (mFt.pre b3.2 d2), ?_⟩
      · exact Ok.neg (by omega) (Ok.ret (cRd_ft fb (by rw [f4]; omega)))
      · rw [d1]
        simp only [zb1_some]
        rw [if_neg (by rw [d2.1]; omega), mAct_ft]
  · rw [if_neg e] at b2
    have hz : (zb2 (if chT T p < 49 then some (0, M) else if 57 < chT T p then some (0, M) else zlet (zs M 2 8 (w (chT T p - 48))) fun M6 => (zlet (zs M6 2 4 (w ((M6 2 4) + 1))) fun M8 => (some (1, M8)))) fun r M1 => F_X1_read_J82 3 r M1) = some (-1, M) := by
      by_cases z : chT T p < 49
      · rw [if_pos z]; simp only [zb2_some]; exact J82_0
      · rw [if_neg z, if_pos (by omega)]; simp only [zb2_some]; exact J82_0
    refine ⟨oFt p, vO_ft hp, Ok.of hz (cRd_ft (fun _ _ _ => rfl) hC.2.2.1), M2, rdQ_ft b2, ?_⟩
    rw [MF_fin b2.1]
    simp only [zb1_some]
    rw [if_neg (by rw [b2.1]; omega), mAct_ft]
theorem mxN_in {k : Nat → Nat} {L : Nat} : ∀ t, (∀ j, j < t → p + k j ≤ L) → p ≤ L → p + mxN k t ≤ L := by
  intro t
  induction t with
  | zero => intro _ h; exact h
  | succ t ih =>
    intro h h0
    have h1 := ih (fun j hj => h j (by omega)) h0
    have h2 := h t (Nat.lt_succ_self t)
    unfold mxN
    by_cases e : mxN k t < k t
    · rw [if_pos e]; exact h2
    · rw [if_neg e]; exact h1
theorem JR_mode (hT : txtT T) (hC : cpS T [] p M) (hM : mpS T [] p op M0) (hp : p ≤ T.length) (h10 : p ≤ 10) : JR T 2 M M0 (F_X1_readMode M) (F_X11_defineMode M0) := by
  have h60 := hT.1
  obtain ⟨⟨v, M1⟩, a1, t, a2, a3, a4, a5⟩ := CP_mode hT hC (by omega)
  obtain ⟨⟨v2, M2⟩, b1, u, b2, b3⟩ := MP_name (a := 4) (n := 5) hT hM h10 (by decide) (by decide)
  have hk : (fun j => preT T p (nmB (4 + j))) = (fun j => preT T p (nmA (4 + j))) ∨ True := Or.inr trivial
  have hAB : ∀ j, j < 5 → nmB (4 + j) = nmA (4 + j) := fun j hj => nmB_4 (4 + j) (by omega) (by omega)
  have b2' : isF (fun j => preT T p (nmA (4 + j))) (fun j => (nmA (4 + j)).length) 5 u := by
    obtain ⟨q1, q2, q3⟩ := b2
    refine ⟨q1, fun j hj => ?_, fun hu => ?_⟩
    · have h := q2 j hj
      dsimp only at h ⊢
      rw [hAB j (by omega)] at h
      exact h
    · have h := q3 hu
      dsimp only at h ⊢
      rw [hAB u (by omega)] at h
      exact h
  have etu := isF_u a2 b2'
  subst etu
  dsimp only at a3 a4 a5 b3
  have b1' : F_X11_readName 4 8 M0 = some (v2, M2) := b1
  have hy : F_X11_defineMode M0 = F_X11_defineMode_J18 v2 M2 := by
    unfold F_X11_defineMode
    rw [if_pos (by rw [hM.2.2.1]; decide), b1']
    simp only [zb2_some]
  have hin : ∀ j, j < 5 → p + preT T p (nmA (4 + j)) ≤ T.length := fun j hj => preT_in (nmA (4 + j)) p (nmA_m (4 + j) (by omega)) hp
  unfold JR
  rw [hy, a1]
  simp only [zb2_some]
  rcases a5 with ⟨c1, c2, c3, c4⟩ | ⟨c1, c2, c3⟩
  · rcases b3 with ⟨d1, d2, d3⟩ | ⟨d1, d2, d3⟩
    · have hlen : preT T p (nmA (4 + t)) = (nmA (4 + t)).length := a2.2.2 c1
      have hmx := modes_mx c1 hlen
      have hi := hin t c1
      rw [hmx] at c3
      rw [hAB t c1] at d3
      rw [c2, J82_1 (by decide), c3, a4, hC.1]
      by_cases e : p + (nmA (4 + t)).length = T.length
      · refine ⟨(2, 0, (t : Int), 0, []), Or.inr (Or.inr (Or.inr (Or.inl ⟨rfl, rfl, ⟨by show 0 ≤ (t : Int); omega, by show (t : Int) ≤ 4; omega⟩, rfl⟩))), ?_, M2, ⟨d3.2, by rw [if_neg q2m]; exact d3.1.2.2.1, fun q => absurd q q21⟩, ?_⟩
        · exact Ok.pos (by omega) (Ok.ret ⟨rfl, fun b h2 _ => a3 b h2, fun q => absurd q q2m, fun q => absurd q q20, fun q => absurd q q21, fun _ => c4⟩)
        · have h := d3.1
          rw [e] at h
          unfold F_X11_defineMode_J18
          rw [MP_fin_y h]
          simp only [zb1_some]
          rw [if_pos (by rw [h.2.2.1]; decide), d2, w_id (by omega), show ((4 + t : Nat) : Int) - 4 = (t : Int) by omega]
          unfold mAct
          rw [if_neg q2m, if_neg q20, if_neg q21, if_pos (show (2 : Int) = 2 from rfl)]
      · obtain ⟨M3, f1, f2⟩ := MP_fin_n d3.1 (by omega)
        refine ⟨oFt (p + (nmA (4 + t)).length), vO_ft (by omega), ?_, M3, rdQ_ft (mFt.pre d3.2 f2), ?_⟩
        · exact Ok.neg (by omega) (Ok.ret (cRd_ft (fun b h2 _ => a3 b h2) c3))
        · unfold F_X11_defineMode_J18
          rw [f1]
          simp only [zb1_some]
          rw [if_neg (by rw [f2.1]; omega), mAct_ft]
          rfl
    · omega
  · rcases b3 with ⟨d1, d2, d3⟩ | ⟨d1, d2, d3⟩
    · omega
    · have hm : mxN (fun j => preT T p (nmB (4 + j))) 5 = mxN (fun j => preT T p (nmA (4 + j))) 5 := by
        have e : ∀ u, u ≤ 5 → mxN (fun j => preT T p (nmB (4 + j))) u = mxN (fun j => preT T p (nmA (4 + j))) u := by
          intro u
          induction u with
          | zero => intro _; rfl
          | succ u ih =>
            intro hu
            unfold mxN
            rw [ih (by omega), hAB u (by omega)]
        exact e 5 (Nat.le_refl 5)
      rw [hm] at d3
      rw [c2, J82_0, MF_mode18 d3.1, ← mAct_ft (q := p + mxN (fun j => preT T p (nmA (4 + j))) 5)]
      exact ⟨oFt _, vO_ft (mxN_in 5 hin hp), Ok.ret (cRd_ft (fun b h2 _ => a3 b h2) c3), M2, rdQ_ft d3, rfl⟩
end
