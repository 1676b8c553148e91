/-! PURE 4: selectors: programs evaluated by both sides -/
def cok (what how d : Int) : Prop := (0 ≤ what ∧ what ≤ 3) ∧ (0 ≤ how ∧ how ≤ 2) ∧ (0 ≤ d ∧ d ≤ 9)
def pok (k pat : Int) : Prop := (0 ≤ k ∧ k ≤ 2) ∧ (1 ≤ pat ∧ pat < 40)
/-- the class's step z is the reference's act a -/
def srel (z a : Int) : Prop := (a = 1 ∧ z = 0) ∨ (a = 2 ∧ z = 1) ∨ (a = 3 ∧ z = 2) ∨ (a = 4 ∧ z = 3) ∨ (∃ what how d : Int, cok what how d ∧ a = 1000 + 100 * what + 10 * how + d ∧ z = ((what * 3 + how) * 10 + d) * 8 + 4) ∨ (∃ k pat : Int, pok k pat ∧ a = 5000 + 100 * k + pat ∧ z = pat * 8 + (5 + k))
def aval (a x : Int) : Prop := a = 1 ∨ (∃ what how d : Int, cok what how d ∧ a = 1000 + 100 * what + 10 * how + d ∧ cmpv how (cmpn what x) d = 1) ∨ (∃ k pat : Int, pok k pat ∧ a = 5000 + 100 * k + pat ∧ shw k pat x)
noncomputable def dcd (P : Prop) : Bool := @decide P (Classical.propDecidable P)
theorem dcd_t {P : Prop} (h : P) : dcd P = true := @decide_eq_true _ (Classical.propDecidable P) h
theorem dcd_f {P : Prop} (h : ¬ P) : dcd P = false := @decide_eq_false _ (Classical.propDecidable P) h
theorem dcd_iff {P : Prop} : dcd P = true ↔ P := ⟨fun h => @of_decide_eq_true _ (Classical.propDecidable P) h, dcd_t⟩
noncomputable def ev1 (x a : Int) (l : List Bool) : List Bool :=
  if a = 2 then (match l with | b :: r => (!b) :: r | [] => [])
  else if a = 3 then (match l with | b :: c :: r => (c && b) :: r | _ => [])
  else if a = 4 then (match l with | b :: c :: r => (c || b) :: r | _ => [])
  else dcd (aval a x) :: l
noncomputable def evl (x : Int) : List Int → List Bool → List Bool
  | [], l => l
  | a :: r, l => evl x r (ev1 x a l)
def dp1 (a : Int) (d : Nat) : Option Nat :=
  if a = 2 then (if 1 ≤ d then some d else none)
  else if a = 3 ∨ a = 4 then (if 2 ≤ d then some (d - 1) else none)
  else some (d + 1)
def dps : List Int → Nat → Option Nat
  | [], d => some d
  | a :: r, d => match dp1 a d with | none => none | some e => dps r e
/-- a program of acts: it leaves one value -/
def pwf (pr : List Int) : Prop := dps pr 0 = some 1 ∧ pr.length ≤ 60 ∧ ∀ a ∈ pr, ∃ z, srel z a
/-- whether a word fulfils a program -/
noncomputable def ful (pr : List Int) (x : Int) : Bool := (evl x pr []).headD false
theorem dps_cons {a : Int} {r : List Int} {d e : Nat} (h : dps (a :: r) d = some e) : ∃ m, dp1 a d = some m ∧ dps r m = some e := by
  unfold dps at h
  cases hm : dp1 a d with
  | none => rw [hm] at h; cases h
  | some m => rw [hm] at h; exact ⟨m, rfl, h⟩
theorem ev1_len {x a : Int} {l : List Bool} {m : Nat} (h : dp1 a l.length = some m) : (ev1 x a l).length = m ∧ m ≤ l.length + 1 := by
  unfold dp1 at h
  unfold ev1
  by_cases h2 : a = 2
  · rw [if_pos h2] at h ⊢
    cases l with
    | nil => rw [if_neg (by decide)] at h; cases h
    | cons b r =>
      rw [if_pos (by simp)] at h
      cases h
      simp
  · rw [if_neg h2] at h ⊢
    by_cases h3 : a = 3
    · rw [if_pos (Or.inl h3)] at h
      rw [if_pos h3]
      match l, h with
      | [], h => rw [if_neg (by decide)] at h; cases h
      | [b], h => rw [if_neg (by simp)] at h; cases h
      | b :: c :: r, h => rw [if_pos (by simp)] at h; cases h; simp
    · by_cases h4 : a = 4
      · rw [if_pos (Or.inr h4)] at h
        rw [if_neg h3, if_pos h4]
        match l, h with
        | [], h => rw [if_neg (by decide)] at h; cases h
        | [b], h => rw [if_neg (by simp)] at h; cases h
        | b :: c :: r, h => rw [if_pos (by simp)] at h; cases h; simp
      · rw [if_neg (by omega)] at h
        rw [if_neg h3, if_neg h4]
        cases h
        simp
/-! the class's stack of bits -/
def stk (z : Int) (l : List Bool) : Prop := inL z ∧ ∀ j, j < 64 → lb z j = l.getD j false
theorem lb_shl1 (z : Int) {j : Nat} (hj : j < 64) : lb (zlshl z 1) j = (decide (0 < j) && lb z (j - 1)) := by
  unfold lb zlshl
  rw [zl_asL, Int64.toBitVec_shiftLeft, show (((zi 1).toInt64 &&& 63).toBitVec.smod 64) = 1#64 by decide, BitVec.shiftLeft_eq', BitVec.getLsbD_shiftLeft]
  show (decide (j < 64) && !decide (j < 1) && (zl z).toBitVec.getLsbD (j - 1)) = _
  simp only [hj, decide_true, Bool.true_and]
  congr 1
  by_cases h : 0 < j
  · simp [h, show ¬ j < 1 by omega]
  · simp [show j = 0 by omega]
theorem lb_shr1 (z : Int) (h63 : lb z 63 = false) {j : Nat} (hj : j < 64) : lb (zlshr z 1) j = (decide (j < 63) && lb z (j + 1)) := by
  unfold lb zlshr at *
  rw [zl_asL, Int64.toBitVec_shiftRight, show (((zi 1).toInt64 &&& 63).toBitVec.smod 64) = 1#64 by decide, BitVec.sshiftRight_eq', BitVec.getLsbD_sshiftRight]
  have hm : (zl z).toBitVec.msb = false := by rw [BitVec.msb_eq_getLsbD_last]; exact h63
  show (!decide (64 ≤ j) && if 1 + j < 64 then (zl z).toBitVec.getLsbD (1 + j) else (zl z).toBitVec.msb) = _
  rw [hm, Nat.add_comm 1 j]
  by_cases h : j < 63
  · rw [if_pos (by omega)]; simp [h, show ¬ 64 ≤ j by omega]
  · rw [if_neg (by omega)]; simp [h]
theorem stk_0 : stk 0 [] := ⟨by decide, fun j _ => by rw [lb_0]; rfl⟩
theorem stk_63 {z : Int} {l : List Bool} (h : stk z l) (hl : l.length ≤ 60) : lb z 63 = false := by
  rw [h.2 63 (by decide), List.getD_eq_getElem?_getD, List.getElem?_eq_none (by omega)]; rfl
theorem stk_push {z b : Int} {l : List Bool} {c : Bool} (h : stk z l) (hb : b = if c then 1 else 0) : stk (zlor (zlshl z 1) b) (c :: l) := by
  refine ⟨cL_zlor _ _, fun j hj => ?_⟩
  rw [lb_or, lb_shl1 z hj]
  have hbj : lb b j = (decide (j = 0) && c) := by
    subst hb
    cases c with
    | true => rw [if_pos rfl, lb_1 j hj]; simp
    | false => rw [if_neg (by decide), lb_0]; simp
  rw [hbj]
  cases j with
  | zero => simp
  | succ j => simp [h.2 j (by omega)]
theorem stk_not {z : Int} {l : List Bool} {b : Bool} (h : stk z (b :: l)) : stk (zlxor z 1) ((!b) :: l) := by
  refine ⟨cL_zlxor _ _, fun j hj => ?_⟩
  rw [lb_xor, h.2 j hj, lb_1 j hj]
  cases j with
  | zero => simp
  | succ j => simp
theorem stk_and {z : Int} {l : List Bool} {b c : Bool} (h : stk z (b :: c :: l)) (hl : (b :: c :: l).length ≤ 60) : stk (zland (zlshr z 1) (zlor z (-2))) ((c && b) :: l) := by
  have h63 := stk_63 h hl
  have h0 := h.2 0 (by decide)
  refine ⟨cL_zland _ _, fun j hj => ?_⟩
  rw [lb_and, lb_or, lb_shr1 z h63 hj, lb_m2 j hj]
  by_cases hj63 : j < 63
  · rw [h.2 (j + 1) (by omega), h.2 j hj]
    cases j with
    | zero => simp
    | succ j => simp [hj63]
  · have : j = 63 := by omega
    subst this
    simp only [List.length_cons] at hl
    rw [List.getD_eq_getElem?_getD, List.getElem?_eq_none (by simp only [List.length_cons]; omega)]
    simp
theorem stk_or {z : Int} {l : List Bool} {b c : Bool} (h : stk z (b :: c :: l)) (hl : (b :: c :: l).length ≤ 60) : stk (zlor (zlshr z 1) (zland z 1)) ((c || b) :: l) := by
  have h63 := stk_63 h hl
  refine ⟨cL_zlor _ _, fun j hj => ?_⟩
  rw [lb_or, lb_and, lb_shr1 z h63 hj, lb_1 j hj]
  by_cases hj63 : j < 63
  · rw [h.2 (j + 1) (by omega), h.2 j hj]
    cases j with
    | zero => simp
    | succ j => simp [hj63]
  · have : j = 63 := by omega
    subst this
    simp only [List.length_cons] at hl
    rw [h.2 63 (by decide), List.getD_eq_getElem?_getD, List.getD_eq_getElem?_getD, List.getElem?_eq_none (by simp only [List.length_cons]; omega), List.getElem?_eq_none (by simp only [List.length_cons]; omega)]
    simp
theorem zland_1 {z : Int} : zland z 1 = if lb z 0 then 1 else 0 := by
  refine lb_ext (cL_zland _ _) (by split <;> decide) (fun j hj => ?_)
  rw [lb_and, lb_1 j hj]
  cases h0 : lb z 0 with
  | true =>
    rw [if_pos rfl, lb_1 j hj]
    cases j with
    | zero => simp [h0]
    | succ j => simp
  | false =>
    rw [if_neg (by decide), lb_0]
    cases j with
    | zero => simp [h0]
    | succ j => simp
theorem zcmp_0 {a b : Int} : zcmp a b = 0 ↔ a = b := by
  unfold zcmp
  by_cases h : a < b
  · rw [if_pos h]; omega
  · rw [if_neg h]
    by_cases h2 : a = b
    · rw [if_pos h2]; simp [h2]
    · rw [if_neg h2]; omega
/-- the class's program is the acts -/
def prgC (M : zM) (S : zS) (q : Nat) (pr : List Int) : Prop := zkd S q = 20 ∧ zlen S q = (pr.length : Int) ∧ ∀ (i : Nat) (a : Int), pr[i]? = some a → srel (M q i) a
/-- a value pushed -/
theorem ev1_val {x a : Int} {l : List Bool} (h2 : a ≠ 2) (h3 : a ≠ 3) (h4 : a ≠ 4) : ev1 x a l = dcd (aval a x) :: l := by
  unfold ev1; rw [if_neg h2, if_neg h3, if_neg h4]
theorem aval_c {x what how d : Int} (h : cok what how d) : aval (1000 + 100 * what + 10 * how + d) x ↔ cmpv how (cmpn what x) d = 1 := by
  obtain ⟨h1, h2, h3⟩ := h
  constructor
  · rintro (q | ⟨w', h', d', ⟨q1, q2, q3⟩, q4, q5⟩ | ⟨k, p, ⟨q1, q2⟩, q4, q5⟩)
    · omega
    · have e1 : w' = what := by omega
      have e2 : h' = how := by omega
      have e3 : d' = d := by omega
      rw [← e1, ← e2, ← e3]; exact q5
    · omega
  · intro q
    exact Or.inr (Or.inl ⟨what, how, d, ⟨h1, h2, h3⟩, rfl, q⟩)
theorem aval_p {x k pat : Int} (h : pok k pat) : aval (5000 + 100 * k + pat) x ↔ shw k pat x := by
  obtain ⟨h1, h2⟩ := h
  constructor
  · rintro (q | ⟨w', h', d', ⟨q1, q2, q3⟩, q4, q5⟩ | ⟨k', p', ⟨q1, q2⟩, q4, q5⟩)
    · omega
    · omega
    · have e1 : k' = k := by omega
      have e2 : p' = pat := by omega
      rw [← e1, ← e2]; exact q5
  · intro q
    exact Or.inr (Or.inr ⟨k, pat, ⟨h1, h2⟩, rfl, q⟩)
theorem cmpv_01 (how m d : Int) : cmpv how m d = 0 ∨ cmpv how m d = 1 := by
  unfold cmpv
  repeat' split
  all_goals omega
/-- the class evaluates -/
theorem FX7_evaluate {M : zM} {S : zS} {q : Nat} {pr : List Int} {x : Int} (hx : wd x) (hk : zkd S q = 5) (hp : prgC M S (zrf S q 0) pr) (hw : pwf pr) : Ok (F_X7_evaluate q x M S) (fun r => tv r (ful pr x = true)) := by
  obtain ⟨k20, hlen, hst⟩ := hp
  obtain ⟨hdp, hl60, _⟩ := hw
  unfold F_X7_evaluate
  rw [FX9_length hx]
  simp only [zb1_some]
  unfold F_X7_evaluate_L10
  refine Ok.loop (fun s => ∃ l : List Bool, 0 ≤ s.2 ∧ s.2 ≤ (pr.length : Int) ∧ stk s.1 l ∧ (l.length : Int) ≤ s.2 ∧ evl x (pr.drop s.2.toNat) l = evl x pr [] ∧ dps (pr.drop s.2.toNat) l.length = some 1) (fun s => (100 - s.2).toNat) (fun e => tv (if lb e 0 then 1 else 0) (ful pr x = true)) ⟨[], Int.le_refl 0, by show (0 : Int) ≤ _; omega, stk_0, Int.le_refl 0, rfl, hdp⟩ (by show (100 - (0 : Int)).toNat < zN; decide) ?_ ?_
  · rintro ⟨v3, v5⟩ ⟨l, i1, i2, i3, i4, i5, i6⟩
    dsimp only at i1 i2 i3 i4 i5 i6 ⊢
    unfold F_X7_evaluate_B10
    refine Ok.chk hk (Ok.chk k20 (Ok.ite (fun c => Ok.chk hk (Ok.chk k20 (Ok.chk ⟨i1, c⟩ (Ok.lett (Ok.chk hk (Ok.chk k20 (Ok.chk ⟨i1, c⟩ (Ok.lett ?_))))))) ) (fun c => Ok.ret ?_)))
    · rw [hlen] at c
      have hlt : v5.toNat < pr.length := by omega
      have hget : pr[v5.toNat]? = some pr[v5.toNat] := List.getElem?_eq_getElem hlt
      have hr := hst v5.toNat _ hget
      rw [show ((v5.toNat : Nat) : Int) = v5 by omega] at hr
      rw [List.drop_eq_getElem_cons hlt] at i5 i6
      have hn : (v5 + 1).toNat = v5.toNat + 1 := by omega
      have hwv : w (v5 + 1) = v5 + 1 := w_id (by omega)
      generalize hz : M (zrf S q 0) v5 = z at hr ⊢
      generalize pr[v5.toNat] = a at hr i5 i6
      obtain ⟨m, hm1, hm2⟩ := dps_cons i6
      have hlen1 := ev1_len (x := x) hm1
      have h60 : l.length ≤ 60 := by omega
      -- what goes on
      have go : ∀ z2 : Int, stk z2 (ev1 x a l) → Ok (F_X7_evaluate_J167 q x (ln x) z2 v5 M S) (Turn (fun s : Int × Int => ∃ l : List Bool, 0 ≤ s.2 ∧ s.2 ≤ (pr.length : Int) ∧ stk s.1 l ∧ (l.length : Int) ≤ s.2 ∧ evl x (pr.drop s.2.toNat) l = evl x pr [] ∧ dps (pr.drop s.2.toNat) l.length = some 1) (fun s => (100 - s.2).toNat) (fun e => tv (if lb e 0 then 1 else 0) (ful pr x = true)) (v3, v5)) := by
        intro z2 h2
        unfold F_X7_evaluate_J167
        refine Ok.lett (Ok.ret ?_)
        rw [hwv]
        refine ⟨⟨ev1 x a l, by show 0 ≤ v5 + 1; omega, by show v5 + 1 ≤ _; omega, h2, by show _ ≤ v5 + 1; rw [hlen1.1]; omega, ?_, ?_⟩, by show (100 - (v5 + 1)).toNat < (100 - v5).toNat; omega⟩
        · show evl x (pr.drop (v5 + 1).toNat) _ = _
          rw [hn]; exact i5
        · show dps (pr.drop (v5 + 1).toNat) _ = _
          rw [hn, hlen1.1]; exact hm2
      rcases hr with ⟨rfl, rfl⟩ | ⟨rfl, rfl⟩ | ⟨rfl, rfl⟩ | ⟨rfl, rfl⟩ | ⟨what, how, d, hc, rfl, rfl⟩ | ⟨k, pat, hc, rfl, rfl⟩
      · rw [show zand 0 7 = 0 by decide]
        refine Ok.pos rfl (Ok.lett (go _ ?_))
        rw [ev1_val (by decide) (by decide) (by decide), dcd_t (show aval 1 x from Or.inl rfl)]
        exact stk_push i3 rfl
      · rw [show zand 1 7 = 1 by decide]
        refine Ok.neg (by decide) (Ok.pos rfl (Ok.lett (go _ ?_)))
        cases l with
        | nil => simp [dp1] at hm1
        | cons b l => exact stk_not i3
      · rw [show zand 2 7 = 2 by decide]
        refine Ok.neg (by decide) (Ok.neg (by decide) (Ok.pos rfl (Ok.lett (go _ ?_))))
        match l, hm1, i3, h60 with
        | [], hm1, _, _ => simp [dp1] at hm1
        | [b], hm1, _, _ => simp [dp1] at hm1
        | b :: c :: l, _, i3, h60 => exact stk_and i3 h60
      · rw [show zand 3 7 = 3 by decide]
        refine Ok.neg (by decide) (Ok.neg (by decide) (Ok.neg (by decide) (Ok.pos rfl (Ok.lett (go _ ?_)))))
        match l, hm1, i3, h60 with
        | [], hm1, _, _ => simp [dp1] at hm1
        | [b], hm1, _, _ => simp [dp1] at hm1
        | b :: c :: l, _, i3, h60 => exact stk_or i3 h60
      · have hc1 := hc.1
        have hc2 := hc.2.1
        have hc3 := hc.2.2
        rw [zand_7 (by omega) (by omega), show (((what * 3 + how) * 10 + d) * 8 + 4) % 8 = 4 by omega, zshr_3 (by omega) (by omega), show (((what * 3 + how) * 10 + d) * 8 + 4) / 8 = (what * 3 + how) * 10 + d by omega]
        refine Ok.neg (by decide) (Ok.neg (by decide) (Ok.neg (by decide) (Ok.neg (by decide) (Ok.pos rfl ?_))))
        rw [FX7_compares hx rfl hc1 hc2 hc3]
        simp only [zb1_some]
        unfold F_X7_evaluate_J138
        have hv := aval_c (x := x) hc
        rw [ev1_val (by omega) (by omega) (by omega)] at go
        refine Ok.ite (fun c0 => Ok.lett (go _ ?_)) (fun c0 => Ok.lett (go _ ?_))
        · rw [dcd_f (fun q => by have := hv.mp q; omega)]
          exact stk_push i3 rfl
        · rw [dcd_t (hv.mpr (by have := cmpv_01 how (cmpn what x) d; omega))]
          exact stk_push i3 rfl
      · have hc1 := hc.1
        have hc2 := hc.2
        rw [zand_7 (by omega) (by omega), show (pat * 8 + (5 + k)) % 8 = 5 + k by omega, zshr_3 (by omega) (by omega), show (pat * 8 + (5 + k)) / 8 = pat by omega]
        refine Ok.neg (by omega) (Ok.neg (by omega) (Ok.neg (by omega) (Ok.neg (by omega) (Ok.neg (by omega) (Ok.b1 (FX7_matches hx hc2 hc1) (fun r hr => ?_))))))
        unfold F_X7_evaluate_J164
        have hv := aval_p (x := x) hc
        rw [ev1_val (by omega) (by omega) (by omega)] at go
        refine Ok.ite (fun c0 => Ok.lett (go _ ?_)) (fun c0 => Ok.lett (go _ ?_))
        · rw [dcd_f (fun q => tv_0 hr c0 (hv.mp q))]
          exact stk_push i3 rfl
        · rw [dcd_t (hv.mpr (tv_1 hr c0))]
          exact stk_push i3 rfl
    · rw [hlen] at c
      have e : v5.toNat = pr.length := by omega
      rw [e, List.drop_length] at i5 i6
      have i5 : l = evl x pr [] := i5
      have i6 : l.length = 1 := Option.some.inj i6
      show tv (if lb v3 0 then 1 else 0) (ful pr x = true)
      unfold ful
      rw [← i5, i3.2 0 (by decide)]
      match l, i6 with
      | [b], _ =>
        cases b with
        | true => exact tv_t rfl
        | false => exact tv_f (by decide)
  · intro e he
    unfold F_X7_evaluate_J173
    have hz : zcmp (zland e 1) 0 = 0 ↔ lb e 0 = false := by
      rw [zcmp_0, zland_1]
      cases lb e 0 <;> decide
    refine Ok.ite (fun c => Ok.ret ?_) (fun c => Ok.ret ?_)
    · rw [hz.mp c] at he; exact he
    · have : lb e 0 = true := by
        cases h : lb e 0 with
        | true => rfl
        | false => exact absurd (hz.mpr h) c
      rw [this] at he; exact he
