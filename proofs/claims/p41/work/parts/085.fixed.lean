/-! THE FIXED CELLS: the places that the law's start makes, by a program out of the constructors; strings -/
def zKL : List (Nat × Nat) := [(28, 0), (7, 12), (1, 9), (23, 60), (20, 60), (2, 6), (20, 6), (25, 5), (2, 6), (20, 6), (25, 5), (3, 18), (20, 300), (20, 29524), (20, 67500), (20, 301), (20, 225), (20, 300), (20, 300), (20, 300), (20, 300), (20, 300), (20, 300), (21, 300), (20, 5), (4, 8), (20, 512), (20, 29524), (20, 29524), (27, 10), (20, 225), (20, 225), (20, 225), (20, 225), (20, 225), (20, 225), (20, 225), (20, 225), (20, 225), (20, 225), (20, 225), (26, 3), (6, 3), (20, 20), (6, 3), (20, 20), (6, 3), (20, 20), (28, 0), (28, 0), (28, 0), (28, 0), (28, 0), (28, 0), (28, 0), (28, 0), (28, 0), (28, 0), (28, 0), (28, 0), (28, 0), (28, 0), (28, 0), (28, 0), (28, 0), (28, 0), (28, 0), (28, 0), (28, 0), (28, 0), (28, 0), (28, 0), (28, 0), (28, 0), (28, 0), (28, 0), (28, 0), (28, 0), (28, 0), (28, 0), (28, 0), (28, 0), (28, 0), (28, 0), (28, 0), (28, 0), (28, 0), (28, 0), (28, 0), (28, 0)]
def zRT : List (List Nat) := [[], [2, 5, 8, 11, 25, 40, 41], [3, 4], [], [], [6, 7], [], [], [9, 10], [], [], [12, 13, 14, 15, 16, 17, 18, 19, 20, 21, 22, 23, 24], [], [], [], [], [], [], [], [], [], [], [], [], [], [26, 0, 0, 27, 0, 28, 0, 29], [], [], [], [30, 31, 32, 33, 34, 35, 36, 37, 38, 39], [], [], [], [], [], [], [], [], [], [], [], [42, 44, 46], [43], [], [45], [], [47]]
def zFx (S : zS) : Prop := 89 ≤ S.1 ∧ (∀ q : Nat, 0 < q → q < 90 → S.2.1 q = zKL.getD q (0, 0)) ∧ (∀ (a k : Nat), (zRT.getD a []).getD k 0 ≠ 0 → S.2.2 a (k : Int) = (zRT.getD a []).getD k 0)
theorem zFx_kd {S : zS} (h : zFx S) (q : Nat) {k : Nat} (e : (decide (0 < q) && decide (q < 90) && (zKL.getD q (0, 0)).1 == k) = true) : zkd S q = k := by
  simp only [Bool.and_eq_true, decide_eq_true_eq, beq_iff_eq] at e
  show (S.2.1 q).1 = k
  rw [h.2.1 q e.1.1 e.1.2]; exact e.2
theorem zFx_ln {S : zS} (h : zFx S) (q : Nat) {n : Nat} (e : (decide (0 < q) && decide (q < 90) && (zKL.getD q (0, 0)).2 == n) = true) : zlen S q = (n : Int) := by
  simp only [Bool.and_eq_true, decide_eq_true_eq, beq_iff_eq] at e
  show ((S.2.1 q).2 : Int) = n
  rw [h.2.1 q e.1.1 e.1.2, e.2]
theorem zFx_rf {S : zS} (h : zFx S) (a k : Nat) {b : Nat} (e : ((zRT.getD a []).getD k 0 == b && b != 0) = true) : zrf S a (k : Int) = b := by
  simp only [Bool.and_eq_true, beq_iff_eq, bne_iff_ne] at e
  show S.2.2 a (k : Int) = b
  rw [h.2.2 a k (by rw [e.1]; exact e.2), e.1]
theorem zFx_cnt {S : zS} (h : zFx S) : 89 ≤ S.1 := h.1
theorem zFx_zn {S S1 : zS} {kd : Nat × Nat} (h : zFx S) (e : S1 = zn S kd) : zFx S1 := by
  subst e
  refine ⟨Nat.le_succ_of_le h.1, fun q h0 h1 => ?_, h.2.2⟩
  show up S.2.1 (S.1 + 1) kd q = _
  rw [up_ne _ _ (by have := h.1; omega)]
  exact h.2.1 q h0 h1
theorem zFx_aq {S S1 : zS} {a : Nat} {i : Int} {v : Nat} (h : zFx S) (e : S1 = zq S a i v) (hz : zRT.getD a [] = []) : zFx S1 := by
  subst e
  refine ⟨h.1, h.2.1, fun b k hk => ?_⟩
  show up S.2.2 a (up (S.2.2 a) i v) b (k : Int) = _
  rw [up_ne _ _ (fun q => by subst q; rw [hz] at hk; exact hk rfl)]
  exact h.2.2 b k hk
theorem zFx_big {S : zS} {q : Nat} (h : zFx S) (e : q = S.1 + 1) : 89 < q := by have := h.1; omega
theorem zRT_big {a : Nat} (h : 89 < a) : zRT.getD a [] = [] := by
  have hl : zRT.length ≤ 89 := by decide
  rw [List.getD_eq_getElem?_getD, List.getElem?_eq_none (by omega)]; rfl
theorem zFx_id {S : zS} {P : Prop} : zFx S → P → zFx S := fun h _ => h
theorem zFx_pn {S0 S S1 : zS} {kd : Nat × Nat} {P : Prop} (h : zFx S0 → P → zFx S) (e : S1 = zn S kd) : zFx S0 → P → zFx S1 := fun a b => zFx_zn (h a b) e
theorem zFx_pq {S0 S S1 : zS} {a : Nat} {i : Int} {v : Nat} (h : zFx S0 → 89 < a → zFx S) (e : S1 = zq S a i v) : zFx S0 → 89 < a → zFx S1 := fun x b => zFx_aq (h x b) e (zRT_big b)
def zpow (i : Int) : Int := (zpw i.toNat).toInt
def zST : List (List Nat) := [[97, 120, 105, 111, 109, 32], [99, 111, 110, 116, 101, 120, 116, 32], [109, 111, 100, 101, 32], [108, 105, 109, 105, 116, 32], [101, 120, 116, 101, 114, 110, 97, 108], [105, 110, 116, 101, 114, 110, 97, 108], [109, 97, 120, 105, 109, 97, 108], [109, 105, 110, 105, 109, 97, 108], [108, 101, 102, 116], [42], [35, 60], [94], [33, 126], [40, 97, 62], [124, 35, 61], [41, 38, 33, 98, 61], [36, 98, 124, 97, 61], [35, 62, 48, 38, 35, 60], [44], [32], []]
def zsl (i : Nat) : Int := ((zST.getD i []).length : Int)
def zsc (i : Nat) (k : Int) : Int := ((zST.getD i []).getD k.toNat 0 : Nat)
def zmulti (S : zS) (n1 n2 : Nat) : zS := (S.1 + 1 + n1, (fun a => if a = S.1 + 1 then (27, n1) else if S.1 + 1 < a ∧ a ≤ S.1 + 1 + n1 then (20, n2) else S.2.1 a), fun a k => if a = S.1 + 1 then (if 0 ≤ k ∧ k < (n1 : Int) then S.1 + 2 + k.toNat else 0) else S.2.2 a k)
def zcpy (M : zM) (a : Nat) (i : Int) (b : Nat) (j n : Int) : zM := up M b (fun k => if j ≤ k ∧ k < j + n then M a (i + (k - j)) else M b k)
def zcpk (M : zM) (i : Nat) (b : Nat) (j : Int) : zM := up M b (fun k => if j ≤ k ∧ k < j + zsl i then zsc i (k - j) else M b k)
def zdi (x : UInt64) : Int := (x.toNat : Int)
noncomputable def zchkP {α : Type} (c : Prop) (x : Option α) : Option α := @ite _ c (Classical.propDecidable c) x none
theorem zchkP_ex {α : Type} {c : Prop} {x : Option α} {o : α} (h : zchkP c x = some o) : c ∧ x = some o := by
  unfold zchkP at h
  by_cases hc : c
  · rw [if_pos hc] at h; exact ⟨hc, h⟩
  · rw [if_neg hc] at h; cases h
theorem zpr2 {α β : Type} {a c : α} {b d : β} (h : (a, b) = (c, d)) : a = c ∧ b = d := ⟨congrArg Prod.fst h, congrArg Prod.snd h⟩
theorem zpr3 {α β γ : Type} {a c : α} {b d : β} {e f : γ} (h : (a, b, e) = (c, d, f)) : a = c ∧ b = d ∧ e = f := ⟨congrArg Prod.fst h, congrArg (fun x => x.2.1) h, congrArg (fun x => x.2.2) h⟩
/-! canonical values -/
theorem cR_zand (a b : Int) : inR (zand a b) := inR_i _
theorem cR_zor (a b : Int) : inR (zor a b) := inR_i _
theorem cR_zxor (a b : Int) : inR (zxor a b) := inR_i _
theorem cR_zshl (a b : Int) : inR (zshl a b) := inR_i _
theorem cR_zshr (a b : Int) : inR (zshr a b) := inR_i _
theorem cR_zushr (a b : Int) : inR (zushr a b) := inR_i _
theorem cR_zdiv (a b : Int) : inR (zdiv a b) := inR_i _
theorem cR_zrem (a b : Int) : inR (zrem a b) := inR_i _
theorem cR_zi2b (a : Int) : inR (zi2b a) := inR_i _
theorem cR_zi2s (a : Int) : inR (zi2s a) := inR_i _
theorem cR_zi2c (a : Int) : inR (zi2c a) := inR_i _
theorem cR_zpow {a : Int} (_ : 0 ≤ a) (_ : a < 10) : inR (zpow a) := inR_i _
theorem cL_zladd (a b : Int) : inL (zladd a b) := inL_l _
theorem cL_zland (a b : Int) : inL (zland a b) := inL_l _
theorem cL_zlor (a b : Int) : inL (zlor a b) := inL_l _
theorem cL_zlxor (a b : Int) : inL (zlxor a b) := inL_l _
theorem cL_zlshl (a b : Int) : inL (zlshl a b) := inL_l _
theorem cL_zlshr (a b : Int) : inL (zlshr a b) := inL_l _
def zmax (a b : Int) : Int := if a < b then b else a
def zmin (a b : Int) : Int := if b < a then b else a
theorem cR_zmax {a b : Int} (ha : inR a) (hb : inR b) : inR (zmax a b) := by unfold zmax; split; exact hb; exact ha
theorem cR_zmin {a b : Int} (ha : inR a) (hb : inR b) : inR (zmin a b) := by unfold zmin; split; exact hb; exact ha
theorem inLc {z : Int} (h : (decide (-9223372036854775808 ≤ z) && decide (z < 9223372036854775808)) = true) : inL z := by simpa using h
theorem zb01_0 : (0 : Int) ≤ 0 ∧ (0 : Int) ≤ 1 := by decide
theorem zb01_1 : (0 : Int) ≤ 1 ∧ (1 : Int) ≤ 1 := by decide
theorem inR_b {z : Int} (h : 0 ≤ z ∧ z ≤ 1) : inR z := by omega
theorem inR_c {z : Int} (h : 0 ≤ z ∧ z < 65536) : inR z := by omega
theorem kR_m100 : inR (-100) := by decide
theorem kR_m10 : inR (-10) := by decide
theorem kR_m9 : inR (-9) := by decide
theorem kR_m2 : inR (-2) := by decide
theorem kR_m1 : inR (-1) := by decide
theorem kR_0 : inR 0 := by decide
theorem kR_1 : inR 1 := by decide
theorem kR_2 : inR 2 := by decide
theorem kR_3 : inR 3 := by decide
theorem kR_4 : inR 4 := by decide
theorem kR_5 : inR 5 := by decide
theorem kR_6 : inR 6 := by decide
theorem kR_7 : inR 7 := by decide
theorem kR_8 : inR 8 := by decide
theorem kR_9 : inR 9 := by decide
theorem kR_10 : inR 10 := by decide
theorem kR_11 : inR 11 := by decide
theorem kR_12 : inR 12 := by decide
theorem kR_13 : inR 13 := by decide
theorem kR_16 : inR 16 := by decide
theorem kR_20 : inR 20 := by decide
theorem kR_21 : inR 21 := by decide
theorem kR_25 : inR 25 := by decide
theorem kR_27 : inR 27 := by decide
theorem kR_30 : inR 30 := by decide
theorem kR_32 : inR 32 := by decide
theorem kR_33 : inR 33 := by decide
theorem kR_35 : inR 35 := by decide
theorem kR_36 : inR 36 := by decide
theorem kR_38 : inR 38 := by decide
theorem kR_40 : inR 40 := by decide
theorem kR_41 : inR 41 := by decide
theorem kR_42 : inR 42 := by decide
theorem kR_44 : inR 44 := by decide
theorem kR_48 : inR 48 := by decide
theorem kR_49 : inR 49 := by decide
theorem kR_57 : inR 57 := by decide
theorem kR_60 : inR 60 := by decide
theorem kR_62 : inR 62 := by decide
theorem kR_63 : inR 63 := by decide
theorem kR_94 : inR 94 := by decide
theorem kR_97 : inR 97 := by decide
theorem kR_99 : inR 99 := by decide
theorem kR_100 : inR 100 := by decide
theorem kR_124 : inR 124 := by decide
theorem kR_126 : inR 126 := by decide
theorem kR_225 : inR 225 := by decide
theorem kR_255 : inR 255 := by decide
theorem kR_300 : inR 300 := by decide
theorem kR_301 : inR 301 := by decide
theorem kR_462 : inR 462 := by decide
theorem kR_512 : inR 512 := by decide
theorem kR_1009 : inR 1009 := by decide
theorem kR_2047 : inR 2047 := by decide
theorem kR_12345 : inR 12345 := by decide
theorem kR_29524 : inR 29524 := by decide
theorem kR_67500 : inR 67500 := by decide
theorem kR_69069 : inR 69069 := by decide
theorem kR_252645135 : inR 252645135 := by decide
theorem kR_858993459 : inR 858993459 := by decide
theorem kR_1103515245 : inR 1103515245 := by decide
theorem kR_1431655765 : inR 1431655765 := by decide
theorem kR_2147483639 : inR 2147483639 := by decide
theorem kR_2147483647 : inR 2147483647 := by decide
