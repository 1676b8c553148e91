/-! PURE 3: patterns, bits -/
def tv (r : Int) (P : Prop) : Prop := (r = 1 ∧ P) ∨ (r = 0 ∧ ¬ P)
theorem tv_b {r : Int} {P : Prop} (h : tv r P) : 0 ≤ r ∧ r ≤ 1 := by rcases h with h | h <;> omega
theorem tv_1 {r : Int} {P : Prop} (h : tv r P) (h1 : ¬ r = 0) : P := by
  rcases h with h | h
  · exact h.2
  · exact absurd h.1 h1
theorem tv_0 {r : Int} {P : Prop} (h : tv r P) (h1 : r = 0) : ¬ P := by
  rcases h with h | h
  · omega
  · exact h.2
theorem tv_iff {r : Int} {P Q : Prop} (h : tv r P) (e : P ↔ Q) : tv r Q := by
  rcases h with h | h
  · exact Or.inl ⟨h.1, e.mp h.2⟩
  · exact Or.inr ⟨h.1, fun q => h.2 (e.mpr q)⟩
theorem tv_t {P : Prop} (h : P) : tv 1 P := Or.inl ⟨rfl, h⟩
theorem tv_f {P : Prop} (h : ¬ P) : tv 0 P := Or.inr ⟨rfl, h⟩
def shw (k pat x : Int) : Prop := ln pat ≤ ln x ∧ (if k = 0 then fa x 0 (ln pat) = pat else if k = 1 then fa x (ln x - ln pat) (ln x) = pat else ∃ i : Int, 0 ≤ i ∧ i + ln pat ≤ ln x ∧ fa x i (i + ln pat) = pat)
theorem ln_pat {p : Int} (h1 : 1 ≤ p) (h2 : p < 40) : 1 ≤ ln p ∧ ln p ≤ 3 := by
  unfold ln
  rw [if_neg (by omega)]
  repeat' split
  all_goals omega
theorem FX7_mloop {x pat m near far : Int} (hx : wd x) (hm : 1 ≤ m ∧ m ≤ 3) (hf : far ≤ ln x - m) : Ok (F_X7_matches_L91 pat (p3 m) near far x 0) (fun r => tv r (∃ j : Int, 0 ≤ j ∧ near ≤ j ∧ j ≤ far ∧ fa x (ln x - j - m) (ln x - j) = pat)) := by
  have hb := ln_b x
  unfold F_X7_matches_L91
  refine Ok.loop (fun s => 0 ≤ s.2 ∧ s.2 ≤ ln x ∧ s.1 = (x - f3 s.2) / p3 s.2 ∧ ∀ j : Int, 0 ≤ j → near ≤ j → j < s.2 → j ≤ far → fa x (ln x - j - m) (ln x - j) ≠ pat) (fun s => (20 - s.2).toNat) (fun e => tv (match e with | .inl _ => 1 | .inr _ => 0) (∃ j : Int, 0 ≤ j ∧ near ≤ j ∧ j ≤ far ∧ fa x (ln x - j - m) (ln x - j) = pat)) ⟨Int.le_refl 0, by show 0 ≤ ln x; omega, ?_, fun j q1 q2 q3 => by change j < 0 at q3; omega⟩ (by show (20 - (0 : Int)).toNat < zN; decide) ?_ ?_
  · show x = (x - f3 0) / p3 0
    rw [f3_0, p3_0]; omega
  · rintro ⟨v8, v9⟩ ⟨i1, i2, i4, i3⟩
    dsimp only at i1 i2 i3 i4 ⊢
    unfold F_X7_matches_B91
    refine Ok.ite (fun c => Ok.ret ?_) (fun c => ?_)
    · exact tv_f (fun ⟨j, q1, q2, q3, q4⟩ => i3 j q1 q2 (by omega) q3 q4)
    · have hr := drop_r hx i1 i2
      rw [← i4] at hr
      have hf1 := f3_mono (show m ≤ ln x - v9 by omega) (by omega)
      have hf0 := f3_mono (show 1 ≤ m by omega) (by omega)
      rw [f3_t.2.1] at hf0
      have ht := tp (x := x) (j := v9) (m := m) (by omega) i1 (by omega)
      rw [← i4] at ht
      have hp := p3_pos m
      have hp9 := p3_9 (n := m) (by omega) (by omega)
      have hnext : zdiv (v8 - 1) 3 = (x - f3 (v9 + 1)) / p3 (v9 + 1) := by
        rw [zdiv_e (by omega) (by omega) (by omega) (by omega), i4, p3_s i1, Int.mul_comm 3, ← sh_div (p3_pos _) (by decide), f3_s2 i1]
        congr 1
        have := Int.add_mul_ediv_right (x - f3 v9) (-1) (Int.ne_of_gt (p3_pos v9))
        rw [show x - (f3 v9 + p3 v9) = x - f3 v9 + -1 * p3 v9 by omega, this]
        omega
      have hd : zdiv (p3 m) 2 = f3 m := by rw [zdiv_e (by omega) (by omega) (by omega) (by omega), div_odd]
      have hz : zrem (v8 - f3 m) (p3 m) = (v8 - f3 m) % p3 m := zrem_e (by omega) (by omega) hp (by omega)
      have hfb := fa_b (x := x) (s := ln x - v9 - m) (e := ln x - v9) (by omega) (by omega) (by omega)
      unfold F_X7_matches_J126
      rw [hd, hz, ht, w_id (a := fa x (ln x - v9 - m) (ln x - v9)) (by omega), w_id (a := v9 + 1) (by omega), hnext]
      refine Ok.ite (fun c2 => Ok.lett (Ok.lett (Ok.ret ?_))) (fun c2 => Ok.chk (by omega) (Ok.ite (fun c3 => Ok.ret ?_) (fun c3 => Ok.lett (Ok.lett (Ok.ret ?_)))))
      · refine ⟨⟨by show 0 ≤ v9 + 1; omega, by show v9 + 1 ≤ ln x; omega, rfl, fun j q1 q2 q3 q4 => ?_⟩, by show (20 - (v9 + 1)).toNat < (20 - v9).toNat; omega⟩
        change j < v9 + 1 at q3
        exact i3 j q1 q2 (by omega) q4
      · exact tv_t ⟨v9, i1, by omega, by omega, c3⟩
      · refine ⟨⟨by show 0 ≤ v9 + 1; omega, by show v9 + 1 ≤ ln x; omega, rfl, fun j q1 q2 q3 q4 => ?_⟩, by show (20 - (v9 + 1)).toNat < (20 - v9).toNat; omega⟩
        change j < v9 + 1 at q3
        by_cases hj : j = v9
        · subst hj; exact c3
        · exact i3 j q1 q2 (by omega) q4
  · rintro (e | e) he
    · exact ⟨1, rfl, he⟩
    · exact ⟨0, rfl, he⟩
theorem FX7_matches {x pat k : Int} (hx : wd x) (hp : 1 ≤ pat ∧ pat < 40) (hk : 0 ≤ k ∧ k ≤ 2) : Ok (F_X7_matches (5 + k) pat x (ln x)) (fun r => tv r (shw k pat x)) := by
  have hb := ln_b x
  have hq := ln_pat hp.1 hp.2
  have key : ∀ m : Int, m = ln pat → Ok (F_X7_matches_J45 (5 + k) pat x (ln x) m (p3 m)) (fun r => tv r (shw k pat x)) := by
    intro m em
    unfold F_X7_matches_J45 F_X7_matches_J60 F_X7_matches_J83
    rw [w_id (a := ln x - m) (by omega)]
    unfold shw
    rw [← em]
    refine Ok.ite (fun c => Ok.neg (by omega) ?_) (fun c => Ok.ite (fun c2 => ?_) (fun c2 => ?_))
    · rw [if_pos (show k = 0 by omega)]
      refine (FX7_mloop hx (by omega) (by omega)).mono (fun r hr => tv_iff hr ⟨fun ⟨j, q1, q2, q3, q4⟩ => ⟨by omega, ?_⟩, fun ⟨q1, q2⟩ => ⟨ln x - m, by omega, by omega, by omega, ?_⟩⟩)
      · rw [show ln x - j - m = 0 by omega, show ln x - j = m by omega] at q4
        exact q4
      · rw [show ln x - (ln x - m) - m = 0 by omega, show ln x - (ln x - m) = m by omega]
        exact q2
    · rw [if_neg (show ¬ k = 0 by omega), if_pos (show k = 1 by omega)]
      have hz : zmin 0 (ln x - m) ≤ ln x - m := by unfold zmin; split <;> omega
      refine (FX7_mloop hx (by omega) hz).mono (fun r hr => tv_iff hr ⟨fun ⟨j, q1, q2, q3, q4⟩ => ?_, fun ⟨q1, q2⟩ => ⟨0, by omega, by omega, ?_, ?_⟩⟩)
      · have h0 : zmin 0 (ln x - m) ≤ 0 := by unfold zmin; split <;> omega
        have : j = 0 := by omega
        subst this
        rw [Int.sub_zero] at q4
        exact ⟨by omega, q4⟩
      · unfold zmin; rw [if_neg (by omega)]; omega
      · rw [Int.sub_zero]; exact q2
    · rw [if_neg (show ¬ k = 0 by omega), if_neg (show ¬ k = 1 by omega)]
      refine (FX7_mloop hx (by omega) (by omega)).mono (fun r hr => tv_iff hr ⟨fun ⟨j, q1, q2, q3, q4⟩ => ⟨by omega, ln x - j - m, by omega, by omega, ?_⟩, fun ⟨q1, i, q2, q3, q4⟩ => ⟨ln x - i - m, by omega, by omega, by omega, ?_⟩⟩)
      · rw [show ln x - j - m + m = ln x - j by omega]; exact q4
      · rw [show ln x - (ln x - i - m) - m = i by omega, show ln x - (ln x - i - m) = i + m by omega]; exact q4
  unfold F_X7_matches F_X7_matches_J20
  refine Ok.ite (fun c => Ok.pos rfl ?_) (fun c => Ok.ite (fun c2 => Ok.neg (by decide) (Ok.pos rfl ?_)) (fun c2 => Ok.neg (by decide) (Ok.neg (by decide) ?_)))
  · exact key 1 (by unfold ln; rw [if_neg (by omega), if_pos c])
  · exact key 2 (by unfold ln; rw [if_neg (by omega), if_neg c, if_pos c2])
  · exact key 3 (by unfold ln; rw [if_neg (by omega), if_neg c, if_neg c2, if_pos (by omega)])
/-! bits -/
theorem zand_m {a : Int} (h0 : 0 ≤ a) (h1 : a < 2147483648) (m : Int) (k : Nat) (hm : (zi m).toBitVec.toNat = 2 ^ k - 1) : zand a m = a % (2 ^ k : Nat) := by
  unfold zand
  rw [zi_nI h0, pk_andN (by omega) k hm]
  have := Nat.mod_le a.toNat (2 ^ k)
  rw [nI_toInt (by omega), Int.natCast_emod]
  congr 1
  omega
theorem zand_7 {a : Int} (h0 : 0 ≤ a) (h1 : a < 2147483648) : zand a 7 = a % 8 := zand_m h0 h1 7 3 (by decide)
theorem zand_63 {a : Int} (h0 : 0 ≤ a) (h1 : a < 2147483648) : zand a 63 = a % 64 := zand_m h0 h1 63 6 (by decide)
theorem zand_2047 {a : Int} (h0 : 0 ≤ a) (h1 : a < 2147483648) : zand a 2047 = a % 2048 := zand_m h0 h1 2047 11 (by decide)
theorem zshr_k {a : Int} (h0 : 0 ≤ a) (h1 : a < 2147483648) (b : Int) (k : Nat) (hs : ((zi b &&& 31).toBitVec.smod 32).toNat = k) : zshr a b = a / (2 ^ k : Nat) := by
  unfold zshr
  rw [zi_nI h0, pk_shrN (by omega) _ k hs]
  have := Nat.div_le_self a.toNat (2 ^ k)
  rw [nI_toInt (by omega), Int.natCast_ediv]
  congr 1
  omega
theorem zshr_3 {a : Int} (h0 : 0 ≤ a) (h1 : a < 2147483648) : zshr a 3 = a / 8 := zshr_k h0 h1 3 3 (by decide)
theorem zshr_6 {a : Int} (h0 : 0 ≤ a) (h1 : a < 2147483648) : zshr a 6 = a / 64 := zshr_k h0 h1 6 6 (by decide)
theorem zshr_8 {a : Int} (h0 : 0 ≤ a) (h1 : a < 2147483648) : zshr a 8 = a / 256 := zshr_k h0 h1 8 8 (by decide)
theorem zshr_11 {a : Int} (h0 : 0 ≤ a) (h1 : a < 2147483648) : zshr a 11 = a / 2048 := zshr_k h0 h1 11 11 (by decide)
theorem zshl_k {a : Int} (h0 : 0 ≤ a) (b : Int) (k : Nat) (hs : ((zi b &&& 31).toBitVec.smod 32).toNat = k) (h1 : a * (2 ^ k : Nat) < 2147483648) : zshl a b = a * (2 ^ k : Nat) := by
  have e : ((a.toNat * 2 ^ k : Nat) : Int) = a * (2 ^ k : Nat) := by rw [Int.natCast_mul]; congr 1; omega
  unfold zshl
  rw [zi_nI h0, pk_shlN _ k hs (by omega), nI_toInt (by omega), e]
/-- bit j of a long, of an int -/
def lb (z : Int) (j : Nat) : Bool := (zl z).toBitVec.getLsbD j
def ib (z : Int) (j : Nat) : Bool := (zi z).toBitVec.getLsbD j
theorem lb_and (a b : Int) (j : Nat) : lb (zland a b) j = (lb a j && lb b j) := by
  unfold lb zland
  rw [zl_asL, Int64.toBitVec_and, BitVec.getLsbD_and]
theorem lb_or (a b : Int) (j : Nat) : lb (zlor a b) j = (lb a j || lb b j) := by
  unfold lb zlor
  rw [zl_asL, Int64.toBitVec_or, BitVec.getLsbD_or]
theorem lb_xor (a b : Int) (j : Nat) : lb (zlxor a b) j = (lb a j ^^ lb b j) := by
  unfold lb zlxor
  rw [zl_asL, Int64.toBitVec_xor, BitVec.getLsbD_xor]
theorem ib_or (a b : Int) (j : Nat) : ib (zor a b) j = (ib a j || ib b j) := by
  unfold ib zor
  rw [zi_asI, Int32.toBitVec_or, BitVec.getLsbD_or]
theorem lb_ext {a b : Int} (ha : inL a) (hb : inL b) (h : ∀ j, j < 64 → lb a j = lb b j) : a = b := by
  refine (zl_eq ha hb).mp ?_
  rw [← Int64.toBitVec_inj]
  exact BitVec.eq_of_getLsbD_eq (fun j hj => h j hj)
theorem ib_ext {a b : Int} (ha : inR a) (hb : inR b) (h : ∀ j, j < 32 → ib a j = ib b j) : a = b := by
  refine (zi_eq ha hb).mp ?_
  rw [← Int32.toBitVec_inj]
  exact BitVec.eq_of_getLsbD_eq (fun j hj => h j hj)
theorem lb_0 (j : Nat) : lb 0 j = false := by
  show (0 : BitVec 64).getLsbD j = false
  exact BitVec.getLsbD_zero
theorem ib_nat {z : Int} (h : 0 ≤ z) {j : Nat} (hj : j < 32) : ib z j = z.toNat.testBit j := by
  obtain ⟨n, rfl⟩ := Int.eq_ofNat_of_zero_le h
  unfold ib zi
  rw [Int32.toBitVec_ofInt, BitVec.ofInt_natCast, BitVec.getLsbD_ofNat]
  simp [hj]
theorem lb_1 : ∀ j : Nat, j < 64 → lb 1 j = decide (j = 0) := by decide +kernel
theorem lb_m2 : ∀ j : Nat, j < 64 → lb (-2) j = decide (j ≠ 0) := by decide +kernel
