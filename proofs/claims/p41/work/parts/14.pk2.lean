/-! THE START: the geometry out of what the tables and the start say -/
def zLw : List Cond := flatC (Jvm.Cond.and given_1 narrow_1)
def zTx : List Nat := [52, 54, 62, 68, 70, 72, 74, 76, 78, 116, 118, 144]
abbrev zTm (i : Nat) : Term := if i < 9 then .string "ContextualGrammarLab$DefinitionText" (50 + 2 * i) else .string "ContextualGrammarLabLaw" (zTx.getD (i - 9) 0)
abbrev zTv (i : Nat) : Term := .field (zTm i) "java/lang/String" "value" "[B"
theorem zw_ex : ∀ i, i < 21 → Cond.exactly (zTm i) "java/lang/String" ∈ zLw := by decide +kernel
theorem zw_co : ∀ i, i < 21 → Cond.eq (.field (zTm i) "java/lang/String" "coder" "B") (.int 0) ∈ zLw := by decide +kernel
theorem zw_ar : ∀ i, i < 21 → Cond.arrayOf (zTv i) .byte ∈ zLw := by decide +kernel
theorem zw_le : ∀ i, i < 21 → Cond.eq (.length (zTv i)) (.int (Int32.ofNat (zSln.getD i 0))) ∈ zLw := by decide +kernel
theorem zw_el0 : ∀ i, i < 3 → ∀ j, j < zSln.getD (i + 0) 0 → Cond.eq (.elem (zTv (i + 0)) (.int (Int32.ofNat j))) (.int ((zSby.getD (i + 0) []).getD j 0)) ∈ zLw := by decide +kernel
theorem zw_el1 : ∀ i, i < 3 → ∀ j, j < zSln.getD (i + 3) 0 → Cond.eq (.elem (zTv (i + 3)) (.int (Int32.ofNat j))) (.int ((zSby.getD (i + 3) []).getD j 0)) ∈ zLw := by decide +kernel
theorem zw_el2 : ∀ i, i < 3 → ∀ j, j < zSln.getD (i + 6) 0 → Cond.eq (.elem (zTv (i + 6)) (.int (Int32.ofNat j))) (.int ((zSby.getD (i + 6) []).getD j 0)) ∈ zLw := by decide +kernel
theorem zw_el3 : ∀ i, i < 4 → ∀ j, j < zSln.getD (i + 9) 0 → Cond.eq (.elem (zTv (i + 9)) (.int (Int32.ofNat j))) (.int ((zSby.getD (i + 9) []).getD j 0)) ∈ zLw := by decide +kernel
theorem zw_el4 : ∀ i, i < 3 → ∀ j, j < zSln.getD (i + 13) 0 → Cond.eq (.elem (zTv (i + 13)) (.int (Int32.ofNat j))) (.int ((zSby.getD (i + 13) []).getD j 0)) ∈ zLw := by decide +kernel
theorem zw_el5 : ∀ i, i < 5 → ∀ j, j < zSln.getD (i + 16) 0 → Cond.eq (.elem (zTv (i + 16)) (.int (Int32.ofNat j))) (.int ((zSby.getD (i + 16) []).getD j 0)) ∈ zLw := by decide +kernel
theorem zw_el : ∀ i, i < 21 → ∀ j, j < zSln.getD i 0 → Cond.eq (.elem (zTv (i)) (.int (Int32.ofNat j))) (.int ((zSby.getD (i) []).getD j 0)) ∈ zLw := by
  intro i hi j hj
  by_cases q0 : i < 3
  · have h := zw_el0 (i - 0) (by omega) j
    rw [show i - 0 + 0 = i by omega] at h
    exact h hj
  by_cases q1 : i < 6
  · have h := zw_el1 (i - 3) (by omega) j
    rw [show i - 3 + 3 = i by omega] at h
    exact h hj
  by_cases q2 : i < 9
  · have h := zw_el2 (i - 6) (by omega) j
    rw [show i - 6 + 6 = i by omega] at h
    exact h hj
  by_cases q3 : i < 13
  · have h := zw_el3 (i - 9) (by omega) j
    rw [show i - 9 + 9 = i by omega] at h
    exact h hj
  by_cases q4 : i < 16
  · have h := zw_el4 (i - 13) (by omega) j
    rw [show i - 13 + 13 = i by omega] at h
    exact h hj
  have h := zw_el5 (i - 16) (by omega) j
  rw [show i - 16 + 16 = i by omega] at h
  exact h hj
theorem zw_ln : ∀ i, i < 21 → zSln.getD i 0 < 2 ^ 31 := by decide +kernel
theorem zw_df : ∀ i, i < 21 → ∀ j, j < 21 → i ≠ j → Int32.ofNat (zSln.getD i 0) ≠ Int32.ofNat (zSln.getD j 0) ∨ ∃ k : Fin 9, k.val < zSln.getD i 0 ∧ k.val < zSln.getD j 0 ∧ (zSby.getD i []).getD k.val 0 ≠ (zSby.getD j []).getD k.val 0 := by decide +kernel
theorem zw_same {s : State} {H : Heap} {A : Nat → Prop} {o n d : String} {a t1 t2 N1 N2 : Nat} {f1 f2 : Nat → Value} {ty : FieldType} (h1 : va_OF o n d (.ref t1) a A s H) (h2 : va_OF o n d (.ref t2) a A s H) (T1 : va_T ty t1 N1 f1 A s H) (T2 : va_T ty t2 N2 f2 A s H) : Int32.ofNat N1 = Int32.ofNat N2 ∧ ∀ k, k < N1 → k < N2 → f1 k = f2 k := by
  obtain ⟨cf, kc, i, fd, cell, a1, a2, a3, a4, a5, a6⟩ := h1
  obtain ⟨cf', kc', i', fd', cell', b1, b2, b3, b4, b5, b6⟩ := h2
  cases a1.symm.trans b1
  cases a3.symm.trans b3
  cases a5.symm.trans b5
  obtain ⟨c1, d1, -, -, d4, d5, d6, -⟩ := T1
  obtain ⟨c2, e1, -, -, e4, e5, e6, -⟩ := T2
  cases d1.symm.trans e1
  exact ⟨d5.symm.trans e5, fun k q1 q2 => Option.some.inj ((d6 k q1).symm.trans (e6 k q2))⟩
section ZST
variable {args : Array Value} {s : State}
theorem zw_one {A : Nat → Prop} (hn : ∀ w ∈ zLw, w.before args s = true) (hA : ∀ a : Nat, a < s.heap.size → ¬ A a) (i : Nat) (hi : i < 21) : ∃ a t : Nat, (zTm i).eval args s none [] s = some (.ref a) ∧ va_OF "java/lang/String" "value" "[B" (.ref t) a A s s.heap ∧ va_T .byte t (zSln.getD i 0) (fun j => .int ((zSby.getD i []).getD j 0)) A s s.heap := by
  obtain ⟨K, V, h1, h2⟩ := vk_Sof (args := args) (s := s) (N := 1) (tm := fun _ => zTm i) (len := [zSln.getD i 0]) (byt := [zSby.getD i []]) (A := A)
    (fun k hk => by obtain rfl := Nat.lt_one_iff.mp hk; exact zw_ln i hi)
    (fun k hk => hn _ (zw_ex i hi)) (fun k hk => hn _ (zw_co i hi)) (fun k hk => hn _ (zw_ar i hi))
    (fun k hk => by obtain rfl := Nat.lt_one_iff.mp hk; exact hn _ (zw_le i hi))
    (fun k hk j hj => by obtain rfl := Nat.lt_one_iff.mp hk; exact hn _ (zw_el i hi j hj))
    (fun k j hk hj hkj => absurd ((Nat.lt_one_iff.mp hk).trans (Nat.lt_one_iff.mp hj).symm) hkj) hA
  exact ⟨K 0, V 0, h2 0 Nat.zero_lt_one, (h1.1 0 Nat.zero_lt_one).2.2.1, (h1.1 0 Nat.zero_lt_one).2.2.2⟩
theorem zw_ne {A : Nat → Prop} (hn : ∀ w ∈ zLw, w.before args s = true) (hA : ∀ a : Nat, a < s.heap.size → ¬ A a) (i j : Nat) (hi : i < 21) (hj : j < 21) (hij : i ≠ j) : (Cond.not (Cond.eq (zTm i) (zTm j))).before args s = true := by
  obtain ⟨a, t, h1, h2, h3⟩ := zw_one hn hA i hi
  obtain ⟨b, u, k1, k2, k3⟩ := zw_one hn hA j hj
  have hab : a ≠ b := by
    intro e
    subst e
    obtain ⟨q1, q2⟩ := zw_same h2 k2 h3 k3
    rcases zw_df i hi j hj hij with h | ⟨k, l1, l2, l3⟩
    · exact h q1
    · exact l3 (Value.int.inj (q2 k.val l1 l2))
  simp only [Cond.before, Cond.holds, Cond.value, h1, k1]
  simp [hab]
theorem zw_S {A : Nat → Prop} (hn : ∀ w ∈ zLw, w.before args s = true) (hA : ∀ a : Nat, a < s.heap.size → ¬ A a) : ∃ adK adV : Nat → Nat, vk_S 21 zSln zSby adK adV A s s.heap ∧ ∀ i : Nat, i < 21 → (zTm i).eval args s none [] s = some (.ref (adK i)) :=
  vk_Sof (fun i hi => zw_ln i hi) (fun i hi => hn _ (zw_ex i hi)) (fun i hi => hn _ (zw_co i hi)) (fun i hi => hn _ (zw_ar i hi)) (fun i hi => hn _ (zw_le i hi)) (fun i hi j hj => hn _ (zw_el i hi j hj)) (fun i j hi hj hij => Or.inl (zw_ne hn hA i j hi hj hij)) hA
/-! arrays and classes -/
theorem geo_arr {ty : FieldType} {cA comp : ClassId} {kA : Class} (h2 : s.vm.classes[cA]? = some kA) (h3 : kA.kind = .array comp ty) : ArrOfT s cA ty := fun n z => ⟨fun k h => (by cases h), kA, h2, comp, h3⟩
theorem geo_A (hts : ∀ w ∈ lw_tbl, w.before args s = true) : ∃ cA : Nat → ClassId, ∀ c : Nat, 20 ≤ c → c < 28 → ArrOfT s (cA c) (zat c) ∧ va_RA s (cA c) (zat c) := by
  have hz : ∀ w ∈ zTs, w.before args s = true := fun w hw => hts w (List.mem_filter.mp hw).1
  have h0 : ∀ c : Nat, ∃ x : ClassId, 20 ≤ c → c < 28 → ArrOfT s x (zat c) ∧ va_RA s x (zat c) := by
    intro c
    by_cases h1 : 20 ≤ c ∧ c < 28
    · have h2 : c = 20 ∨ c = 21 ∨ c = 22 ∨ c = 23 ∨ c = 24 ∨ c = 25 ∨ c = 26 ∨ c = 27 := by omega
      rcases h2 with rfl | rfl | rfl | rfl | rfl | rfl | rfl | rfl
      · obtain ⟨q, k, comp, f1, f2, f3⟩ := Cond.arrayClass_spec (hz _ ka_20)
        exact ⟨q, fun _ _ => ⟨geo_arr f2 f3, f1⟩⟩
      · obtain ⟨q, k, comp, f1, f2, f3⟩ := Cond.arrayClass_spec (hz _ ka_21)
        exact ⟨q, fun _ _ => ⟨geo_arr f2 f3, f1⟩⟩
      · obtain ⟨q, k, comp, f1, f2, f3⟩ := Cond.arrayClass_spec (hz _ ka_22)
        exact ⟨q, fun _ _ => ⟨geo_arr f2 f3, f1⟩⟩
      · obtain ⟨q, k, comp, f1, f2, f3⟩ := Cond.arrayClass_spec (hz _ ka_23)
        exact ⟨q, fun _ _ => ⟨geo_arr f2 f3, f1⟩⟩
      · obtain ⟨q, k, comp, f1, f2, f3⟩ := Cond.arrayClass_spec (hz _ ka_24)
        exact ⟨q, fun _ _ => ⟨geo_arr f2 f3, f1⟩⟩
      · obtain ⟨comp, q, k, g1, g2, g3, g4, g5⟩ := Cond.arrayOver_spec (hts (.arrayOver (.object "ContextualGrammarLab$Context")) (by decide +kernel))
        exact ⟨q, fun _ _ => ⟨geo_arr g3 g4, ⟨k, comp, g3, g4, g1, g5⟩⟩⟩
      · obtain ⟨comp, q, k, g1, g2, g3, g4, g5⟩ := Cond.arrayOver_spec (hts (.arrayOver (.object "ContextualGrammarLab$Slot")) (by decide +kernel))
        exact ⟨q, fun _ _ => ⟨geo_arr g3 g4, ⟨k, comp, g3, g4, g1, g5⟩⟩⟩
      · obtain ⟨comp, q, k, g1, g3, g4, g5⟩ := Cond.arrayOver_specA (hts (.arrayOver (.array .int)) (by decide +kernel))
        exact ⟨q, fun _ _ => ⟨geo_arr g3 g4, g5⟩⟩
    · obtain ⟨q, k, comp, f1, f2, f3⟩ := Cond.arrayClass_spec (hz _ ka_20)
      exact ⟨q, fun h3 h4 => absurd ⟨h3, h4⟩ h1⟩
  exact Classical.axiomOfChoice h0
theorem geo_K (hts : ∀ w ∈ lw_tbl, w.before args s = true) : ∃ D : va_G, va_K D vwCl [] s := by
  have hz : ∀ w ∈ zTs, w.before args s = true := fun w hw => hts w (List.mem_filter.mp hw).1
  have h0 : ∀ c : Nat, ∃ x : ClassId × (Nat → Nat), ∀ q : vw_C, vwCl[c]? = some q → u_Kn s q.1 q.2.1 q.2.2 x.1 x.2 := by
    intro c
    by_cases h1 : c < 10
    · have h2 : c = 0 ∨ c = 1 ∨ c = 2 ∨ c = 3 ∨ c = 4 ∨ c = 5 ∨ c = 6 ∨ c = 7 ∨ c = 8 ∨ c = 9 := by omega
      rcases h2 with rfl | rfl | rfl | rfl | rfl | rfl | rfl | rfl | rfl | rfl
      · obtain ⟨a, b, h⟩ := u_known hz ui_X0 (hts (.instantiable RX0 5) (by decide +kernel)); exact ⟨(a, b), fun q hq => by cases hq; exact h⟩
      · obtain ⟨a, b, h⟩ := u_known hz ui_X1 (hts (.instantiable RX1 9) (by decide +kernel)); exact ⟨(a, b), fun q hq => by cases hq; exact h⟩
      · obtain ⟨a, b, h⟩ := u_known hz ui_X2 (hts (.instantiable RX2 6) (by decide +kernel)); exact ⟨(a, b), fun q hq => by cases hq; exact h⟩
      · obtain ⟨a, b, h⟩ := u_known hz ui_X3 (hts (.instantiable RX3 18) (by decide +kernel)); exact ⟨(a, b), fun q hq => by cases hq; exact h⟩
      · obtain ⟨a, b, h⟩ := u_known hz ui_X5 (hts (.instantiable RX5 8) (by decide +kernel)); exact ⟨(a, b), fun q hq => by cases hq; exact h⟩
      · obtain ⟨a, b, h⟩ := u_known hz ui_X7 (hts (.instantiable RX7 3) (by decide +kernel)); exact ⟨(a, b), fun q hq => by cases hq; exact h⟩
      · obtain ⟨a, b, h⟩ := u_known hz ui_X8 (hts (.instantiable RX8 3) (by decide +kernel)); exact ⟨(a, b), fun q hq => by cases hq; exact h⟩
      · obtain ⟨a, b, h⟩ := u_known hz ui_X10 (hts (.instantiable RX10 12) (by decide +kernel)); exact ⟨(a, b), fun q hq => by cases hq; exact h⟩
      · obtain ⟨a, b, h⟩ := u_known hz ui_J4 (hts (.instantiable RJ4 4) (by decide +kernel)); exact ⟨(a, b), fun q hq => by cases hq; exact h⟩
      · obtain ⟨a, b, h⟩ := u_known hz ui_J0 (hts (.instantiable RJ0 4) (by decide +kernel)); exact ⟨(a, b), fun q hq => by cases hq; exact h⟩
    · obtain ⟨a, b, h⟩ := u_known hz ui_X0 (hts (.instantiable RX0 5) (by decide +kernel))
      refine ⟨(a, b), fun q hq => ?_⟩
      rw [List.getElem?_eq_none (show vwCl.length ≤ c from Nat.not_lt.mp h1)] at hq
      cases hq
  obtain ⟨f, hf⟩ := Classical.axiomOfChoice h0
  exact ⟨(fun c => (f c).1, fun c => (f c).2), fun c q hq => hf c q hq, fun k q hq => by simp at hq⟩
theorem zw_pw : ∀ j, j < 10 → Cond.eq (.elem (.static "ContextualGrammarLab$Words" "POWERS" "[I") (.int (Int32.ofNat j))) (.int (zpw j)) ∈ zLw := by decide +kernel
theorem zw_SL : ∀ x ∈ zSL, Cond.stringRef x.1 x.2.1 x.2.2 ∈ lw_tbl ∧ Cond.exactly (.string x.1 x.2.1) "java/lang/String" ∈ zLw := by decide +kernel
theorem zw_SR : ∀ x ∈ zSR, Cond.stringRef x.1 x.2.1 x.2.2.1 ∈ lw_tbl ∧ x.2.2.2 < 21 ∧ (Term.string x.1 x.2.1 = zTm x.2.2.2 ∨ Cond.eq (Term.string x.1 x.2.1) (zTm x.2.2.2) ∈ zLw ∨ Cond.eq (zTm x.2.2.2) (Term.string x.1 x.2.1) ∈ zLw) := by decide +kernel
theorem zw_dg : ∀ j, j < 100 → Cond.eq (.elem (.static "java/lang/Integer" "DigitOnes" "[B") (.int (Int32.ofNat j))) (.int (zi (48 + ((j % 10 : Nat) : Int)))) ∈ zLw := by decide +kernel
theorem zw_nc : ∀ x ∈ zNcL, Cond.not (.castable x.1 x.2) ∈ zLw := by decide +kernel
theorem zw_ao : ∀ C ∈ ["ContextualGrammarLab$Context", "ContextualGrammarLab$Slot"], Cond.arrayOver (.object C) ∈ lw_tbl := by decide +kernel
def zgk (pw dg : Nat) (adK : Nat → Nat) (k : Nat) : Nat := if k = 0 then pw else if k = 22 then dg else adK (k - 1)
theorem zgk_s (pw dg : Nat) (adK : Nat → Nat) {i : Nat} (h : i < 21) : zgk pw dg adK (1 + i) = adK i := by
  unfold zgk
  rw [if_neg (by omega), if_neg (by omega), show 1 + i - 1 = i by omega]
/-- strings' addresses as another function gives them below N -/
theorem vk_S_congr {N : Nat} {len : List Nat} {byt : List (List Int32)} {adK adK2 adV : Nat → Nat} {A : Nat → Prop} {U : State} {H : Heap} (h : vk_S N len byt adK adV A U H) (e : ∀ i, i < N → adK2 i = adK i) : vk_S N len byt adK2 adV A U H := by
  refine ⟨fun i hi => ?_, fun i j hi hj q => h.2 i j hi hj (by rw [← e i hi, ← e j hj]; exact q)⟩
  rw [e i hi]; exact h.1 i hi
theorem zw_eqr {t1 t2 : Term} {a : Nat} (h : (Cond.eq t1 t2).before args s = true) (e : t2.eval args s none [] s = some (.ref a)) : t1.eval args s none [] s = some (.ref a) := by
  simp only [Cond.before, Cond.holds, Cond.value, e] at h
  cases e1 : t1.eval args s none [] s with
  | none => rw [e1] at h; simp at h
  | some v => rw [e1] at h; cases v <;> simp at h <;> first | (rw [h]; done) | skip
theorem zw_eql {t1 t2 : Term} {a : Nat} (h : (Cond.eq t1 t2).before args s = true) (e : t1.eval args s none [] s = some (.ref a)) : t2.eval args s none [] s = some (.ref a) := by
  simp only [Cond.before, Cond.holds, Cond.value, e] at h
  cases e1 : t2.eval args s none [] s with
  | none => rw [e1] at h; simp at h
  | some v => rw [e1] at h; cases v <;> simp at h <;> first | (rw [h]; done) | skip
/-- the geometry of a start -/
theorem geo_all {b L : Nat} {xs : Nat → Int32} (hts : ∀ w ∈ lw_tbl, w.before args s = true) (hn : ∀ w ∈ zLw, w.before args s = true) (hX : va_X b L xs s s.heap) (hb : b < s.heap.size) (hL : L ≤ 260) : ∃ g : zG, zb g + 1 = s.heap.size ∧ zT g s ∧ zO g s ∧ zgb g = b ∧ zgL g = L ∧ zgx g = xs := by
  have h0 : 0 < s.heap.size := Nat.lt_of_le_of_lt (Nat.zero_le _) hb
  obtain ⟨D, hD⟩ := geo_K hts
  obtain ⟨cA, hcA⟩ := geo_A hts
  have hA : ∀ a : Nat, a < s.heap.size → ¬ (s.heap.size - 1 < a) := fun a ha => by omega
  obtain ⟨pw, hp1, hp2⟩ := va_Tof (A := fun q => s.heap.size - 1 < q) (f := fun j => .int (zpw j)) (N := 10) (ty := .int) (tm := .static "ContextualGrammarLab$Words" "POWERS" "[I") (by decide) (hn _ (by decide +kernel)) (va_eqt (hn _ (by decide +kernel))) (fun j hj => va_eqt (hn _ (zw_pw j hj))) hA
  obtain ⟨dg, hd1, hd2⟩ := va_Tof (A := fun q => s.heap.size - 1 < q) (f := fun j => .int (zi (48 + ((j % 10 : Nat) : Int)))) (N := 100) (ty := .byte) (tm := .static "java/lang/Integer" "DigitOnes" "[B") (by decide) (hn _ (by decide +kernel)) (va_eqt (hn _ (by decide +kernel))) (fun j hj => va_eqt (hn _ (zw_dg j hj))) hA
  obtain ⟨adK, adV, hS1, hS2⟩ := zw_S (A := fun q => s.heap.size - 1 < q) hn hA
  have hpl : pw < s.heap.size := by
    obtain ⟨cell, h1, -⟩ := hp2
    exact (Array.getElem?_eq_some_iff.mp h1).1
  refine ⟨(s.heap.size - 1, D, cA, zgk pw dg adK, adV, b, L, xs), by show s.heap.size - 1 + 1 = _; omega, ⟨hD, hcA⟩, ?_, rfl, rfl, rfl⟩
  refine ⟨va_Zref (hts _ (by decide +kernel)) (hts _ (by decide +kernel)) hp1 hA, hp2, hpl, (by show pw ≤ s.heap.size - 1; omega), vx_Zqof (hts _ (by decide +kernel)) (hts _ (by decide +kernel)) (hn _ (by decide +kernel)) hA, vx_Zqof (hts _ (by decide +kernel)) (hts _ (by decide +kernel)) (hn _ (by decide +kernel)) hA, fun x hx => ?_, fun C hC => va_AO.of (hts _ (zw_ao C hC)), ?_, va_Zof (hts _ (by decide +kernel)) (hts _ (by decide +kernel)) (va_eqt (hn _ (by decide +kernel))) hA, va_Zqof (hts _ (by decide +kernel)) (hts _ (by decide +kernel)) (hn _ (by decide +kernel)) hA, fun x hx => ?_, (hts _ (by decide +kernel) : (Cond.arrayOver (.array .int)).before args s = true), fun x hx => va_Nc.of (hn _ (zw_nc x hx)), hX, hb, (by show ¬ (s.heap.size - 1 < b); omega), hL, va_Zref (hts _ (by decide +kernel)) (hts _ (by decide +kernel)) hd1 hA, hd2⟩
  · obtain ⟨q1, q2⟩ := zw_SL x hx
    obtain ⟨a, c, cB, kB, e1, -⟩ := Cond.exactly_spec (hn _ q2)
    exact ⟨a, vk_R.of (hts _ q1) e1⟩
  · exact vk_S_congr hS1 (fun i hi => zgk_s pw dg adK hi)
  · obtain ⟨q1, q2, q3⟩ := zw_SR x hx
    have e1 := hS2 _ q2
    refine vk_R.of (hts _ q1) ?_
    show (Term.string x.1 x.2.1).eval args s none [] s = some (.ref (zgk pw dg adK (1 + x.2.2.2)))
    rw [zgk_s _ _ _ q2]
    rcases q3 with q3 | q3 | q3
    · rw [← q3] at e1; exact e1
    · exact zw_eqr (hn _ q3) e1
    · exact zw_eql (hn _ q3) e1
end ZST
theorem zR_z {g : zG} {H : Heap} (h : zb g + 1 = H.size) : zR g Mz Sz H := by
  have n20 : ¬ ((28 : Nat) < 20) := by decide
  have n28 : ¬ ((28 : Nat) < 28) := by decide
  exact ⟨(by show H.size = zb g + 0 + 1; omega), fun a => ⟨fun q => absurd q n20, fun _ q => absurd q n28⟩, ⟨fun a _ => ⟨Nat.le_refl 28, rfl, rfl⟩, fun a _ => Nat.le_refl 28, ⟨fun a q1 q2 _ => absurd (Nat.lt_of_lt_of_le q1 q2) (Nat.lt_irrefl 0), fun a _ => Nat.zero_le _⟩, Or.inl (by decide)⟩, fun a k q => absurd q n28, fun a q => absurd q n28⟩
