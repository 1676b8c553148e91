/-! STRING CONSTANTS: String.length, String.charAt; strings and their bytes stand below the law's cells and are never written -/
theorem zlswN : ∀ (ps : List (Int × Int)) {d a : Int}, (∀ p ∈ ps, ¬ p.1 = a) → Op.lookupswitch.offset ps d a = d
  | [], _, _, _ => rfl
  | (k, o) :: r, d, a, h => by
    rw [Op.lookupswitch.offset_cons, if_neg (h _ List.mem_cons_self)]
    exact zlswN r (fun p hp => h p (List.mem_cons_of_mem _ hp))
theorem zO.str {g : zG} {U : State} (h : zO g U) : vk_S 21 zSln zSby (fun i => zk g (1 + i)) (zw2 g) (zA g) U U.heap := h.2.2.2.2.2.2.2.2.1
theorem zO.cs {g : zG} {U : State} (h : zO g U) : va_Z "java/lang/String" "COMPACT_STRINGS" "Z" (.int (zi 1)) (zA g) U U.heap := h.2.2.2.2.2.2.2.2.2.1
theorem zO.sf {g : zG} {U : State} (h : zO g U) : va_Zq "jdk/internal/util/Preconditions" "SIOOBE_FORMATTER" "Ljava/util/function/BiFunction;" (zA g) U U.heap := h.2.2.2.2.2.2.2.2.2.2.1
theorem zO.lit {g : zG} {U : State} (h : zO g U) : ∀ x ∈ zSR, vk_R x.1 x.2.1 x.2.2.1 (zk g (1 + x.2.2.2)) U := h.2.2.2.2.2.2.2.2.2.2.2.1
theorem zs_len : ∀ i, i < 21 → Int32.ofNat (zSln.getD i 0) = zi (zsl i) ∧ (zSln.getD i 0 : Int) = zsl i ∧ w (zshr (zsl i) 0) = zsl i := by decide +kernel
theorem zs_chr : ∀ i, i < 21 → ∀ k : Nat, k < zSln.getD i 0 → (zSby.getD i []).getD k 0 = zi (zsc i (k : Int)) ∧ w (zi2c (zand (zsc i (k : Int)) 255)) = zsc i (k : Int) ∧ 0 ≤ zsc i (k : Int) ∧ zsc i (k : Int) < 65536 := by decide +kernel
theorem cR_zsl (i : Nat) : i < 21 → inR (zsl i) := by
  intro h
  have := (zs_len i h).2.1
  have h2 : ∀ i, i < 21 → zSln.getD i 0 < 100 := by decide +kernel
  have := h2 i h
  unfold inR
  omega
theorem zs_chI {i : Nat} {j : Int} (hi : i < 21) (h0 : 0 ≤ j) (h1 : j < zsl i) : (zSby.getD i []).getD j.toNat 0 = zi (zsc i j) ∧ w (zi2c (zand (zsc i j) 255)) = zsc i j ∧ 0 ≤ zsc i j ∧ zsc i j < 65536 := by
  have h2 := (zs_len i hi).2.1
  have h3 := zs_chr i hi j.toNat (by omega)
  rw [Int.toNat_of_nonneg h0] at h3
  exact h3
theorem cR_zsc {i : Nat} {j : Int} (hi : i < 21) (h0 : 0 ≤ j) (h1 : j < zsl i) : inR (zsc i j) := by
  have h3 := zs_chI hi h0 h1
  unfold inR
  omega
section ZJ10
variable {K : zK} {l0 : Launch} {g : zG} {cc : ByteArray} {nL nc ns pc : Nat} {own : String} {lv lv1 : List (Nat × Value)} {rest : List Value} {M M1 : zM} {S S1 : zS}
variable {nm : String} {ret : Option FieldType} {L mc ms : Nat} {oc : Option Value ⊕ String} {M9 : zM} {S9 : zS} {φ φ1 : Prop}
variable {n nL2 L2 mc2 ms2 ix : Nat} {y : MethodName} {cc2 : ByteArray} {ret2 : Option FieldType} {av st : List Value}
theorem j_gcs (hC : zC K l0 g cc nL own) {ix : Nat} (hd : decode cc pc = .ok (.getstatic ix, 3)) (hw : Cond.fieldLink own ix "java/lang/String" "COMPACT_STRINGS" "Z" ∈ zTs) (k : zJ K g nc ns (pc + 3) nL lv (.int (zi 1) :: rest) M S) : zJ K g nc ns pc nL lv rest M S := by
  obtain ⟨p, l, e, R, s, m, args, below, meth, c, Q⟩ := K
  obtain ⟨rfl, hx, hb, hml, hown, hts, hT, hO, hNw, hlk, htr⟩ := hC
  intro H locs ls hR hS hl
  exact va_gets hx hb hO.cs hS hown (hts _ hw) (fun _ h => h) hd (k H locs ls hR hS hl)
theorem j_gsf (hC : zC K l0 g cc nL own) {ix : Nat} (hd : decode cc pc = .ok (.getstatic ix, 3)) (hw : Cond.fieldLink own ix "jdk/internal/util/Preconditions" "SIOOBE_FORMATTER" "Ljava/util/function/BiFunction;" ∈ zTs) (k : ∀ v : Value, (v = .null ∨ ∃ q : Nat, v = .ref q) → zJ K g nc ns (pc + 3) nL lv (v :: rest) M S) : zJ K g nc ns pc nL lv rest M S := by
  obtain ⟨p, l, e, R, s, m, args, below, meth, c, Q⟩ := K
  obtain ⟨rfl, hx, hb, hml, hown, hts, hT, hO, hNw, hlk, htr⟩ := hC
  intro H locs ls hR hS hl
  rcases hO.sf with hq | ⟨q, hq⟩
  · exact va_gets hx hb hq hS hown (hts _ hw) (fun _ h => h) hd (k .null (Or.inl rfl) H locs ls hR hS hl)
  · exact va_gets hx hb hq hS hown (hts _ hw) (fun _ h => h) hd (k (.ref q) (Or.inr ⟨q, rfl⟩) H locs ls hR hS hl)
theorem j_ldcs (hC : zC K l0 g cc nL own) {ix i : Nat} {tx : String} (hd : decode cc pc = .ok (.ldc ix, 2)) (hs : (own, ix, tx, i) ∈ zSR) (k : zJ K g nc ns (pc + 2) nL lv (.ref (zk g (1 + i)) :: rest) M S) : zJ K g nc ns pc nL lv rest M S := by
  obtain ⟨p, l, e, R, s, m, args, below, meth, c, Q⟩ := K
  obtain ⟨rfl, hx, hb, hml, hown, hts, hT, hO, hNw, hlk, htr⟩ := hC
  intro H locs ls hR hS hl
  exact va_ldcS hx hb hown (hO.lit _ hs) hd (k H locs ls hR hS hl)
theorem j_sval (hC : zC K l0 g cc nL own) {ix i : Nat} (hd : decode cc pc = .ok (.getfield ix, 3)) (hw : Cond.fieldLink own ix "java/lang/String" "value" "[B" ∈ zTs) (hi : i < 21) (k : zJ K g nc ns (pc + 3) nL lv (.ref (zw2 g i) :: rest) M S) : zJ K g nc ns pc nL lv (.ref (zk g (1 + i)) :: rest) M S := by
  obtain ⟨p, l, e, R, s, m, args, below, meth, c, Q⟩ := K
  obtain ⟨rfl, hx, hb, hml, hown, hts, hT, hO, hNw, hlk, htr⟩ := hC
  intro H locs ls hR hS hl
  exact vk_getf hx hb (hO.str.1 i hi).2.2.1 hS hown (hts _ hw) (fun _ h => h) hd (k H locs ls hR hS hl)
theorem j_scod (hC : zC K l0 g cc nL own) {ix i : Nat} (hd : decode cc pc = .ok (.getfield ix, 3)) (hw : Cond.fieldLink own ix "java/lang/String" "coder" "B" ∈ zTs) (hi : i < 21) (k : zJ K g nc ns (pc + 3) nL lv (.int (zi 0) :: rest) M S) : zJ K g nc ns pc nL lv (.ref (zk g (1 + i)) :: rest) M S := by
  obtain ⟨p, l, e, R, s, m, args, below, meth, c, Q⟩ := K
  obtain ⟨rfl, hx, hb, hml, hown, hts, hT, hO, hNw, hlk, htr⟩ := hC
  intro H locs ls hR hS hl
  exact vk_getf hx hb (hO.str.1 i hi).2.1 hS hown (hts _ hw) (fun _ h => h) hd (k H locs ls hR hS hl)
theorem j_sbl (hC : zC K l0 g cc nL own) {i : Nat} (hd : decode cc pc = .ok (.arraylength, 1)) (hi : i < 21) (k : zJ K g nc ns (pc + 1) nL lv (.int (zi (zsl i)) :: rest) M S) : zJ K g nc ns pc nL lv (.ref (zw2 g i) :: rest) M S := by
  obtain ⟨p, l, e, R, s, m, args, below, meth, c, Q⟩ := K
  obtain ⟨rfl, hx, hb, hml, hown, hts, hT, hO, hNw, hlk, htr⟩ := hC
  intro H locs ls hR hS hl
  exact va_tlen hx hb (hO.str.1 i hi).2.2.2 hS (zs_len i hi).1 hd (k H locs ls hR hS hl)
theorem j_sbald (hC : zC K l0 g cc nL own) {i : Nat} {j : Int} (hd : decode cc pc = .ok (.baload, 1)) (hi : i < 21) (hj : w j = j) (h0 : 0 ≤ j) (h1 : j < zsl i) (k : zJ K g nc ns (pc + 1) nL lv (.int (zi (zsc i j)) :: rest) M S) : zJ K g nc ns pc nL lv (.int (zi j) :: .ref (zw2 g i) :: rest) M S := by
  obtain ⟨p, l, e, R, s, m, args, below, meth, c, Q⟩ := K
  obtain ⟨rfl, hx, hb, hml, hown, hts, hT, hO, hNw, hlk, htr⟩ := hC
  intro H locs ls hR hS hl
  have h2 := (zs_len i hi).2.1
  have h3 : (zi j).toInt = j := hj
  have h4 : (zi j).toNatClampNeg = j.toNat := by show (zi j).toInt.toNat = _; rw [h3]
  exact va_tb hx hb (hO.str.1 i hi).2.2.2 hS (vp_in_iff.mpr ⟨by rw [h3]; exact h0, by rw [h3, h2]; exact h1⟩) (by show Value.int _ = _; rw [h4, (zs_chI hi h0 h1).1]) hd (k H locs ls hR hS hl)
theorem zd_zdi (x : UInt64) : zd (zdi x) = x := by
  show UInt64.ofNat ((x.toNat : Int).toNat) = x
  rw [Int.toNat_natCast]
  exact UInt64.ofNat_toNat
theorem zdi_rg (x : UInt64) : 0 ≤ zdi x ∧ zdi x < 18446744073709551616 := by
  have := x.toNat_lt
  unfold zdi
  omega
theorem j_strVi (hC : zC K l0 g cc nL own) (hE : zE K g nm ret L mc ms oc M9 S9 φ) {r : Int} {i : Nat} (lk : zLkV own ix y cc2 nL2 ret2 n) (hd : decode cc pc = .ok (.invokevirtual ix, 3)) (ct : zMet l0 g y cc2 nL2 ret2 L2 mc2 ms2 av M S (.inl (some (.int (zi r)))) M1 S1 φ1) (As rest : List Value) (hi : i < 21) (hy : y.cls = "java/lang/String") (hst : st = As.reverse ++ .ref (zk g (1 + i)) :: rest) (hA : av = .ref (zk g (1 + i)) :: As) (hn : As.length = n) (hcat : rest.length ≤ 4) (r1 : nL2 ≤ 100) (r2 : L2 + 1 ≤ L) (r3 : nc + mc2 ≤ mc) (r4 : ns + ms2 ≤ ms) (k : φ1 → zJ K g (nc + mc2) (ns + ms2) (pc + 3) nL lv (.int (zi r) :: rest) M1 S1) : zJ K g nc ns pc nL lv st M S := by
  obtain ⟨p, l, e, R, s, m, args, below, meth, c, Q⟩ := K
  obtain ⟨rfl, hx, hb, hml, hown, hts, hT, hO, hNw, hlk, htr⟩ := hC
  obtain ⟨hnm, hrt, rfl, rfl⟩ := hE
  subst hst
  subst hA
  intro H locs ls hR hS hl
  obtain ⟨cell, q1, q3, hfc⟩ := vk_recv hO.str hi hS
  exact zfinish (vx_runV ⟨hx, hb, hml, hown, hts⟩ ct ⟨callB_of n hts (zGood lk.1.2.2.1) rfl rfl rfl (hts _ lk.1.2.1) (hts _ lk.1.1) ⟨lk.1.2.2.2.1.1, lk.1.2.2.2.1.2, lk.1.2.2.2.2⟩ (zRoom r1 r2), hts _ lk.2.1, hts _ lk.2.2⟩ ⟨zBl g _ M S, ⟨cell, q1, q3, by rw [hy]; exact hfc⟩, (fun U hU hW => ⟨rfl, ⟨by rw [hU]; exact hR, hT.moved hW.alike, hO.kept hS hU hW, zNw_warm hW hNw⟩⟩)⟩ rfl hn hl.1 rfl (lv_room (zcat hcat)) hd ⟨r3, r4⟩) hS (fun E ce q9 H1 locs1 hoc => by cases hoc) (fun v H1 locs1 hoc hφ hR1 hS1 => by cases hoc; exact k hφ H1 locs1 ls hR1 hS1 hl)
end ZJ10
theorem c_J0_coder (l : Launch) (hlt : l.stackTraces = false) (g : zG) (i : Nat) (hi : i < 21) (M : zM) (S : zS) : zMet l g yJ0_coder_7d493 cJ0_coder_7d493 1 (some .byte) 1 0 0 [.ref (zk g (1 + i))] M S (.inl (some (.int (zi 0)))) M S True := by
  refine zMet_of (by decide) hlt [(0, .ref (zk g (1 + i)))] rfl (Nat.le_of_ble_eq_true rfl) (fun K hC hE hN => ?_)
  refine j_gcs hC dJ0_coder_7d493_0 kS_38 ?_
  refine j_if_eq hC dJ0_coder_7d493_3 rfl rfl (fun h => absurd h (by decide)) (fun _ => ?_)
  refine j_sload_n hC 0 dJ0_coder_7d493_6 rfl rfl ?_
  refine j_scod hC dJ0_coder_7d493_7 kS_15 hi ?_
  refine j_goto hC dJ0_coder_7d493_10 rfl ?_
  exact j_iret hC hE dJ0_coder_7d493_14 (w_id kR_0) ⟨_, rfl, by decide⟩ rfl rfl rfl trivial (Nat.le_of_ble_eq_true rfl) (Nat.le_of_ble_eq_true rfl)
theorem c_J0_length (l : Launch) (hlt : l.stackTraces = false) (g : zG) (i : Nat) (hi : i < 21) (M : zM) (S : zS) : zMet l g yJ0_length_8abf5 cJ0_length_8abf5 1 (some .int) 2 0 0 [.ref (zk g (1 + i))] M S (.inl (some (.int (zi (zsl i))))) M S True := by
  refine zMet_of (by decide) hlt [(0, .ref (zk g (1 + i)))] rfl (Nat.le_of_ble_eq_true rfl) (fun K hC hE hN => ?_)
  refine j_sload_n hC 0 dJ0_length_8abf5_0 rfl rfl ?_
  refine j_sval hC dJ0_length_8abf5_1 kS_9 hi ?_
  refine j_sbl hC dJ0_length_8abf5_4 hi ?_
  refine j_sload_n hC 0 dJ0_length_8abf5_5 rfl rfl ?_
  refine j_strVi hC hE lk_J0_335 dJ0_length_8abf5_6 (c_J0_coder l hlt g i hi M S) [] [.int (zi (zsl i))] hi rfl rfl rfl rfl (Nat.le_of_ble_eq_true rfl) (by decide) (Nat.le_of_ble_eq_true rfl) (Nat.le_of_ble_eq_true rfl) (Nat.le_of_ble_eq_true rfl) (fun _ => ?_)
  refine j_ishr hC dJ0_length_8abf5_9 ?_
  exact j_iret hC hE dJ0_length_8abf5_10 (zs_len i hi).2.2 (zn_i _) rfl rfl rfl trivial (Nat.le_of_ble_eq_true rfl) (Nat.le_of_ble_eq_true rfl)
theorem c_J0_isLatin1 (l : Launch) (hlt : l.stackTraces = false) (g : zG) (i : Nat) (hi : i < 21) (M : zM) (S : zS) : zMet l g yJ0_isLatin1_aae02 cJ0_isLatin1_aae02 1 (some .boolean) 1 0 0 [.ref (zk g (1 + i))] M S (.inl (some (.int (zi 1)))) M S True := by
  refine zMet_of (by decide) hlt [(0, .ref (zk g (1 + i)))] rfl (Nat.le_of_ble_eq_true rfl) (fun K hC hE hN => ?_)
  refine j_gcs hC dJ0_isLatin1_aae02_0 kS_38 ?_
  refine j_if_eq hC dJ0_isLatin1_aae02_3 rfl rfl (fun h => absurd h (by decide)) (fun _ => ?_)
  refine j_sload_n hC 0 dJ0_isLatin1_aae02_6 rfl rfl ?_
  refine j_scod hC dJ0_isLatin1_aae02_7 kS_15 hi ?_
  refine j_if_ne hC dJ0_isLatin1_aae02_10 rfl rfl (fun h => absurd (by decide) h) (fun _ => ?_)
  refine j_iconst hC dJ0_isLatin1_aae02_13 ?_
  refine j_goto hC dJ0_isLatin1_aae02_14 rfl ?_
  exact j_iret hC hE dJ0_isLatin1_aae02_18 (w_id kR_1) (zn_z zb01_1) rfl rfl rfl trivial (Nat.le_of_ble_eq_true rfl) (Nat.le_of_ble_eq_true rfl)
theorem c_J3_checkIndex (l : Launch) (hlt : l.stackTraces = false) (g : zG) (a b : Int) (v : Value) (hv : v = .null ∨ ∃ q : Nat, v = .ref q) (ha : inR a) (hb : inR b) (h0 : 0 ≤ a) (h1 : a < b) (M : zM) (S : zS) : zMet l g yJ3_checkIndex_8e157 cJ3_checkIndex_8e157 3 (some .int) 1 0 0 [.int (zi a), .int (zi b), v] M S (.inl (some (.int (zi a)))) M S True := by
  rcases hv with rfl | ⟨q, rfl⟩
  · refine zMet_of (by decide) hlt [(0, .int (zi a)), (1, .int (zi b)), (2, .null)] rfl (Nat.le_of_ble_eq_true rfl) (fun K hC hE hN => ?_)
    refine j_iload_n hC 0 dJ3_checkIndex_8e157_0 rfl rfl ?_
    refine j_if_lt hC dJ3_checkIndex_8e157_1 rfl (w_id ha) (fun h => absurd h (by omega)) (fun _ => ?_)
    refine j_iload_n hC 0 dJ3_checkIndex_8e157_4 rfl rfl ?_
    refine j_iload_n hC 1 dJ3_checkIndex_8e157_5 rfl rfl ?_
    refine j_icmp_lt hC dJ3_checkIndex_8e157_6 rfl (w_id ha) (w_id hb) (fun _ => ?_) (fun h => absurd h1 h)
    refine j_iload_n hC 0 dJ3_checkIndex_8e157_16 rfl rfl ?_
    exact j_iret hC hE dJ3_checkIndex_8e157_17 (w_id ha) (zn_i _) rfl rfl rfl trivial (Nat.le_of_ble_eq_true rfl) (Nat.le_of_ble_eq_true rfl)
  · refine zMet_of (by decide) hlt [(0, .int (zi a)), (1, .int (zi b)), (2, .ref q)] rfl (Nat.le_of_ble_eq_true rfl) (fun K hC hE hN => ?_)
    refine j_iload_n hC 0 dJ3_checkIndex_8e157_0 rfl rfl ?_
    refine j_if_lt hC dJ3_checkIndex_8e157_1 rfl (w_id ha) (fun h => absurd h (by omega)) (fun _ => ?_)
    refine j_iload_n hC 0 dJ3_checkIndex_8e157_4 rfl rfl ?_
    refine j_iload_n hC 1 dJ3_checkIndex_8e157_5 rfl rfl ?_
    refine j_icmp_lt hC dJ3_checkIndex_8e157_6 rfl (w_id ha) (w_id hb) (fun _ => ?_) (fun h => absurd h1 h)
    refine j_iload_n hC 0 dJ3_checkIndex_8e157_16 rfl rfl ?_
    exact j_iret hC hE dJ3_checkIndex_8e157_17 (w_id ha) (zn_i _) rfl rfl rfl trivial (Nat.le_of_ble_eq_true rfl) (Nat.le_of_ble_eq_true rfl)
theorem c_J0_checkIndex (l : Launch) (hlt : l.stackTraces = false) (g : zG) (a b : Int) (ha : inR a) (hb : inR b) (h0 : 0 ≤ a) (h1 : a < b) (M : zM) (S : zS) : zMet l g yJ0_checkIndex_df160 cJ0_checkIndex_df160 2 none 2 0 0 [.int (zi a), .int (zi b)] M S (.inl none) M S True := by
  refine zMet_of (by decide) hlt [(0, .int (zi a)), (1, .int (zi b))] rfl (Nat.le_of_ble_eq_true rfl) (fun K hC hE hN => ?_)
  refine j_iload_n hC 0 dJ0_checkIndex_df160_0 rfl rfl ?_
  refine j_iload_n hC 1 dJ0_checkIndex_df160_1 rfl rfl ?_
  refine j_gsf hC dJ0_checkIndex_df160_2 kS_1053 (fun v hv => ?_)
  rcases hv with rfl | ⟨q, rfl⟩
  · refine j_callSi hC hE lk_J0_1059 dJ0_checkIndex_df160_5 (c_J3_checkIndex l hlt g a b .null (Or.inl rfl) ha hb h0 h1 M S) [.int (zi a), .int (zi b), .null] [] rfl rfl rfl (zcat (Nat.le_of_ble_eq_true rfl)) (by decide) (Nat.le_of_ble_eq_true rfl) (Nat.le_of_ble_eq_true rfl) (Nat.le_of_ble_eq_true rfl) (fun _ => ?_)
    refine j_pop hC dJ0_checkIndex_df160_8 rfl ?_
    exact j_vret hC hE dJ0_checkIndex_df160_9 rfl rfl rfl trivial (Nat.le_of_ble_eq_true rfl) (Nat.le_of_ble_eq_true rfl)
  · refine j_callSi hC hE lk_J0_1059 dJ0_checkIndex_df160_5 (c_J3_checkIndex l hlt g a b (.ref q) (Or.inr ⟨q, rfl⟩) ha hb h0 h1 M S) [.int (zi a), .int (zi b), .ref q] [] rfl rfl rfl (zcat (Nat.le_of_ble_eq_true rfl)) (by decide) (Nat.le_of_ble_eq_true rfl) (Nat.le_of_ble_eq_true rfl) (Nat.le_of_ble_eq_true rfl) (fun _ => ?_)
    refine j_pop hC dJ0_checkIndex_df160_8 rfl ?_
    exact j_vret hC hE dJ0_checkIndex_df160_9 rfl rfl rfl trivial (Nat.le_of_ble_eq_true rfl) (Nat.le_of_ble_eq_true rfl)
theorem c_J1_charAt (l : Launch) (hlt : l.stackTraces = false) (g : zG) (i : Nat) (j : Int) (hi : i < 21) (hj : inR j) (h0 : 0 ≤ j) (h1 : j < zsl i) (M : zM) (S : zS) : zMet l g yJ1_charAt_3b067 cJ1_charAt_3b067 2 (some .char) 3 0 0 [.ref (zw2 g i), .int (zi j)] M S (.inl (some (.int (zi (zsc i j))))) M S True := by
  refine zMet_of (by decide) hlt [(0, .ref (zw2 g i)), (1, .int (zi j))] rfl (Nat.le_of_ble_eq_true rfl) (fun K hC hE hN => ?_)
  refine j_iload_n hC 1 dJ1_charAt_3b067_0 rfl rfl ?_
  refine j_sload_n hC 0 dJ1_charAt_3b067_1 rfl rfl ?_
  refine j_sbl hC dJ1_charAt_3b067_2 hi ?_
  refine j_callSv hC hE lk_J1_9 dJ1_charAt_3b067_3 (c_J0_checkIndex l hlt g j (zsl i) hj (cR_zsl i hi) h0 h1 M S) [.int (zi j), .int (zi (zsl i))] [] rfl rfl rfl (zcat (Nat.le_of_ble_eq_true rfl)) (by decide) (Nat.le_of_ble_eq_true rfl) (Nat.le_of_ble_eq_true rfl) (Nat.le_of_ble_eq_true rfl) (fun _ => ?_)
  refine j_sload_n hC 0 dJ1_charAt_3b067_6 rfl rfl ?_
  refine j_iload_n hC 1 dJ1_charAt_3b067_7 rfl rfl ?_
  refine j_sbald hC dJ1_charAt_3b067_8 hi (w_id hj) h0 h1 ?_
  refine j_sipush hC dJ1_charAt_3b067_9 rfl ?_
  refine j_iand hC dJ1_charAt_3b067_12 ?_
  refine j_i2c hC dJ1_charAt_3b067_13 ?_
  exact j_iret hC hE dJ1_charAt_3b067_14 (zs_chI hi h0 h1).2.1 (zn_c (zs_chI hi h0 h1).2.2) rfl rfl rfl trivial (Nat.le_of_ble_eq_true rfl) (Nat.le_of_ble_eq_true rfl)
theorem c_J0_charAt (l : Launch) (hlt : l.stackTraces = false) (g : zG) (i : Nat) (j : Int) (hi : i < 21) (hj : inR j) (h0 : 0 ≤ j) (h1 : j < zsl i) (M : zM) (S : zS) : zMet l g yJ0_charAt_5068e cJ0_charAt_5068e 2 (some .char) 4 0 0 [.ref (zk g (1 + i)), .int (zi j)] M S (.inl (some (.int (zi (zsc i j))))) M S True := by
  refine zMet_of (by decide) hlt [(0, .ref (zk g (1 + i))), (1, .int (zi j))] rfl (Nat.le_of_ble_eq_true rfl) (fun K hC hE hN => ?_)
  refine j_sload_n hC 0 dJ0_charAt_5068e_0 rfl rfl ?_
  refine j_strVi hC hE lk_J0_492 dJ0_charAt_5068e_1 (c_J0_isLatin1 l hlt g i hi M S) [] [] hi rfl rfl rfl rfl (Nat.le_of_ble_eq_true rfl) (by decide) (Nat.le_of_ble_eq_true rfl) (Nat.le_of_ble_eq_true rfl) (Nat.le_of_ble_eq_true rfl) (fun _ => ?_)
  refine j_if_eq hC dJ0_charAt_5068e_4 rfl rfl (fun h => absurd h (by decide)) (fun _ => ?_)
  refine j_sload_n hC 0 dJ0_charAt_5068e_7 rfl rfl ?_
  refine j_sval hC dJ0_charAt_5068e_8 kS_9 hi ?_
  refine j_iload_n hC 1 dJ0_charAt_5068e_11 rfl rfl ?_
  refine j_callSi hC hE lk_J0_495 dJ0_charAt_5068e_12 (c_J1_charAt l hlt g i j hi hj h0 h1 M S) [.ref (zw2 g i), .int (zi j)] [] rfl rfl rfl (zcat (Nat.le_of_ble_eq_true rfl)) (by decide) (Nat.le_of_ble_eq_true rfl) (Nat.le_of_ble_eq_true rfl) (Nat.le_of_ble_eq_true rfl) (fun _ => ?_)
  exact j_iret hC hE dJ0_charAt_5068e_15 (w_id (cR_zsc hi h0 h1)) (zn_c (zs_chI hi h0 h1).2.2) rfl rfl rfl trivial (Nat.le_of_ble_eq_true rfl) (Nat.le_of_ble_eq_true rfl)
section ZJ11
variable {K : zK} {l0 : Launch} {g : zG} {cc : ByteArray} {nL nc ns pc : Nat} {own : String} {lv lv1 : List (Nat × Value)} {rest : List Value} {M M1 : zM} {S S1 : zS}
variable {nm : String} {ret : Option FieldType} {L mc ms : Nat} {oc : Option Value ⊕ String} {M9 : zM} {S9 : zS} {φ φ1 : Prop}
theorem j_slen (hC : zC K l0 g cc nL own) (hE : zE K g nm ret L mc ms oc M9 S9 φ) (hlt : l0.stackTraces = false) {ix i : Nat} (lk : zLkV own ix yJ0_length_8abf5 cJ0_length_8abf5 1 (some .int) 0) (hd : decode cc pc = .ok (.invokevirtual ix, 3)) (hi : i < 21) (hcat : rest.length ≤ 4) (r2 : 3 ≤ L) (r3 : nc ≤ mc) (r4 : ns ≤ ms) (k : zJ K g nc ns (pc + 3) nL lv (.int (zi (zsl i)) :: rest) M S) : zJ K g nc ns pc nL lv (.ref (zk g (1 + i)) :: rest) M S :=
  j_strVi hC hE lk hd (c_J0_length l0 hlt g i hi M S) [] rest hi rfl rfl rfl rfl hcat (by decide) r2 r3 r4 (fun _ => k)
theorem j_schr (hC : zC K l0 g cc nL own) (hE : zE K g nm ret L mc ms oc M9 S9 φ) (hlt : l0.stackTraces = false) {ix i : Nat} {j0 j : Int} (lk : zLkV own ix yJ0_charAt_5068e cJ0_charAt_5068e 2 (some .char) 1) (hd : decode cc pc = .ok (.invokevirtual ix, 3)) (hj : w j0 = j) (hi : i < 21) (hc : 0 ≤ j ∧ j < zsl i) (hcat : rest.length ≤ 4) (r2 : 5 ≤ L) (r3 : nc ≤ mc) (r4 : ns ≤ ms) (k : zJ K g nc ns (pc + 3) nL lv (.int (zi (zsc i j)) :: rest) M S) : zJ K g nc ns pc nL lv (.int (zi j0) :: .ref (zk g (1 + i)) :: rest) M S := by
  subst hj
  refine j_strVi hC hE lk hd (c_J0_charAt l0 hlt g i (w j0) hi (inR_w _) hc.1 hc.2 M S) [.int (zi (w j0))] rest hi rfl ?_ rfl rfl hcat (by decide) r2 r3 r4 (fun _ => k)
  rw [zi_w]
  rfl
end ZJ11
