/-! CALLS ON STRINGS THAT MAY BE CONSTANTS -/
section ZCT
variable {p : Program} {l : Launch} {e : Env} {R : Room} {s : State} {m : MethodId} {args : Array Value} {below : List Frame} {meth : Method} {c : Code} {H : Heap} {locs : List Loc} {cells slots : Nat} {Q : State → Prop}
variable {cc : ByteArray} {pc : Nat} {ls : Array Slot} {rest : List Value}
theorem z_copyt (hexec : p.tables.exec = Jvm.exec) (hb : c.code = cc) (hml : c.maxLocals = ls.size) {own : String} {index : Nat} (hown : s.vm.findClass own = some m.cls) (hlink : (Cond.methodLink own index arraycopyName).before args s = true) (hnat : (Cond.native arraycopyName).before args s = true) (hstat : (Cond.static arraycopyName).before args s = true) (hini : (Cond.initialized "java/lang/System").before args s = true)
    {a a0 : Nat} {c1 : ClassId} {n0 n1 : Nat} {f g : Nat → Int32} {A : Nat → Prop} (hS : va_S A s.heap H locs) (hX : va_T .byte a0 n0 (fun j => .int (f j)) A s s.heap) (hc1 : H[a]? = some (vp_cell c1 (n1, .inl g))) (ht1 : ArrOfT s c1 .byte) (hfb : ∀ i : Nat, i < n0 → fits .byte (.int (f i)) = true)
    {sp dp n : Int32} (h1 : ¬ sp < 0) (h2 : ¬ dp < 0) (h3 : ¬ n < 0) (h4 : sp.toNatClampNeg + n.toNatClampNeg ≤ n0) (h5 : dp.toNatClampNeg + n.toNatClampNeg ≤ n1)
    (hframes : 1 ≤ R.frames) (hlocals : (rest.map fun v => v.category).sum + (nativeFrameWords "java/lang/System" "arraycopy" 5 + 11) ≤ R.locals) (hdg : decode cc pc = .ok (.invokestatic index, 3))
    (kk : ∀ (H1 : Heap) (L : List Loc), H1[a]? = some (vp_cell c1 (n1, .inl (va_cpy f g sp.toNatClampNeg dp.toNatClampNeg n.toNatClampNeg))) → H1.size = H.size → (∀ q, q ≠ a → H1[q]? = H[q]?) → (∀ z ∈ L, z.base = a) → W p l e R s m args below meth c H1 (locs ++ L) cells slots Q (F0 m (pc + 3) ls rest)) : W p l e R s m args below meth c H locs cells slots Q (F0 m pc ls (.int n :: .int dp :: .ref a :: .int sp :: .ref a0 :: rest)) := by
  have nn : ∀ z : Int32, ¬ z < 0 → z.toInt = (z.toNatClampNeg : Int) := by
    intro z hz
    have hz0 : (0 : Int) ≤ z.toInt := by
      have := Int32.not_lt.mp hz
      simpa using Int32.le_iff_toInt_le.mp this
    show z.toInt = ((z.toInt.toNat : Nat) : Int)
    omega
  intro T hT X
  obtain ⟨scr, hs1, hs2, hs3, hs4, -, hs5, hs7⟩ := hX
  have hc0 : H[a0]? = some scr := by rw [hS.2.1 a0 (Array.getElem?_eq_some_iff.mp hs1).1 hs7]; exact hs1
  obtain ⟨hs6, k0, hk0, cm0, hkk0⟩ := hs2
  obtain ⟨-, k1, hk1, cm1, hkk1⟩ := ht1 n1 (fun j => .int (g j))
  obtain ⟨vm', X', step⟩ := X.arraycopy hexec hown hlink hnat hstat hini (src := a0) (dst := a) (cs := scr) (cd := vp_cell c1 (n1, .inl g)) (srcPos := sp) (destPos := dp) (n := n) (by rw [hT]; exact hc0) (by rw [hT]; exact hc1)
    hs6 (fun _ h => by cases h) hs3 (fun h => by cases h) hk0 hk1 hkk0 hkk1 (by simp [refKind]) h1 h2 h3
    (by rw [nn sp h1, nn n h3]; omega)
    (by rw [nn dp h2, nn n h3]; show ¬ _ > ((arrV c1 n1 (fun j => .int (g j))).slots.size : Int); rw [arrV_size]; omega)
    (fun vm₁ _ i hi => by
      have e : scr.slots.getD (sp.toNatClampNeg + i) .null = .int (f (sp.toNatClampNeg + i)) := by
        rw [Array.getD_eq_getD_getElem?, hs5 _ (by omega)]
        rfl
      refine ⟨?_, ?_⟩
      · rw [e]
        exact hfb _ (by omega)
      · rw [e]
        exact trivial)
    (g := F0 m pc ls (.int n :: .int dp :: .ref a :: .int sp :: .ref a0 :: rest)) rfl (by rw [hml]) (rest := rest) rfl (by rw [hb]; exact hdg) hframes (by show 2 * 0 + _ + _ ≤ _; omega)
  have e1 : copied scr (vp_cell c1 (n1, .inl g)) sp dp n = vp_cell c1 (n1, .inl (va_cpy f g sp.toNatClampNeg dp.toNatClampNeg n.toNatClampNeg)) := va_copiedX (fun z => .int z) scr c1 f g hs5 h4
  rw [e1] at X' step
  have hl : a < H.size := (Array.getElem?_eq_some_iff.mp hc1).1
  have hheap : ((T.setVm vm').setCell a (vp_cell c1 (n1, .inl (va_cpy f g sp.toNatClampNeg dp.toNatClampNeg n.toNatClampNeg)))).heap = H.setIfInBounds a (vp_cell c1 (n1, .inl (va_cpy f g sp.toNatClampNeg dp.toNatClampNeg n.toNatClampNeg))) := by rw [← hT]; rfl
  obtain ⟨t, a1, b1⟩ := kk _ _ (show (H.setIfInBounds a _)[a]? = some _ by simp [Array.getElem?_setIfInBounds, hl]) (by simp) (fun q hq => by simp [Array.getElem?_setIfInBounds, Ne.symm hq]) (fun z hz => by
    obtain ⟨y, -, hy⟩ := List.mem_map.mp hz
    rw [← hy]) _ hheap X'
  exact ⟨t, step t a1, b1⟩
end ZCT
section ZJ31
variable {K : zK} {l0 : Launch} {g : zG} {cc : ByteArray} {nL nc ns pc : Nat} {own : String} {lv lv1 : List (Nat × Value)} {rest : List Value} {M M1 : zM} {S S1 : zS}
variable {nm : String} {ret : Option FieldType} {L mc ms : Nat} {oc : Option Value ⊕ String} {M9 : zM} {S9 : zS} {φ φ1 : Prop}

theorem zs_by : ∀ i, i < 21 → ∀ k : Nat, k < zSln.getD i 0 → 0 ≤ zsc i (k : Int) ∧ zsc i (k : Int) < 128 := by decide +kernel
theorem j_copyk (hC : zC K l0 g cc nL own) (hE : zE K g nm ret L mc ms oc M9 S9 φ) {ix i a : Nat} {i1 j1 : Int} (lk : zCpL own ix) (hd : decode cc pc = .ok (.invokestatic ix, 3)) (hi : i < 21) (hk1 : zkd S a = 24) (q1 : w i1 = j1) (hc : 0 ≤ j1 ∧ j1 + zsl i ≤ zlen S a) (hM1 : M1 = zcpk M i a j1) (hcat : rest.length ≤ 4) (hL : 1 ≤ L)
    (k : zJ K g nc ns (pc + 3) nL lv rest M1 S) : zJ K g nc ns pc nL lv (.int (zi (zsl i)) :: .int (zi i1) :: zr g a :: .int (zi 0) :: .ref (zw2 g i) :: rest) M S := by
  obtain ⟨p, l, e, R, s, m, args, below, meth, c, Q⟩ := K
  obtain ⟨rfl, hx, hb, hml, hown, hts, hT, hO, hNw, hlk, htr⟩ := hC
  obtain ⟨hnm, hrt, rfl, rfl⟩ := hE
  intro H locs ls hR hS hl
  subst q1; subst hM1
  have h8 := zcat hcat
  have h281 : (S.2.1 a).1 < 28 := by show zkd S a < 28; omega
  have hz1 := (hR.pos h281).1
  have e1 := (hR.2.1 a).2 (by rw [show (S.2.1 a).1 = 24 from hk1]; decide) h281
  rw [show (S.2.1 a).1 = 24 from hk1] at e1
  have z5 : zlen S a = ((S.2.1 a).2 : Int) := rfl
  have hln := (zs_len i hi).2.1
  have hsl : 0 ≤ zsl i ∧ zsl i < 100 := by
    have h3 : ∀ j, j < 21 → zSln.getD j 0 < 100 := by decide +kernel
    have := h3 i hi
    omega
  have hw1 : w (zsl i) = zsl i := w_id (by unfold inR; omega)
  have hw0 : w 0 = 0 := by decide
  have hneg : ∀ x : Int, 0 ≤ w x → ¬ zi x < 0 := fun x hx9 => by
    rw [zi_0, zi_ltw]; have : w 0 = 0 := by decide
    omega
  have hT0 : ∀ x : Int, 0 ≤ w x → (((zi x).toNatClampNeg : Nat) : Int) = w x := fun x hx9 => Int.toNat_of_nonneg hx9
  have t0 := hT0 0 (by rw [hw0]; decide)
  have t1 := hT0 i1 hc.1
  have t2 := hT0 (zsl i) (by rw [hw1]; exact hsl.1)
  have q4 : (zi 0).toNatClampNeg + (zi (zsl i)).toNatClampNeg ≤ zSln.getD i 0 := by omega
  have q5 : (zi i1).toNatClampNeg + (zi (zsl i)).toNatClampNeg ≤ (S.2.1 a).2 := by omega
  have q6 : nativeFrameWords "java/lang/System" "arraycopy" 5 ≤ 40 := by decide +kernel
  have q7 : (rest.map fun v => v.category).sum + (nativeFrameWords "java/lang/System" "arraycopy" 5 + 11) ≤ 128 * L := by omega
  have hby : ∀ j : Nat, j < zSln.getD i 0 → (zSby.getD i []).getD j 0 = zi (zsc i (j : Int)) := fun j hj => (zs_chr i hi j hj).1
  rw [zr_nz hz1]
  refine z_copyt (f := fun j => (zSby.getD i []).getD j 0) (g := fun j => zi (M a j)) hx hb (hml.trans hl.1.symm) hown (hts _ lk.1) (hts _ lk.2.1) (hts _ lk.2.2.1) (hts _ lk.2.2.2) hS (hO.str.1 i hi).2.2.2 e1 (hT.2 24 (by decide) (by decide)).1 (fun j hj => by rw [hby j hj]; exact (zfits (Or.inr (Or.inr rfl)) (by have := zs_by i hi j hj; show -128 ≤ zsc i (j : Int) ∧ zsc i (j : Int) < 128; omega)).2) (hneg _ (by rw [hw0]; decide)) (hneg _ hc.1) (hneg _ (by rw [hw1]; exact hsl.1)) q4 q5 (show 1 ≤ 8 * L by omega) q7 hd fun H1 Lc g1 g2 g3 g4 => ?_
  have hpos : ∀ q, q ≠ a → zcpk M i a (w i1) q = M q := fun q hq => up_ne _ _ hq
  have hval : ∀ j : Nat, zi (zcpk M i a (w i1) a j) = va_cpy (fun j => (zSby.getD i []).getD j 0) (fun j => zi (M a j)) (zi 0).toNatClampNeg (zi i1).toNatClampNeg (zi (zsl i)).toNatClampNeg j := fun j => by
    show zi (up M a _ a j) = _
    rw [up_eq]
    by_cases hin : w i1 ≤ (j : Int) ∧ (j : Int) < w i1 + zsl i
    · rw [if_pos hin, pk_cpy_in (by omega) (by omega)]
      rw [hby _ (by omega)]
      congr 2
      omega
    · rw [if_neg hin, pk_cpy_out (by omega)]
  refine k H1 _ ls (hR.upd h281 g2 g3 (fun c1 hc1 => ⟨_, e1, by rw [g1] at hc1; cases hc1; exact (arrV_size _ _ _).trans (arrV_size _ _ _).symm⟩) (fun b hb => hpos b hb) (fun _ _ => rfl) rfl rfl ⟨fun q => ?_, fun _ _ => ?_⟩ (fun j => ?_)) ⟨by rw [g2]; exact hS.1, fun q h1 h2 => ?_, fun z hz => ?_⟩ hl
  · rw [show (S.2.1 a).1 = 24 from hk1] at q
    exact absurd q (by decide)
  · rw [show (S.2.1 a).1 = 24 from hk1, g1]
    refine congrArg some (Eq.trans (b := arrV (zc g 24) (S.2.1 a).2 (fun j => .int (va_cpy (fun j => (zSby.getD i []).getD j 0) (fun j => zi (M a j)) (zi 0).toNatClampNeg (zi i1).toNatClampNeg (zi (zsl i)).toNatClampNeg j))) rfl ?_)
    congr 1
    funext j
    show Value.int _ = Value.int _
    rw [hval]
  · rw [show (S.2.1 a).1 = 24 from hk1]
    show zrg .byte (up M a _ a (j : Int))
    rw [up_eq]
    by_cases hin : w i1 ≤ (j : Int) ∧ (j : Int) < w i1 + zsl i
    · rw [if_pos hin]
      have h9 := zs_by i hi ((j : Int) - w i1).toNat (by omega)
      rw [Int.toNat_of_nonneg (by omega)] at h9
      show -128 ≤ _ ∧ _
      omega
    · rw [if_neg hin]
      have h9 := hR.2.2.2.1 a j h281
      rw [show (S.2.1 a).1 = 24 from hk1] at h9
      exact h9
  · rw [g3 q (fun e9 => h2 (by rw [e9]; exact zad_gt hz1 (hR.pos h281).2.2))]
    exact hS.2.1 q h1 h2
  · rcases List.mem_append.mp hz with h | h
    · exact hS.2.2 z h
    · rw [g4 z h]; exact zad_gt hz1 (hR.pos h281).2.2
end ZJ31
theorem c_J0_getBytes (l : Launch) (hlt : l.stackTraces = false) (g : zG) (i a : Nat) (j : Int) (hi : i < 21) (hj : inR j) (M : zM) (S : zS) (hk1 : zkd S a = 24) (hc : 0 ≤ j ∧ j + zsl i ≤ zlen S a) : zMet l g yJ0_getBytes_840e7 cJ0_getBytes_840e7 4 none 3 0 0 [.ref (zk g (1 + i)), zr g a, .int (zi j), .int (zi 0)] M S (.inl none) (zcpk M i a j) S True := by
  refine zMet_of (by decide) hlt [(0, .ref (zk g (1 + i))), (1, zr g a), (2, .int (zi j)), (3, .int (zi 0))] (by simp only [lv_args, zr_cat, zc_i, zc_l, zc_d, zc_r] <;> rfl) (by rw [zsl_len]; simp only [List.map_cons, List.map_nil, zr_cat, zc_i, zc_l, zc_d, zc_r, List.sum_cons, List.sum_nil] <;> decide) (fun K hC hE hN => ?_)
  refine j_sload_n hC 0 dJ0_getBytes_840e7_0 rfl rfl ?_
  refine j_strVi hC hE lk_J0_335 dJ0_getBytes_840e7_1 (c_J0_coder l hlt g i hi M S) [] [] hi rfl rfl rfl rfl (Nat.le_of_ble_eq_true rfl) (by decide) (Nat.le_of_ble_eq_true rfl) (Nat.le_of_ble_eq_true rfl) (Nat.le_of_ble_eq_true rfl) (fun _ => ?_)
  refine j_iload_n hC 3 dJ0_getBytes_840e7_4 rfl rfl ?_
  refine j_icmp_ne hC dJ0_getBytes_840e7_5 rfl (w_id kR_0) (w_id kR_0) (fun h => absurd rfl h) (fun _ => ?_)
  refine j_sload_n hC 0 dJ0_getBytes_840e7_8 rfl rfl ?_
  refine j_sval hC dJ0_getBytes_840e7_9 kS_9 hi ?_
  refine j_iconst hC dJ0_getBytes_840e7_12 ?_
  refine j_aload_n hC 1 dJ0_getBytes_840e7_13 rfl rfl ?_
  refine j_iload_n hC 2 dJ0_getBytes_840e7_14 rfl rfl ?_
  refine j_iload_n hC 3 dJ0_getBytes_840e7_15 rfl rfl ?_
  refine j_ishl hC dJ0_getBytes_840e7_16 ?_
  refine j_sload_n hC 0 dJ0_getBytes_840e7_17 rfl rfl ?_
  refine j_sval hC dJ0_getBytes_840e7_18 kS_9 hi ?_
  refine j_sbl hC dJ0_getBytes_840e7_21 hi ?_
  have e9 : zshl j 0 = j := by
    unfold zshl
    have : (zi 0 &&& 31) = 0 := by decide
    rw [this, Int32.shiftLeft_zero]
    exact w_id hj
  rw [e9]
  refine j_copyk hC hE lk_J0_212 dJ0_getBytes_840e7_22 hi hk1 (w_id hj) hc rfl (Nat.le_of_ble_eq_true rfl) (Nat.le_of_ble_eq_true rfl) ?_
  refine j_goto hC dJ0_getBytes_840e7_25 rfl ?_
  exact j_vret hC hE dJ0_getBytes_840e7_43 rfl rfl rfl trivial (Nat.le_of_ble_eq_true rfl) (Nat.le_of_ble_eq_true rfl)
section ZJ32
variable {K : zK} {l0 : Launch} {g : zG} {cc : ByteArray} {nL nc ns pc : Nat} {own : String} {lv lv1 : List (Nat × Value)} {rest : List Value} {M M1 : zM} {S S1 : zS}
variable {nm : String} {ret : Option FieldType} {L mc ms : Nat} {oc : Option Value ⊕ String} {M9 : zM} {S9 : zS} {φ φ1 : Prop}

theorem zr_c48 (hC : zC K l0 g cc nL own) {q : Nat} (hq : 47 < q ∧ q < 69) : zr g q = .ref (zk g (1 + (q - 48))) := by
  obtain ⟨p, l, e, R, s, m, args, below, meth, c, Q⟩ := K
  obtain ⟨rfl, hx, hb, hml, hown, hts, hT, hO, hNw, hlk, htr⟩ := hC
  have h := zr_cst (g := g) hO (i := q - 48) (by omega)
  rw [show 48 + (q - 48) = q by omega] at h
  exact h
theorem j_lenM (hC : zC K l0 g cc nL own) (hE : zE K g nm ret L mc ms oc M9 S9 φ) (hlt : l0.stackTraces = false) (hF : zFx S) {ix q : Nat} {r : Int} (lk : zLkV own ix yJ0_length_8abf5 cJ0_length_8abf5 1 (some .int) 0) (hd : decode cc pc = .ok (.invokevirtual ix, 3)) (hy : F_J0_lenM q M S = some r) (hcat : rest.length ≤ 4) (r2 : 8 ≤ L) (r3 : nc + 0 ≤ mc) (r4 : ns + 0 ≤ ms) (k : inR r → zJ K g nc ns (pc + 3) nL lv (.int (zi r) :: rest) M S) : zJ K g nc ns pc nL lv (zr g q :: rest) M S := by
  unfold F_J0_lenM at hy
  by_cases hq : 47 < q ∧ q < 69
  · rw [if_pos hq] at hy
    cases hy
    rw [zr_c48 hC hq]
    exact j_slen hC hE hlt lk hd (by omega) hcat (by omega) r3 r4 (k (cR_zsl _ (by omega)))
  · rw [if_neg hq] at hy
    obtain ⟨hk, hy⟩ := zchk_ex hy
    refine j_callVi (ci := 9) hC hE lk hd (c_J0_length_8abf5 l0 hlt g q M S hF hy) [] rest hk ⟨_, rfl, by decide, rfl⟩ rfl rfl rfl (zcat hcat) (by decide) (by omega) r3 r4 (fun hp => k hp)
theorem j_codM (hC : zC K l0 g cc nL own) (hE : zE K g nm ret L mc ms oc M9 S9 φ) (hlt : l0.stackTraces = false) (hF : zFx S) {ix q : Nat} {r : Int} (lk : zLkV own ix yJ0_coder_7d493 cJ0_coder_7d493 1 (some .byte) 0) (hd : decode cc pc = .ok (.invokevirtual ix, 3)) (hy : F_J0_codM q M S = some r) (hcat : rest.length ≤ 4) (r2 : 8 ≤ L) (r3 : nc + 0 ≤ mc) (r4 : ns + 0 ≤ ms) (k : inR r → zJ K g nc ns (pc + 3) nL lv (.int (zi r) :: rest) M S) : zJ K g nc ns pc nL lv (zr g q :: rest) M S := by
  unfold F_J0_codM at hy
  by_cases hq : 47 < q ∧ q < 69
  · rw [if_pos hq] at hy
    cases hy
    rw [zr_c48 hC hq]
    exact j_strVi hC hE lk hd (c_J0_coder l0 hlt g _ (by omega) M S) [] rest (by omega) rfl rfl rfl rfl hcat (by decide) (by omega) r3 r4 (fun _ => k (by decide))
  · rw [if_neg hq] at hy
    obtain ⟨hk, hy⟩ := zchk_ex hy
    refine j_callVi (ci := 9) hC hE lk hd (c_J0_coder_7d493 l0 hlt g q M S hF hy) [] rest hk ⟨_, rfl, by decide, rfl⟩ rfl rfl rfl (zcat hcat) (by decide) (by omega) r3 r4 (fun hp => k hp)
theorem j_strVv (hC : zC K l0 g cc nL own) (hE : zE K g nm ret L mc ms oc M9 S9 φ) {y : MethodName} {cc2 : ByteArray} {nL2 : Nat} {ret2 : Option FieldType} {L2 mc2 ms2 n ix : Nat} {av st : List Value} {i : Nat} (lk : zLkV own ix y cc2 nL2 ret2 n) (hd : decode cc pc = .ok (.invokevirtual ix, 3)) (ct : zMet l0 g y cc2 nL2 ret2 L2 mc2 ms2 av M S (.inl none) M1 S1 φ1) (As rest : List Value) (hi : i < 21) (hy : y.cls = "java/lang/String") (hst : st = As.reverse ++ .ref (zk g (1 + i)) :: rest) (hA : av = .ref (zk g (1 + i)) :: As) (hn : As.length = n) (hcat : rest.length ≤ 4) (r1 : nL2 ≤ 100) (r2 : L2 + 1 ≤ L) (r3 : nc + mc2 ≤ mc) (r4 : ns + ms2 ≤ ms) (k : φ1 → zJ K g (nc + mc2) (ns + ms2) (pc + 3) nL lv rest M1 S1) : zJ K g nc ns pc nL lv st M S := by
  obtain ⟨p, l, e, R, s, m, args, below, meth, c, Q⟩ := K
  obtain ⟨rfl, hx, hb, hml, hown, hts, hT, hO, hNw, hlk, htr⟩ := hC
  obtain ⟨hnm, hrt, rfl, rfl⟩ := hE
  subst hst
  subst hA
  intro H locs ls hR hS hl
  obtain ⟨cell, q1, q3, hfc⟩ := vk_recv hO.str hi hS
  exact zfinish (vx_runV ⟨hx, hb, hml, hown, hts⟩ ct ⟨callB_of n hts (zGood lk.1.2.2.1) rfl rfl rfl (hts _ lk.1.2.1) (hts _ lk.1.1) ⟨lk.1.2.2.2.1.1, lk.1.2.2.2.1.2, lk.1.2.2.2.2⟩ (zRoom r1 r2), hts _ lk.2.1, hts _ lk.2.2⟩ ⟨zBl g _ M S, ⟨cell, q1, q3, by rw [hy]; exact hfc⟩, (fun U hU hW => ⟨rfl, ⟨by rw [hU]; exact hR, hT.moved hW.alike, hO.kept hS hU hW, zNw_warm hW hNw⟩⟩)⟩ rfl hn hl.1 rfl (lv_room (zcat hcat)) hd ⟨r3, r4⟩) hS (fun E ce q9 H1 locs1 hoc => by cases hoc) (fun v H1 locs1 hoc hφ hR1 hS1 => by cases hoc; exact k hφ H1 locs1 ls hR1 hS1 hl)
theorem j_gbyM (hC : zC K l0 g cc nL own) (hE : zE K g nm ret L mc ms oc M9 S9 φ) (hlt : l0.stackTraces = false) (hF : zFx S) {ix q a : Nat} {j0 j c0 c : Int} (lk : zLkV own ix yJ0_getBytes_840e7 cJ0_getBytes_840e7 4 none 3) (hd : decode cc pc = .ok (.invokevirtual ix, 3)) (hj : w j0 = j) (hc : w c0 = c) (hy : F_J0_gbyM q a j c M S = some M1) (hcat : rest.length ≤ 4) (r2 : 8 ≤ L) (r3 : nc + 0 ≤ mc) (r4 : ns + 0 ≤ ms) (k : zJ K g nc ns (pc + 3) nL lv rest M1 S) : zJ K g nc ns pc nL lv (.int (zi c0) :: .int (zi j0) :: zr g a :: zr g q :: rest) M S := by
  subst hj; subst hc
  unfold F_J0_gbyM at hy
  by_cases hq : 47 < q ∧ q < 69
  · rw [if_pos hq] at hy
    obtain ⟨h1, hy⟩ := zchk_ex hy
    cases hy
    rw [zr_c48 hC hq]
    refine j_strVv hC hE lk hd (c_J0_getBytes l0 hlt g (q - 48) a (w j0) (by omega) (inR_w _) M S h1.2.1 h1.2.2) [zr g a, .int (zi j0), .int (zi c0)] rest (by omega) rfl rfl ?_ rfl hcat (by decide) (by omega) r3 r4 (fun _ => k)
    rw [zi_w, ← zi_w c0, h1.1]
  · rw [if_neg hq] at hy
    obtain ⟨hk, hy⟩ := zchk_ex hy
    refine j_callVv (ci := 9) hC hE lk hd (c_J0_getBytes_840e7 l0 hlt g q a (w j0) (w c0) (inR_w _) (inR_w _) M S hF hy) [zr g a, .int (zi j0), .int (zi c0)] rest hk ⟨_, rfl, by decide, rfl⟩ rfl ?_ rfl (zcat hcat) (by decide) (by omega) r3 r4 (fun _ => k)
    simp only [zi_w]
end ZJ32
