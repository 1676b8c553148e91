/-! CERTIFICATES: a program has written them (wip/p41/gen5.py) -/
set_option maxHeartbeats 4000000 in
set_option maxRecDepth 100000 in
theorem c_L_cell (l : Launch) (hlt : l.stackTraces = false) (g : zG) (hL : zgL g ≤ 260) (ln : Int) (hln : ln = (zgL g : Int)) (scr : Int → Int) (hscr : scr = zscr (zgx g)) (v1 : Int) (hv1 : inR v1) (M : zM) (S : zS) (hF : zFx S) {r : Int} (h : F_L_cell ln scr v1 = some r) : zMet l g yL_cell cL_cell 3 (some .int) 1 0 0 [.ref (zgb g), .int (zi v1)] M S (.inl (some (.int (zi r)))) M S (inR r) := by
  refine zMet_of (by decide) hlt [(0, .ref (zgb g)), (1, .int (zi v1))] rfl (Nat.le_of_ble_eq_true rfl) (fun K hC hE hN => ?_)
  have hlnR : inR ln := by rw [hln]; exact ⟨by omega, by omega⟩
  have hscrR : ∀ i, inR (scr i) := by intro i; rw [hscr]; exact cR_zscr _ i
  unfold F_L_cell at h
  have J_15 : ∀ (v1 : Int) (t0 : Int) (t1 : Int) (hv1 : inR v1) (ht0 : inR t0) (ht1 : inR t1) (_ : F_L_cell_J15 ln scr v1 t0 t1 = some r), zJ K g 0 0 15 3 [(1, .int (zi v1))] [.int (zi t1), .int (zi t0)] M S := by
    intro v1 t0 t1 hv1 ht0 ht1 h
    unfold F_L_cell_J15 at h
    refine j_sipush hC dL_cell_15 rfl ?_
    refine j_iload_n hC 0 dL_cell_18 rfl rfl ?_
    refine j_imul hC dL_cell_19 ?_
    refine j_iadd hC dL_cell_20 ?_
    refine j_imul hC dL_cell_21 ?_
    refine j_sipush hC dL_cell_22 rfl ?_
    refine j_iadd hC dL_cell_25 ?_
    obtain ⟨x1, ex1, h⟩ := zlet_ex h
    have hx1 : inR x1 := by rw [ex1]; exact inR_w _
    refine j_namei ex1 ?_
    refine j_istore_n hC dL_cell_26 rfl (Nat.le_of_ble_eq_true rfl) rfl ?_
    refine j_iload_n hC 0 dL_cell_27 rfl rfl ?_
    refine j_iload_n hC 0 dL_cell_28 rfl rfl ?_
    refine j_bipush hC dL_cell_29 rfl ?_
    refine j_iushr hC dL_cell_31 ?_
    refine j_ixor hC dL_cell_32 ?_
    refine j_ldc (n := 1103515245) hC dL_cell_33 k811 rfl ?_
    refine j_imul hC dL_cell_35 ?_
    obtain ⟨x2, ex2, h⟩ := zlet_ex h
    have hx2 : inR x2 := by rw [ex2]; exact inR_w _
    refine j_namei ex2 ?_
    refine j_istore_n hC dL_cell_36 rfl (Nat.le_of_ble_eq_true rfl) rfl ?_
    refine j_iload_n hC 0 dL_cell_37 rfl rfl ?_
    refine j_iload_n hC 0 dL_cell_38 rfl rfl ?_
    refine j_bipush hC dL_cell_39 rfl ?_
    refine j_iushr hC dL_cell_41 ?_
    refine j_ixor hC dL_cell_42 ?_
    have e1 := Option.some.inj h
    exact j_iret hC hE dL_cell_43 (w_id (cR_zxor _ _)) (zn_i _) (by rw [← e1]) rfl rfl (by rw [← e1]; exact (cR_zxor _ _)) (Nat.le_of_ble_eq_true rfl) (Nat.le_of_ble_eq_true rfl)
  refine j_ldc (n := 69069) hC dL_cell_0 k810 rfl ?_
  refine j_iload_n hC 1 dL_cell_2 rfl rfl ?_
  refine j_sload_n hC 0 dL_cell_3 rfl rfl ?_
  refine j_scln hC hln dL_cell_4 ?_
  refine j_icmp_ge hC dL_cell_5 rfl (w_id hv1) (w_id hlnR) (fun c3 => ?_) (fun c3 => ?_)
  · have h := zf c3 h
    refine j_iconst hC dL_cell_14 ?_
    refine j_sub [1] rfl ?_
    exact J_15 v1 69069 0 hv1 kR_69069 kR_0 h
  · have h := zt c3 h
    refine j_sload_n hC 0 dL_cell_8 rfl rfl ?_
    refine j_iload_n hC 1 dL_cell_9 rfl rfl ?_
    obtain ⟨c4, h⟩ := zchk_ex h
    refine j_scld hC hln dL_cell_10 (w_id hv1) c4.1 c4.2 ?_
    rw [← hscr]
    refine j_goto hC dL_cell_11 rfl ?_
    refine j_sub [1] rfl ?_
    exact J_15 v1 69069 (scr v1) hv1 kR_69069 (hscrR _) h
set_option maxHeartbeats 4000000 in
set_option maxRecDepth 100000 in
theorem c_L_pick (l : Launch) (hlt : l.stackTraces = false) (g : zG) (hL : zgL g ≤ 260) (ln : Int) (hln : ln = (zgL g : Int)) (scr : Int → Int) (hscr : scr = zscr (zgx g)) (v1 : Int) (v2 : Int) (hv1 : inR v1) (hv2 : inR v2) (M : zM) (S : zS) (hF : zFx S) {r : Int} (h : F_L_pick ln scr v1 v2 S = some r) : zMet l g yL_pick cL_pick 3 (some .int) 2 0 0 [.ref (zgb g), .int (zi v1), .int (zi v2)] M S (.inl (some (.int (zi r)))) M S (inR r) := by
  refine zMet_of (by decide) hlt [(0, .ref (zgb g)), (1, .int (zi v1)), (2, .int (zi v2))] rfl (Nat.le_of_ble_eq_true rfl) (fun K hC hE hN => ?_)
  have hlnR : inR ln := by rw [hln]; exact ⟨by omega, by omega⟩
  have hscrR : ∀ i, inR (scr i) := by intro i; rw [hscr]; exact cR_zscr _ i
  unfold F_L_pick at h
  refine j_sload_n hC 0 dL_pick_0 rfl rfl ?_
  refine j_iload_n hC 1 dL_pick_1 rfl rfl ?_
  obtain ⟨r1, hy, h⟩ := zb1_ex h
  refine j_callSi hC hE lk_L_9 dL_pick_2 (c_L_cell l hlt g hL ln hln scr hscr v1 hv1 M S hF hy) [.ref (zgb g), .int (zi v1)] [] rfl rfl rfl (zcat (Nat.le_of_ble_eq_true rfl)) (Nat.le_of_ble_eq_true rfl) (Nat.le_of_ble_eq_true rfl) (Nat.le_of_ble_eq_true rfl) (Nat.le_of_ble_eq_true rfl) (fun hp2 => ?_)
  have hr1 := hp2
  refine j_bipush hC dL_pick_5 rfl ?_
  refine j_iushr hC dL_pick_7 ?_
  refine j_iload_n hC 2 dL_pick_8 rfl rfl ?_
  obtain ⟨c3, h⟩ := zchk_ex h
  refine j_irem hC dL_pick_9 (w_id hv2) c3 ?_
  have e1 := Option.some.inj h
  exact j_iret hC hE dL_pick_10 (w_id (cR_zrem _ _)) (zn_i _) (by rw [← e1]) rfl rfl (by rw [← e1]; exact (cR_zrem _ _)) (Nat.le_of_ble_eq_true rfl) (Nat.le_of_ble_eq_true rfl)
set_option maxHeartbeats 4000000 in
set_option maxRecDepth 100000 in
theorem c_L_define (l : Launch) (hlt : l.stackTraces = false) (g : zG) (v1 : Nat) (M : zM) (S : zS) (hF : zFx S) {r : Int} {M' : zM} {S' : zS} (h : F_L_define v1 M S = some (r, M', S')) : zMetH l g yL_define cL_define 3 (some .int) [(25, 29, 30, 34), (25, 29, 33, 36)] 47 (6000 - S.1) (1000 * (6000 - S.1)) [zr g 1, zr g v1] M S (.inl (some (.int (zi r)))) M' S' (inR r ∧ zFx S') := by
  refine zMetH_ofL (by decide) hlt [(0, zr g 1), (1, zr g v1)] (by simp only [lv_args, zr_cat, zc_i, zc_l, zc_d, zc_r] <;> rfl) (by rw [zsl_len]; simp only [List.map_cons, List.map_nil, zr_cat, zc_i, zc_l, zc_d, zc_r, List.sum_cons, List.sum_nil] <;> decide) (zFx_cnt hF) (fun K hC hE hTb hK0 => ?_)
  obtain ⟨S0, eS0⟩ : ∃ S0 : zS, S0 = S := ⟨S, rfl⟩
  rw [← eS0] at hK0 hE
  refine j_tight hK0 ?_
  unfold F_L_define at h
  have J_25 : ∀ (M : zM) (S : zS) (hF : zFx S) (_ : F_L_define_J25 M S = some (r, M', S')), zJ K g (S.1 - S0.1) (1000 * (S.1 - S0.1)) 25 3 [(0, zr g 1)] [] M S := by
    intro M S hF h
    unfold F_L_define_J25 at h
    refine j_aload_n hC 0 dL_define_25 rfl rfl ?_
    obtain ⟨cp1, h⟩ := zchk_ex h
    refine j_le hK0 (zFx_cnt hF) (fun hlecp1 => ?_)
    obtain ⟨r5, M3, S4, hy, hx6, hk7⟩ := zbx_ex h
    refine j_callHVi (ci := 7) hC hE lk_L_31 dL_define_26 (c_X10_define l hlt g M S hF hy) [] [] (zFx_kd hF 1 rfl) ⟨_, rfl, by decide, rfl⟩ rfl rfl rfl (zcat (Nat.le_of_ble_eq_true rfl)) (Nat.le_of_ble_eq_true rfl) (Nat.le_of_ble_eq_true rfl) (by omega) (by omega) (fun e he hp8 => ?_) (fun r2 he hp8 => ?_)
    · have h := hx6 e he
      subst he
      have hF9 := hp8.2
      by_cases c14 : e = 1
      · subst c14
        have h := zt rfl h
        refine j_catch hC hTb (pre := []) (x := (25, 29, 30, 34)) (suf := [(25, 29, 33, 36)]) rfl (fun z hz => by cases hz) (Nat.le_of_ble_eq_true rfl) (Nat.le_of_ble_eq_true rfl) (by decide) cl_L_34 kc_1 (fun qx => ?_)
        refine j_tight hK0 ?_
        refine j_sstore_n hC dL_define_30 rfl (Nat.le_of_ble_eq_true rfl) rfl ?_
        refine j_iconst hC dL_define_31 ?_
        obtain ⟨cp11, h⟩ := zchk_ex h
        refine j_le hK0 (zFx_cnt hF9) (fun hlecp11 => ?_)
        obtain ⟨e1, e2, e3⟩ := zpr3 (Option.some.inj h)
        exact j_iret hC hE dL_define_32 (w_id kR_m1) (zn_i _) (by rw [← e1]) e2 e3 ⟨(by rw [← e1]; exact kR_m1), (by rw [← e3]; exact hF9)⟩ (by omega) (by omega)
      have h := zf c14 h
      by_cases c15 : e = 0
      · subst c15
        have h := zt rfl h
        refine j_catch hC hTb (pre := [(25, 29, 30, 34)]) (x := (25, 29, 33, 36)) (suf := []) rfl (List.forall_mem_cons.mpr ⟨⟨by decide, _, cl_L_34, by decide +kernel⟩, (fun z hz => by cases hz)⟩) (Nat.le_of_ble_eq_true rfl) (Nat.le_of_ble_eq_true rfl) (by decide) cl_L_36 kc_0 (fun qx => ?_)
        refine j_tight hK0 ?_
        refine j_sstore_n hC dL_define_33 rfl (Nat.le_of_ble_eq_true rfl) rfl ?_
        refine j_bipush hC dL_define_34 rfl ?_
        obtain ⟨cp13, h⟩ := zchk_ex h
        refine j_le hK0 (zFx_cnt hF9) (fun hlecp13 => ?_)
        obtain ⟨e1, e2, e3⟩ := zpr3 (Option.some.inj h)
        exact j_iret hC hE dL_define_36 (w_id kR_m2) (zn_i _) (by rw [← e1]) e2 e3 ⟨(by rw [← e1]; exact kR_m2), (by rw [← e3]; exact hF9)⟩ (by omega) (by omega)
      have h := zf c15 h
      cases h
    · have h := hk7 r2 he
      subst he
      dsimp only [zRXi, zRXl] at hp8
      obtain ⟨hr2, hF9⟩ := hp8
      refine j_tight hK0 ?_
      obtain ⟨cp16, h⟩ := zchk_ex h
      refine j_le hK0 (zFx_cnt hF9) (fun hlecp16 => ?_)
      obtain ⟨e1, e2, e3⟩ := zpr3 (Option.some.inj h)
      exact j_iret hC hE dL_define_29 (w_id hr2) (zn_i _) (by rw [← e1]) e2 e3 ⟨(by rw [← e1]; exact hr2), (by rw [← e3]; exact hF9)⟩ (by omega) (by omega)
  have L_2 : ∀ (v1 : Nat) (v2 : Int) (hv2 : inR v2) (M : zM) (S : zS) (hF : zFx S) (_ : F_L_define_L2 v1 v2 M S = some (r, M', S')), zJ K g (S.1 - S0.1) (1000 * (S.1 - S0.1)) 2 3 [(0, zr g 1), (1, zr g v1), (2, .int (zi v2))] [] M S := by
    intro v1 v2 hv2 M S hF h
    unfold F_L_define_L2 at h
    obtain ⟨ex2, hl, hd2⟩ := zb1_ex h
    obtain ⟨bd2, ebd⟩ : ∃ f, f = (fun (s : Int × zM × zS) => F_L_define_B2 v1 s.1 s.2.1 s.2.2) := ⟨_, rfl⟩
    rw [← ebd] at hl
    have main : ∀ (n2 : Nat) (v2 : Int) (hv2 : inR v2) (M : zM) (S : zS) (hF : zFx S) (_ : zloop bd2 n2 (v2, M, S) = some ex2), zJ K g (S.1 - S0.1) (1000 * (S.1 - S0.1)) 2 3 [(0, zr g 1), (1, zr g v1), (2, .int (zi v2))] [] M S := by
      intro n2
      induction n2 with
      | zero => intro v2 hv2 M S hF hl; exact zloop_0 hl
      | succ n2 ih2 =>
        intro v2 hv2 M S hF hl
        obtain ⟨o, h, hT⟩ := zloop_ex hl
        have h : F_L_define_B2 v1 v2 M S = some o := by rw [ebd] at h; exact h
        unfold F_L_define_B2 at h
        refine j_iload_n hC 2 dL_define_2 rfl rfl ?_
        refine j_aload_n hC 1 dL_define_3 rfl rfl ?_
        obtain ⟨cp17, h⟩ := zchk_ex h
        refine j_le hK0 (zFx_cnt hF) (fun hlecp17 => ?_)
        obtain ⟨r18, hy, h⟩ := zb1_ex h
        refine j_lenM hC hE hlt hF lk_L_15 dL_define_4 hy (Nat.le_of_ble_eq_true rfl) (Nat.le_of_ble_eq_true rfl) (by omega) (by omega) (fun hr18 => ?_)
        refine j_icmp_ge hC dL_define_7 rfl (w_id hv2) (w_id hr18) (fun c19 => ?_) (fun c19 => ?_)
        · have h := zf c19 h
          obtain rfl := Option.some.inj h
          have hx2 := hd2
          rw [← show _ = ex2 from hT] at hx2
          refine j_sub [0] rfl ?_
          exact J_25 M S hF hx2
        · have h := zt c19 h
          refine j_aload_n hC 0 dL_define_10 rfl rfl ?_
          refine j_aload_n hC 1 dL_define_11 rfl rfl ?_
          refine j_iload_n hC 2 dL_define_12 rfl rfl ?_
          obtain ⟨cp20, h⟩ := zchk_ex h
          refine j_le hK0 (zFx_cnt hF) (fun hlecp20 => ?_)
          obtain ⟨hk, h⟩ := zchk_ex h
          have hk21 := hk
          obtain ⟨r22, hy, h⟩ := zb1_ex h
          refine j_callVi (ci := 9) hC hE lk_L_21 dL_define_13 (c_J0_charAt_5068e l hlt g v1 v2 hv2 M S hF hy) [.int (zi v2)] [zr g 1] hk21 ⟨_, rfl, by decide, rfl⟩ rfl rfl rfl (zcat (Nat.le_of_ble_eq_true rfl)) (Nat.le_of_ble_eq_true rfl) (Nat.le_of_ble_eq_true rfl) (by omega) (by omega) (fun hp23 => ?_)
          have hr22 := hp23
          refine j_tight hK0 ?_
          obtain ⟨cp24, h⟩ := zchk_ex h
          refine j_le hK0 (zFx_cnt hF) (fun hlecp24 => ?_)
          obtain ⟨r27, M25, S26, hy, hx29, hk30⟩ := zbx_ex h
          refine j_callHVv (ci := 7) hC hE lk_L_25 dL_define_16 (c_X10_append l hlt g r22 hr22 M S hF hy) [.int (zi r22)] [] (zFx_kd hF 1 rfl) ⟨_, rfl, by decide, rfl⟩ rfl rfl rfl (zcat (Nat.le_of_ble_eq_true rfl)) (Nat.le_of_ble_eq_true rfl) (Nat.le_of_ble_eq_true rfl) (by omega) (by omega) (fun e he hp31 => by cases hx29 e he) (fun u28 he hp31 => ?_)
          have h := hk30 u28 he
          subst he
          have hF32 := hp31
          refine j_tight hK0 ?_
          obtain ⟨x33, ex33, h⟩ := zlet_ex h
          have hx33 : inR x33 := by rw [ex33]; exact inR_w _
          refine j_iinc (lv1 := [(2, .int (zi x33)), (0, zr g 1), (1, zr g v1)]) hC 2 dL_define_19 rfl ex33 (Nat.le_of_ble_eq_true rfl) (by simp only [List.filter_cons, List.filter_nil, zr_cat, zc_i, zc_l, zc_d, zc_r] <;> first | rfl | simp [zr_cat]) ?_
          refine j_goto hC dL_define_22 rfl ?_
          obtain rfl := Option.some.inj h
          refine j_sub [1, 2, 0] rfl ?_
          exact ih2 x33 hx33 M25 S26 hF32 hT
    exact main zN v2 hv2 M S hF hl
  refine j_iconst hC dL_define_0 ?_
  refine j_istore_n (lv1 := [(2, .int (zi 0)), (0, zr g 1), (1, zr g v1)]) hC dL_define_1 rfl (Nat.le_of_ble_eq_true rfl) (by simp only [List.filter_cons, List.filter_nil, zr_cat, zc_i, zc_l, zc_d, zc_r] <;> first | rfl | simp [zr_cat]) ?_
  refine j_sub [1, 2, 0] rfl ?_
  exact L_2 v1 0 kR_0 M S hF h
set_option maxHeartbeats 4000000 in
set_option maxRecDepth 100000 in
theorem c_L_letters (l : Launch) (hlt : l.stackTraces = false) (g : zG) (hL : zgL g ≤ 260) (ln : Int) (hln : ln = (zgL g : Int)) (scr : Int → Int) (hscr : scr = zscr (zgx g)) (v1 : Int) (v2 : Int) (v3 : Int) (hv1 : inR v1) (hv2 : inR v2) (hv3 : inR v3) (M : zM) (S : zS) (hF : zFx S) {r : Nat} {M' : zM} {S' : zS} (h : F_L_letters ln scr v1 v2 v3 M S = some (r, M', S')) : zMet l g yL_letters cL_letters 6 (some (.object "java/lang/String")) 8 (6000 - S.1) (1000 * (6000 - S.1)) [.ref (zgb g), .int (zi v1), .int (zi v2), .int (zi v3)] M S (.inl (some (zr g r))) M' S' (zFx S') := by
  refine zMet_ofL (by decide) hlt [(0, .ref (zgb g)), (1, .int (zi v1)), (2, .int (zi v2)), (3, .int (zi v3))] rfl (Nat.le_of_ble_eq_true rfl) (zFx_cnt hF) (fun K hC hE hN hK0 => ?_)
  obtain ⟨S0, eS0⟩ : ∃ S0 : zS, S0 = S := ⟨S, rfl⟩
  rw [← eS0] at hK0 hE
  refine j_tight hK0 ?_
  have hlnR : inR ln := by rw [hln]; exact ⟨by omega, by omega⟩
  have hscrR : ∀ i, inR (scr i) := by intro i; rw [hscr]; exact cR_zscr _ i
  unfold F_L_letters at h
  have J_43 : ∀ (v4 : Nat) (M : zM) (S : zS) (hF : zFx S) (_ : F_L_letters_J43 ln scr v4 M S = some (r, M', S')), zJ K g (S.1 - S0.1) (1000 * (S.1 - S0.1)) 43 6 [(4, zr g v4)] [] M S := by
    intro v4 M S hF h
    unfold F_L_letters_J43 at h
    refine j_aload hC 0 dL_letters_43 rfl ?_
    obtain ⟨cp1, h⟩ := zchk_ex h
    refine j_le hK0 (zFx_cnt hF) (fun hlecp1 => ?_)
    obtain ⟨hk, h⟩ := zchk_ex h
    have hk2 := hk
    obtain ⟨r3, M4, S5, hy, h⟩ := zb3_ex h
    refine j_callVr (ci := 8) hC hE lk_L_48 dL_letters_45 (c_J4_toString_0e30d l hlt g v4 M S hF hy) [] [] hk2 ⟨_, rfl, by decide, rfl⟩ rfl rfl rfl (zcat (Nat.le_of_ble_eq_true rfl)) (Nat.le_of_ble_eq_true rfl) (Nat.le_of_ble_eq_true rfl) (by omega) (by omega) (fun hp6 => ?_)
    have hF7 := hp6
    refine j_tight hK0 ?_
    obtain ⟨cp8, h⟩ := zchk_ex h
    refine j_le hK0 (zFx_cnt hF7) (fun hlecp8 => ?_)
    obtain ⟨e1, e2, e3⟩ := zpr3 (Option.some.inj h)
    exact j_aret hC hE dL_letters_48 (by rw [← e1]) e2 e3 (by rw [← e3]; exact hF7) (by omega) (by omega)
  have L_12 : ∀ (v1 : Int) (v2 : Int) (v3 : Int) (v4 : Nat) (v5 : Int) (hv1 : inR v1) (hv2 : inR v2) (hv3 : inR v3) (hv5 : inR v5) (M : zM) (S : zS) (hF : zFx S) (_ : F_L_letters_L12 ln scr v1 v2 v3 v4 v5 M S = some (r, M', S')), zJ K g (S.1 - S0.1) (1000 * (S.1 - S0.1)) 12 6 [(0, .ref (zgb g)), (1, .int (zi v1)), (2, .int (zi v2)), (3, .int (zi v3)), (4, zr g v4), (5, .int (zi v5))] [] M S := by
    intro v1 v2 v3 v4 v5 hv1 hv2 hv3 hv5 M S hF h
    unfold F_L_letters_L12 at h
    obtain ⟨ex12, hl, hd12⟩ := zb1_ex h
    obtain ⟨bd12, ebd⟩ : ∃ f, f = (fun (s : Int × zM × zS) => F_L_letters_B12 ln scr v1 v2 v3 v4 s.1 s.2.1 s.2.2) := ⟨_, rfl⟩
    rw [← ebd] at hl
    have main : ∀ (n12 : Nat) (v5 : Int) (hv5 : inR v5) (M : zM) (S : zS) (hF : zFx S) (_ : zloop bd12 n12 (v5, M, S) = some ex12), zJ K g (S.1 - S0.1) (1000 * (S.1 - S0.1)) 12 6 [(0, .ref (zgb g)), (1, .int (zi v1)), (2, .int (zi v2)), (3, .int (zi v3)), (4, zr g v4), (5, .int (zi v5))] [] M S := by
      intro n12
      induction n12 with
      | zero => intro v5 hv5 M S hF hl; exact zloop_0 hl
      | succ n12 ih12 =>
        intro v5 hv5 M S hF hl
        obtain ⟨o, h, hT⟩ := zloop_ex hl
        have h : F_L_letters_B12 ln scr v1 v2 v3 v4 v5 M S = some o := by rw [ebd] at h; exact h
        unfold F_L_letters_B12 at h
        refine j_iload hC 5 dL_letters_12 rfl ?_
        refine j_iload_n hC 2 dL_letters_14 rfl rfl ?_
        refine j_icmp_ge hC dL_letters_15 rfl (w_id hv5) (w_id hv2) (fun c9 => ?_) (fun c9 => ?_)
        · have h := zf c9 h
          obtain rfl := Option.some.inj h
          have hx12 := hd12
          rw [← show _ = ex12 from hT] at hx12
          refine j_sub [4] rfl ?_
          exact J_43 v4 M S hF hx12
        · have h := zt c9 h
          refine j_aload hC 4 dL_letters_18 rfl ?_
          refine j_bipush hC dL_letters_20 rfl ?_
          refine j_sload_n hC 0 dL_letters_22 rfl rfl ?_
          refine j_iload_n hC 1 dL_letters_23 rfl rfl ?_
          refine j_iload hC 5 dL_letters_24 rfl ?_
          refine j_iadd hC dL_letters_26 ?_
          refine j_iload_n hC 3 dL_letters_27 rfl rfl ?_
          obtain ⟨cp10, h⟩ := zchk_ex h
          refine j_le hK0 (zFx_cnt hF) (fun hlecp10 => ?_)
          obtain ⟨r11, hy, h⟩ := zb1_ex h
          refine j_callSi hC hE lk_L_41 dL_letters_28 (c_L_pick l hlt g hL ln hln scr hscr (w (v1 + v5)) v3 (inR_w _) hv3 M S hF hy) [.ref (zgb g), .int (zi (v1 + v5)), .int (zi v3)] [.int (zi 97), zr g v4] rfl (by simp only [zi_w, zl_wl]) rfl (zcat (Nat.le_of_ble_eq_true rfl)) (Nat.le_of_ble_eq_true rfl) (Nat.le_of_ble_eq_true rfl) (by omega) (by omega) (fun hp12 => ?_)
          have hr11 := hp12
          refine j_tight hK0 ?_
          refine j_iadd hC dL_letters_31 ?_
          refine j_i2c hC dL_letters_32 ?_
          obtain ⟨cp13, h⟩ := zchk_ex h
          refine j_le hK0 (zFx_cnt hF) (fun hlecp13 => ?_)
          obtain ⟨hk, h⟩ := zchk_ex h
          have hk14 := hk
          obtain ⟨r15, M16, S17, hy, h⟩ := zb3_ex h
          refine j_callVr (ci := 8) hC hE lk_L_45 dL_letters_33 (c_J4_append_cf468 l hlt g v4 (zi2c (97 + r11)) (cR_zi2c _) M S hF hy) [.int (zi (zi2c (97 + r11)))] [] hk14 ⟨_, rfl, by decide, rfl⟩ rfl rfl rfl (zcat (Nat.le_of_ble_eq_true rfl)) (Nat.le_of_ble_eq_true rfl) (Nat.le_of_ble_eq_true rfl) (by omega) (by omega) (fun hp18 => ?_)
          have hF19 := hp18
          refine j_tight hK0 ?_
          refine j_pop hC dL_letters_36 (zr_cat _ _) ?_
          obtain ⟨x20, ex20, h⟩ := zlet_ex h
          have hx20 : inR x20 := by rw [ex20]; exact inR_w _
          refine j_iinc (lv1 := [(5, .int (zi x20)), (0, .ref (zgb g)), (1, .int (zi v1)), (2, .int (zi v2)), (3, .int (zi v3)), (4, zr g v4)]) hC 5 dL_letters_37 rfl ex20 (Nat.le_of_ble_eq_true rfl) (by simp only [List.filter_cons, List.filter_nil, zr_cat, zc_i, zc_l, zc_d, zc_r] <;> first | rfl | simp [zr_cat]) ?_
          refine j_goto hC dL_letters_40 rfl ?_
          obtain rfl := Option.some.inj h
          refine j_sub [1, 2, 3, 4, 5, 0] rfl ?_
          exact ih12 x20 hx20 M16 S17 hF19 hT
    exact main zN v5 hv5 M S hF hl
  obtain ⟨q21, eq21, h⟩ := zlet_ex h
  obtain ⟨cp22, h⟩ := zchk_ex h
  refine j_le hK0 (zFx_cnt hF) (fun hlecp22 => ?_)
  obtain ⟨M23, eM23, h⟩ := zlet_ex h
  refine j_fresh1 eq21 eM23 ?_
  obtain ⟨S24, eS24, h⟩ := zlet_ex h
  refine j_new hC hE n_L_38 pF_J4 dL_letters_0 eq21 eS24 (Or.inr ⟨zFx_cnt hF, (Nat.le_of_ble_eq_true rfl)⟩) (by omega) (by omega) ?_
  have hF25 : zFx S24 := zFx_zn hF eS24
  refine j_tight hK0 ?_
  refine j_dup hC dL_letters_3 (zr_cat _ _) ?_
  obtain ⟨cp26, h⟩ := zchk_ex h
  refine j_le hK0 (zFx_cnt hF25) (fun hlecp26 => ?_)
  obtain ⟨M27, S28, hy, h⟩ := zb2_ex h
  refine j_callIv hC hE lk_L_40 dL_letters_4 (c_J4_init_da8c8 l hlt g q21 M23 S24 hF25 hy) [] [zr g q21] (by rw [eq21]; exact Nat.succ_ne_zero _) rfl rfl rfl (zcat (Nat.le_of_ble_eq_true rfl)) (Nat.le_of_ble_eq_true rfl) (Nat.le_of_ble_eq_true rfl) (by omega) (by omega) (fun hp29 => ?_)
  have hF30 := hp29
  refine j_tight hK0 ?_
  refine j_astore hC dL_letters_7 (Nat.le_of_ble_eq_true rfl) rfl ?_
  refine j_iconst hC dL_letters_9 ?_
  refine j_istore (lv1 := [(5, .int (zi 0)), (4, zr g q21), (0, .ref (zgb g)), (1, .int (zi v1)), (2, .int (zi v2)), (3, .int (zi v3))]) hC dL_letters_10 (Nat.le_of_ble_eq_true rfl) (by simp only [List.filter_cons, List.filter_nil, zr_cat, zc_i, zc_l, zc_d, zc_r] <;> first | rfl | simp [zr_cat]) ?_
  refine j_sub [2, 3, 4, 5, 1, 0] rfl ?_
  exact L_12 v1 v2 v3 q21 0 hv1 hv2 hv3 kR_0 M27 S28 hF30 h
set_option maxHeartbeats 4000000 in
set_option maxRecDepth 100000 in
theorem c_L_selector (l : Launch) (hlt : l.stackTraces = false) (g : zG) (hL : zgL g ≤ 260) (ln : Int) (hln : ln = (zgL g : Int)) (scr : Int → Int) (hscr : scr = zscr (zgx g)) (v1 : Int) (hv1 : inR v1) (M : zM) (S : zS) (hF : zFx S) {r : Nat} {M' : zM} {S' : zS} (h : F_L_selector ln scr v1 M S = some (r, M', S')) : zMet l g yL_selector cL_selector 2 (some (.object "java/lang/String")) 12 (6000 - S.1) (1000 * (6000 - S.1)) [.ref (zgb g), .int (zi v1)] M S (.inl (some (zr g r))) M' S' (zFx S') := by
  refine zMet_ofL (by decide) hlt [(0, .ref (zgb g)), (1, .int (zi v1))] rfl (Nat.le_of_ble_eq_true rfl) (zFx_cnt hF) (fun K hC hE hN hK0 => ?_)
  obtain ⟨S0, eS0⟩ : ∃ S0 : zS, S0 = S := ⟨S, rfl⟩
  rw [← eS0] at hK0 hE
  refine j_tight hK0 ?_
  have hlnR : inR ln := by rw [hln]; exact ⟨by omega, by omega⟩
  have hscrR : ∀ i, inR (scr i) := by intro i; rw [hscr]; exact cR_zscr _ i
  unfold F_L_selector at h
  refine j_sload_n hC 0 dL_selector_0 rfl rfl ?_
  refine j_iload_n hC 1 dL_selector_1 rfl rfl ?_
  refine j_bipush hC dL_selector_2 rfl ?_
  obtain ⟨cp1, h⟩ := zchk_ex h
  refine j_le hK0 (zFx_cnt hF) (fun hlecp1 => ?_)
  obtain ⟨r2, hy, h⟩ := zb1_ex h
  refine j_callSi hC hE lk_L_41 dL_selector_4 (c_L_pick l hlt g hL ln hln scr hscr v1 7 hv1 kR_7 M S hF hy) [.ref (zgb g), .int (zi v1), .int (zi 7)] [] rfl rfl rfl (zcat (Nat.le_of_ble_eq_true rfl)) (Nat.le_of_ble_eq_true rfl) (Nat.le_of_ble_eq_true rfl) (by omega) (by omega) (fun hp3 => ?_)
  have hr2 := hp3
  refine j_tight hK0 ?_
  by_cases c4 : r2 = 0
  · have h := zt c4 h
    refine j_tswIn hC 0 dL_selector_7 (w_id hr2) c4 (by decide) (by decide) rfl rfl ?_
    refine j_ldcq hC dL_selector_44 zss_L_52 (Nat.le_of_ble_eq_true rfl) ?_
    obtain ⟨cp5, h⟩ := zchk_ex h
    refine j_le hK0 (zFx_cnt hF) (fun hlecp5 => ?_)
    obtain ⟨e1, e2, e3⟩ := zpr3 (Option.some.inj h)
    exact j_aret hC hE dL_selector_46 (by rw [← e1]) e2 e3 (by rw [← e3]; exact hF) (by omega) (by omega)
  have h := zf c4 h
  by_cases c6 : r2 = 1
  · have h := zt c6 h
    refine j_tswIn hC 1 dL_selector_7 (w_id hr2) c6 (by decide) (by decide) rfl rfl ?_
    obtain ⟨q7, eq7, h⟩ := zlet_ex h
    obtain ⟨cp8, h⟩ := zchk_ex h
    refine j_le hK0 (zFx_cnt hF) (fun hlecp8 => ?_)
    obtain ⟨M9, eM9, h⟩ := zlet_ex h
    refine j_fresh1 eq7 eM9 ?_
    obtain ⟨S10, eS10, h⟩ := zlet_ex h
    refine j_new hC hE n_L_38 pF_J4 dL_selector_47 eq7 eS10 (Or.inr ⟨zFx_cnt hF, (Nat.le_of_ble_eq_true rfl)⟩) (by omega) (by omega) ?_
    have hF11 : zFx S10 := zFx_zn hF eS10
    refine j_tight hK0 ?_
    refine j_dup hC dL_selector_50 (zr_cat _ _) ?_
    obtain ⟨cp12, h⟩ := zchk_ex h
    refine j_le hK0 (zFx_cnt hF11) (fun hlecp12 => ?_)
    obtain ⟨M13, S14, hy, h⟩ := zb2_ex h
    refine j_callIv hC hE lk_L_40 dL_selector_51 (c_J4_init_da8c8 l hlt g q7 M9 S10 hF11 hy) [] [zr g q7] (by rw [eq7]; exact Nat.succ_ne_zero _) rfl rfl rfl (zcat (Nat.le_of_ble_eq_true rfl)) (Nat.le_of_ble_eq_true rfl) (Nat.le_of_ble_eq_true rfl) (by omega) (by omega) (fun hp15 => ?_)
    have hF16 := hp15
    refine j_tight hK0 ?_
    refine j_ldcq hC dL_selector_54 zss_L_54 (Nat.le_of_ble_eq_true rfl) ?_
    obtain ⟨cp17, h⟩ := zchk_ex h
    refine j_le hK0 (zFx_cnt hF16) (fun hlecp17 => ?_)
    obtain ⟨hk, h⟩ := zchk_ex h
    have hk18 := hk
    obtain ⟨r19, M20, S21, hy, h⟩ := zb3_ex h
    refine j_callVr (ci := 8) hC hE lk_L_56 dL_selector_56 (c_J4_append_15ec4 l hlt g q7 58 M13 S14 hF16 hy) [zr g 58] [] hk18 ⟨_, rfl, by decide, rfl⟩ rfl rfl rfl (zcat (Nat.le_of_ble_eq_true rfl)) (Nat.le_of_ble_eq_true rfl) (Nat.le_of_ble_eq_true rfl) (by omega) (by omega) (fun hp22 => ?_)
    have hF23 := hp22
    refine j_tight hK0 ?_
    refine j_sload_n hC 0 dL_selector_59 rfl rfl ?_
    refine j_iload_n hC 1 dL_selector_60 rfl rfl ?_
    refine j_iconst hC dL_selector_61 ?_
    refine j_iadd hC dL_selector_62 ?_
    refine j_iconst hC dL_selector_63 ?_
    obtain ⟨cp24, h⟩ := zchk_ex h
    refine j_le hK0 (zFx_cnt hF23) (fun hlecp24 => ?_)
    obtain ⟨r25, hy, h⟩ := zb1_ex h
    refine j_callSi hC hE lk_L_41 dL_selector_64 (c_L_pick l hlt g hL ln hln scr hscr (w (v1 + 1)) 5 (inR_w _) kR_5 M20 S21 hF23 hy) [.ref (zgb g), .int (zi (v1 + 1)), .int (zi 5)] [zr g r19] rfl (by simp only [zi_w, zl_wl]) rfl (zcat (Nat.le_of_ble_eq_true rfl)) (Nat.le_of_ble_eq_true rfl) (Nat.le_of_ble_eq_true rfl) (by omega) (by omega) (fun hp26 => ?_)
    have hr25 := hp26
    refine j_tight hK0 ?_
    obtain ⟨cp27, h⟩ := zchk_ex h
    refine j_le hK0 (zFx_cnt hF23) (fun hlecp27 => ?_)
    obtain ⟨hk, h⟩ := zchk_ex h
    have hk28 := hk
    obtain ⟨r29, M30, S31, hy, h⟩ := zb3_ex h
    refine j_callVr (ci := 8) hC hE lk_L_59 dL_selector_67 (c_J4_append_bf812 l hlt g r19 r25 hr25 M20 S21 hF23 hy) [.int (zi r25)] [] hk28 ⟨_, rfl, by decide, rfl⟩ rfl rfl rfl (zcat (Nat.le_of_ble_eq_true rfl)) (Nat.le_of_ble_eq_true rfl) (Nat.le_of_ble_eq_true rfl) (by omega) (by omega) (fun hp32 => ?_)
    have hF33 := hp32
    refine j_tight hK0 ?_
    obtain ⟨cp34, h⟩ := zchk_ex h
    refine j_le hK0 (zFx_cnt hF33) (fun hlecp34 => ?_)
    obtain ⟨hk, h⟩ := zchk_ex h
    have hk35 := hk
    obtain ⟨r36, M37, S38, hy, h⟩ := zb3_ex h
    refine j_callVr (ci := 8) hC hE lk_L_48 dL_selector_70 (c_J4_toString_0e30d l hlt g r29 M30 S31 hF33 hy) [] [] hk35 ⟨_, rfl, by decide, rfl⟩ rfl rfl rfl (zcat (Nat.le_of_ble_eq_true rfl)) (Nat.le_of_ble_eq_true rfl) (Nat.le_of_ble_eq_true rfl) (by omega) (by omega) (fun hp39 => ?_)
    have hF40 := hp39
    refine j_tight hK0 ?_
    obtain ⟨cp41, h⟩ := zchk_ex h
    refine j_le hK0 (zFx_cnt hF40) (fun hlecp41 => ?_)
    obtain ⟨e1, e2, e3⟩ := zpr3 (Option.some.inj h)
    exact j_aret hC hE dL_selector_73 (by rw [← e1]) e2 e3 (by rw [← e3]; exact hF40) (by omega) (by omega)
  have h := zf c6 h
  by_cases c42 : r2 = 2
  · have h := zt c42 h
    refine j_tswIn hC 2 dL_selector_7 (w_id hr2) c42 (by decide) (by decide) rfl rfl ?_
    obtain ⟨q43, eq43, h⟩ := zlet_ex h
    obtain ⟨cp44, h⟩ := zchk_ex h
    refine j_le hK0 (zFx_cnt hF) (fun hlecp44 => ?_)
    obtain ⟨M45, eM45, h⟩ := zlet_ex h
    refine j_fresh1 eq43 eM45 ?_
    obtain ⟨S46, eS46, h⟩ := zlet_ex h
    refine j_new hC hE n_L_38 pF_J4 dL_selector_74 eq43 eS46 (Or.inr ⟨zFx_cnt hF, (Nat.le_of_ble_eq_true rfl)⟩) (by omega) (by omega) ?_
    have hF47 : zFx S46 := zFx_zn hF eS46
    refine j_tight hK0 ?_
    refine j_dup hC dL_selector_77 (zr_cat _ _) ?_
    obtain ⟨cp48, h⟩ := zchk_ex h
    refine j_le hK0 (zFx_cnt hF47) (fun hlecp48 => ?_)
    obtain ⟨M49, S50, hy, h⟩ := zb2_ex h
    refine j_callIv hC hE lk_L_40 dL_selector_78 (c_J4_init_da8c8 l hlt g q43 M45 S46 hF47 hy) [] [zr g q43] (by rw [eq43]; exact Nat.succ_ne_zero _) rfl rfl rfl (zcat (Nat.le_of_ble_eq_true rfl)) (Nat.le_of_ble_eq_true rfl) (Nat.le_of_ble_eq_true rfl) (by omega) (by omega) (fun hp51 => ?_)
    have hF52 := hp51
    refine j_tight hK0 ?_
    refine j_ldcq hC dL_selector_81 zss_L_62 (Nat.le_of_ble_eq_true rfl) ?_
    obtain ⟨cp53, h⟩ := zchk_ex h
    refine j_le hK0 (zFx_cnt hF52) (fun hlecp53 => ?_)
    obtain ⟨hk, h⟩ := zchk_ex h
    have hk54 := hk
    obtain ⟨r55, M56, S57, hy, h⟩ := zb3_ex h
    refine j_callVr (ci := 8) hC hE lk_L_56 dL_selector_83 (c_J4_append_15ec4 l hlt g q43 59 M49 S50 hF52 hy) [zr g 59] [] hk54 ⟨_, rfl, by decide, rfl⟩ rfl rfl rfl (zcat (Nat.le_of_ble_eq_true rfl)) (Nat.le_of_ble_eq_true rfl) (Nat.le_of_ble_eq_true rfl) (by omega) (by omega) (fun hp58 => ?_)
    have hF59 := hp58
    refine j_tight hK0 ?_
    refine j_sload_n hC 0 dL_selector_86 rfl rfl ?_
    refine j_iload_n hC 1 dL_selector_87 rfl rfl ?_
    refine j_iconst hC dL_selector_88 ?_
    refine j_iadd hC dL_selector_89 ?_
    refine j_iconst hC dL_selector_90 ?_
    refine j_sload_n hC 0 dL_selector_91 rfl rfl ?_
    refine j_iload_n hC 1 dL_selector_92 rfl rfl ?_
    refine j_iconst hC dL_selector_93 ?_
    refine j_iadd hC dL_selector_94 ?_
    refine j_iconst hC dL_selector_95 ?_
    obtain ⟨cp60, h⟩ := zchk_ex h
    refine j_le hK0 (zFx_cnt hF59) (fun hlecp60 => ?_)
    obtain ⟨r61, hy, h⟩ := zb1_ex h
    refine j_callSi hC hE lk_L_41 dL_selector_96 (c_L_pick l hlt g hL ln hln scr hscr (w (v1 + 4)) 2 (inR_w _) kR_2 M56 S57 hF59 hy) [.ref (zgb g), .int (zi (v1 + 4)), .int (zi 2)] [.int (zi 1), .int (zi (v1 + 1)), .ref (zgb g), zr g r55] rfl (by simp only [zi_w, zl_wl]) rfl (zcat (Nat.le_of_ble_eq_true rfl)) (Nat.le_of_ble_eq_true rfl) (Nat.le_of_ble_eq_true rfl) (by omega) (by omega) (fun hp62 => ?_)
    have hr61 := hp62
    refine j_tight hK0 ?_
    refine j_iadd hC dL_selector_99 ?_
    refine j_iconst hC dL_selector_100 ?_
    obtain ⟨cp63, h⟩ := zchk_ex h
    refine j_le hK0 (zFx_cnt hF59) (fun hlecp63 => ?_)
    obtain ⟨r64, M65, S66, hy, h⟩ := zb3_ex h
    refine j_callSr hC hE lk_L_64 dL_selector_101 (c_L_letters l hlt g hL ln hln scr hscr (w (v1 + 1)) (w (1 + r61)) 2 (inR_w _) (inR_w _) kR_2 M56 S57 hF59 hy) [.ref (zgb g), .int (zi (v1 + 1)), .int (zi (1 + r61)), .int (zi 2)] [zr g r55] rfl (by simp only [zi_w, zl_wl]) rfl (zcat (Nat.le_of_ble_eq_true rfl)) (Nat.le_of_ble_eq_true rfl) (Nat.le_of_ble_eq_true rfl) (by omega) (by omega) (fun hp67 => ?_)
    have hF68 := hp67
    refine j_tight hK0 ?_
    obtain ⟨cp69, h⟩ := zchk_ex h
    refine j_le hK0 (zFx_cnt hF68) (fun hlecp69 => ?_)
    obtain ⟨hk, h⟩ := zchk_ex h
    have hk70 := hk
    obtain ⟨r71, M72, S73, hy, h⟩ := zb3_ex h
    refine j_callVr (ci := 8) hC hE lk_L_56 dL_selector_104 (c_J4_append_15ec4 l hlt g r55 r64 M65 S66 hF68 hy) [zr g r64] [] hk70 ⟨_, rfl, by decide, rfl⟩ rfl rfl rfl (zcat (Nat.le_of_ble_eq_true rfl)) (Nat.le_of_ble_eq_true rfl) (Nat.le_of_ble_eq_true rfl) (by omega) (by omega) (fun hp74 => ?_)
    have hF75 := hp74
    refine j_tight hK0 ?_
    obtain ⟨cp76, h⟩ := zchk_ex h
    refine j_le hK0 (zFx_cnt hF75) (fun hlecp76 => ?_)
    obtain ⟨hk, h⟩ := zchk_ex h
    have hk77 := hk
    obtain ⟨r78, M79, S80, hy, h⟩ := zb3_ex h
    refine j_callVr (ci := 8) hC hE lk_L_48 dL_selector_107 (c_J4_toString_0e30d l hlt g r71 M72 S73 hF75 hy) [] [] hk77 ⟨_, rfl, by decide, rfl⟩ rfl rfl rfl (zcat (Nat.le_of_ble_eq_true rfl)) (Nat.le_of_ble_eq_true rfl) (Nat.le_of_ble_eq_true rfl) (by omega) (by omega) (fun hp81 => ?_)
    have hF82 := hp81
    refine j_tight hK0 ?_
    obtain ⟨cp83, h⟩ := zchk_ex h
    refine j_le hK0 (zFx_cnt hF82) (fun hlecp83 => ?_)
    obtain ⟨e1, e2, e3⟩ := zpr3 (Option.some.inj h)
    exact j_aret hC hE dL_selector_110 (by rw [← e1]) e2 e3 (by rw [← e3]; exact hF82) (by omega) (by omega)
  have h := zf c42 h
  by_cases c84 : r2 = 3
  · have h := zt c84 h
    refine j_tswIn hC 3 dL_selector_7 (w_id hr2) c84 (by decide) (by decide) rfl rfl ?_
    obtain ⟨q85, eq85, h⟩ := zlet_ex h
    obtain ⟨cp86, h⟩ := zchk_ex h
    refine j_le hK0 (zFx_cnt hF) (fun hlecp86 => ?_)
    obtain ⟨M87, eM87, h⟩ := zlet_ex h
    refine j_fresh1 eq85 eM87 ?_
    obtain ⟨S88, eS88, h⟩ := zlet_ex h
    refine j_new hC hE n_L_38 pF_J4 dL_selector_111 eq85 eS88 (Or.inr ⟨zFx_cnt hF, (Nat.le_of_ble_eq_true rfl)⟩) (by omega) (by omega) ?_
    have hF89 : zFx S88 := zFx_zn hF eS88
    refine j_tight hK0 ?_
    refine j_dup hC dL_selector_114 (zr_cat _ _) ?_
    obtain ⟨cp90, h⟩ := zchk_ex h
    refine j_le hK0 (zFx_cnt hF89) (fun hlecp90 => ?_)
    obtain ⟨M91, S92, hy, h⟩ := zb2_ex h
    refine j_callIv hC hE lk_L_40 dL_selector_115 (c_J4_init_da8c8 l hlt g q85 M87 S88 hF89 hy) [] [zr g q85] (by rw [eq85]; exact Nat.succ_ne_zero _) rfl rfl rfl (zcat (Nat.le_of_ble_eq_true rfl)) (Nat.le_of_ble_eq_true rfl) (Nat.le_of_ble_eq_true rfl) (by omega) (by omega) (fun hp93 => ?_)
    have hF94 := hp93
    refine j_tight hK0 ?_
    refine j_ldcq hC dL_selector_118 zss_L_68 (Nat.le_of_ble_eq_true rfl) ?_
    obtain ⟨cp95, h⟩ := zchk_ex h
    refine j_le hK0 (zFx_cnt hF94) (fun hlecp95 => ?_)
    obtain ⟨hk, h⟩ := zchk_ex h
    have hk96 := hk
    obtain ⟨r97, M98, S99, hy, h⟩ := zb3_ex h
    refine j_callVr (ci := 8) hC hE lk_L_56 dL_selector_120 (c_J4_append_15ec4 l hlt g q85 60 M91 S92 hF94 hy) [zr g 60] [] hk96 ⟨_, rfl, by decide, rfl⟩ rfl rfl rfl (zcat (Nat.le_of_ble_eq_true rfl)) (Nat.le_of_ble_eq_true rfl) (Nat.le_of_ble_eq_true rfl) (by omega) (by omega) (fun hp100 => ?_)
    have hF101 := hp100
    refine j_tight hK0 ?_
    refine j_sload_n hC 0 dL_selector_123 rfl rfl ?_
    refine j_iload_n hC 1 dL_selector_124 rfl rfl ?_
    refine j_iconst hC dL_selector_125 ?_
    refine j_iadd hC dL_selector_126 ?_
    refine j_iconst hC dL_selector_127 ?_
    refine j_sload_n hC 0 dL_selector_128 rfl rfl ?_
    refine j_iload_n hC 1 dL_selector_129 rfl rfl ?_
    refine j_iconst hC dL_selector_130 ?_
    refine j_iadd hC dL_selector_131 ?_
    refine j_iconst hC dL_selector_132 ?_
    obtain ⟨cp102, h⟩ := zchk_ex h
    refine j_le hK0 (zFx_cnt hF101) (fun hlecp102 => ?_)
    obtain ⟨r103, hy, h⟩ := zb1_ex h
    refine j_callSi hC hE lk_L_41 dL_selector_133 (c_L_pick l hlt g hL ln hln scr hscr (w (v1 + 4)) 2 (inR_w _) kR_2 M98 S99 hF101 hy) [.ref (zgb g), .int (zi (v1 + 4)), .int (zi 2)] [.int (zi 1), .int (zi (v1 + 1)), .ref (zgb g), zr g r97] rfl (by simp only [zi_w, zl_wl]) rfl (zcat (Nat.le_of_ble_eq_true rfl)) (Nat.le_of_ble_eq_true rfl) (Nat.le_of_ble_eq_true rfl) (by omega) (by omega) (fun hp104 => ?_)
    have hr103 := hp104
    refine j_tight hK0 ?_
    refine j_iadd hC dL_selector_136 ?_
    refine j_iconst hC dL_selector_137 ?_
    obtain ⟨cp105, h⟩ := zchk_ex h
    refine j_le hK0 (zFx_cnt hF101) (fun hlecp105 => ?_)
    obtain ⟨r106, M107, S108, hy, h⟩ := zb3_ex h
    refine j_callSr hC hE lk_L_64 dL_selector_138 (c_L_letters l hlt g hL ln hln scr hscr (w (v1 + 1)) (w (1 + r103)) 2 (inR_w _) (inR_w _) kR_2 M98 S99 hF101 hy) [.ref (zgb g), .int (zi (v1 + 1)), .int (zi (1 + r103)), .int (zi 2)] [zr g r97] rfl (by simp only [zi_w, zl_wl]) rfl (zcat (Nat.le_of_ble_eq_true rfl)) (Nat.le_of_ble_eq_true rfl) (Nat.le_of_ble_eq_true rfl) (by omega) (by omega) (fun hp109 => ?_)
    have hF110 := hp109
    refine j_tight hK0 ?_
    obtain ⟨cp111, h⟩ := zchk_ex h
    refine j_le hK0 (zFx_cnt hF110) (fun hlecp111 => ?_)
    obtain ⟨hk, h⟩ := zchk_ex h
    have hk112 := hk
    obtain ⟨r113, M114, S115, hy, h⟩ := zb3_ex h
    refine j_callVr (ci := 8) hC hE lk_L_56 dL_selector_141 (c_J4_append_15ec4 l hlt g r97 r106 M107 S108 hF110 hy) [zr g r106] [] hk112 ⟨_, rfl, by decide, rfl⟩ rfl rfl rfl (zcat (Nat.le_of_ble_eq_true rfl)) (Nat.le_of_ble_eq_true rfl) (Nat.le_of_ble_eq_true rfl) (by omega) (by omega) (fun hp116 => ?_)
    have hF117 := hp116
    refine j_tight hK0 ?_
    obtain ⟨cp118, h⟩ := zchk_ex h
    refine j_le hK0 (zFx_cnt hF117) (fun hlecp118 => ?_)
    obtain ⟨hk, h⟩ := zchk_ex h
    have hk119 := hk
    obtain ⟨r120, M121, S122, hy, h⟩ := zb3_ex h
    refine j_callVr (ci := 8) hC hE lk_L_48 dL_selector_144 (c_J4_toString_0e30d l hlt g r113 M114 S115 hF117 hy) [] [] hk119 ⟨_, rfl, by decide, rfl⟩ rfl rfl rfl (zcat (Nat.le_of_ble_eq_true rfl)) (Nat.le_of_ble_eq_true rfl) (Nat.le_of_ble_eq_true rfl) (by omega) (by omega) (fun hp123 => ?_)
    have hF124 := hp123
    refine j_tight hK0 ?_
    obtain ⟨cp125, h⟩ := zchk_ex h
    refine j_le hK0 (zFx_cnt hF124) (fun hlecp125 => ?_)
    obtain ⟨e1, e2, e3⟩ := zpr3 (Option.some.inj h)
    exact j_aret hC hE dL_selector_147 (by rw [← e1]) e2 e3 (by rw [← e3]; exact hF124) (by omega) (by omega)
  have h := zf c84 h
  by_cases c126 : r2 = 4
  · have h := zt c126 h
    refine j_tswIn hC 4 dL_selector_7 (w_id hr2) c126 (by decide) (by decide) rfl rfl ?_
    obtain ⟨q127, eq127, h⟩ := zlet_ex h
    obtain ⟨cp128, h⟩ := zchk_ex h
    refine j_le hK0 (zFx_cnt hF) (fun hlecp128 => ?_)
    obtain ⟨M129, eM129, h⟩ := zlet_ex h
    refine j_fresh1 eq127 eM129 ?_
    obtain ⟨S130, eS130, h⟩ := zlet_ex h
    refine j_new hC hE n_L_38 pF_J4 dL_selector_148 eq127 eS130 (Or.inr ⟨zFx_cnt hF, (Nat.le_of_ble_eq_true rfl)⟩) (by omega) (by omega) ?_
    have hF131 : zFx S130 := zFx_zn hF eS130
    refine j_tight hK0 ?_
    refine j_dup hC dL_selector_151 (zr_cat _ _) ?_
    obtain ⟨cp132, h⟩ := zchk_ex h
    refine j_le hK0 (zFx_cnt hF131) (fun hlecp132 => ?_)
    obtain ⟨M133, S134, hy, h⟩ := zb2_ex h
    refine j_callIv hC hE lk_L_40 dL_selector_152 (c_J4_init_da8c8 l hlt g q127 M129 S130 hF131 hy) [] [zr g q127] (by rw [eq127]; exact Nat.succ_ne_zero _) rfl rfl rfl (zcat (Nat.le_of_ble_eq_true rfl)) (Nat.le_of_ble_eq_true rfl) (Nat.le_of_ble_eq_true rfl) (by omega) (by omega) (fun hp135 => ?_)
    have hF136 := hp135
    refine j_tight hK0 ?_
    refine j_ldcq hC dL_selector_155 zss_L_70 (Nat.le_of_ble_eq_true rfl) ?_
    obtain ⟨cp137, h⟩ := zchk_ex h
    refine j_le hK0 (zFx_cnt hF136) (fun hlecp137 => ?_)
    obtain ⟨hk, h⟩ := zchk_ex h
    have hk138 := hk
    obtain ⟨r139, M140, S141, hy, h⟩ := zb3_ex h
    refine j_callVr (ci := 8) hC hE lk_L_56 dL_selector_157 (c_J4_append_15ec4 l hlt g q127 61 M133 S134 hF136 hy) [zr g 61] [] hk138 ⟨_, rfl, by decide, rfl⟩ rfl rfl rfl (zcat (Nat.le_of_ble_eq_true rfl)) (Nat.le_of_ble_eq_true rfl) (Nat.le_of_ble_eq_true rfl) (by omega) (by omega) (fun hp142 => ?_)
    have hF143 := hp142
    refine j_tight hK0 ?_
    refine j_sload_n hC 0 dL_selector_160 rfl rfl ?_
    refine j_iload_n hC 1 dL_selector_161 rfl rfl ?_
    refine j_iconst hC dL_selector_162 ?_
    refine j_iadd hC dL_selector_163 ?_
    refine j_iconst hC dL_selector_164 ?_
    obtain ⟨cp144, h⟩ := zchk_ex h
    refine j_le hK0 (zFx_cnt hF143) (fun hlecp144 => ?_)
    obtain ⟨r145, hy, h⟩ := zb1_ex h
    refine j_callSi hC hE lk_L_41 dL_selector_165 (c_L_pick l hlt g hL ln hln scr hscr (w (v1 + 1)) 2 (inR_w _) kR_2 M140 S141 hF143 hy) [.ref (zgb g), .int (zi (v1 + 1)), .int (zi 2)] [zr g r139] rfl (by simp only [zi_w, zl_wl]) rfl (zcat (Nat.le_of_ble_eq_true rfl)) (Nat.le_of_ble_eq_true rfl) (Nat.le_of_ble_eq_true rfl) (by omega) (by omega) (fun hp146 => ?_)
    have hr145 := hp146
    refine j_tight hK0 ?_
    obtain ⟨cp147, h⟩ := zchk_ex h
    refine j_le hK0 (zFx_cnt hF143) (fun hlecp147 => ?_)
    obtain ⟨hk, h⟩ := zchk_ex h
    have hk148 := hk
    obtain ⟨r149, M150, S151, hy, h⟩ := zb3_ex h
    refine j_callVr (ci := 8) hC hE lk_L_59 dL_selector_168 (c_J4_append_bf812 l hlt g r139 r145 hr145 M140 S141 hF143 hy) [.int (zi r145)] [] hk148 ⟨_, rfl, by decide, rfl⟩ rfl rfl rfl (zcat (Nat.le_of_ble_eq_true rfl)) (Nat.le_of_ble_eq_true rfl) (Nat.le_of_ble_eq_true rfl) (by omega) (by omega) (fun hp152 => ?_)
    have hF153 := hp152
    refine j_tight hK0 ?_
    refine j_ldcq hC dL_selector_171 zss_L_72 (Nat.le_of_ble_eq_true rfl) ?_
    obtain ⟨cp154, h⟩ := zchk_ex h
    refine j_le hK0 (zFx_cnt hF153) (fun hlecp154 => ?_)
    obtain ⟨hk, h⟩ := zchk_ex h
    have hk155 := hk
    obtain ⟨r156, M157, S158, hy, h⟩ := zb3_ex h
    refine j_callVr (ci := 8) hC hE lk_L_56 dL_selector_173 (c_J4_append_15ec4 l hlt g r149 62 M150 S151 hF153 hy) [zr g 62] [] hk155 ⟨_, rfl, by decide, rfl⟩ rfl rfl rfl (zcat (Nat.le_of_ble_eq_true rfl)) (Nat.le_of_ble_eq_true rfl) (Nat.le_of_ble_eq_true rfl) (by omega) (by omega) (fun hp159 => ?_)
    have hF160 := hp159
    refine j_tight hK0 ?_
    refine j_sload_n hC 0 dL_selector_176 rfl rfl ?_
    refine j_iload_n hC 1 dL_selector_177 rfl rfl ?_
    refine j_iconst hC dL_selector_178 ?_
    refine j_iadd hC dL_selector_179 ?_
    refine j_iconst hC dL_selector_180 ?_
    obtain ⟨cp161, h⟩ := zchk_ex h
    refine j_le hK0 (zFx_cnt hF160) (fun hlecp161 => ?_)
    obtain ⟨r162, hy, h⟩ := zb1_ex h
    refine j_callSi hC hE lk_L_41 dL_selector_181 (c_L_pick l hlt g hL ln hln scr hscr (w (v1 + 2)) 4 (inR_w _) kR_4 M157 S158 hF160 hy) [.ref (zgb g), .int (zi (v1 + 2)), .int (zi 4)] [zr g r156] rfl (by simp only [zi_w, zl_wl]) rfl (zcat (Nat.le_of_ble_eq_true rfl)) (Nat.le_of_ble_eq_true rfl) (Nat.le_of_ble_eq_true rfl) (by omega) (by omega) (fun hp163 => ?_)
    have hr162 := hp163
    refine j_tight hK0 ?_
    obtain ⟨cp164, h⟩ := zchk_ex h
    refine j_le hK0 (zFx_cnt hF160) (fun hlecp164 => ?_)
    obtain ⟨hk, h⟩ := zchk_ex h
    have hk165 := hk
    obtain ⟨r166, M167, S168, hy, h⟩ := zb3_ex h
    refine j_callVr (ci := 8) hC hE lk_L_59 dL_selector_184 (c_J4_append_bf812 l hlt g r156 r162 hr162 M157 S158 hF160 hy) [.int (zi r162)] [] hk165 ⟨_, rfl, by decide, rfl⟩ rfl rfl rfl (zcat (Nat.le_of_ble_eq_true rfl)) (Nat.le_of_ble_eq_true rfl) (Nat.le_of_ble_eq_true rfl) (by omega) (by omega) (fun hp169 => ?_)
    have hF170 := hp169
    refine j_tight hK0 ?_
    refine j_ldcq hC dL_selector_187 zss_L_74 (Nat.le_of_ble_eq_true rfl) ?_
    obtain ⟨cp171, h⟩ := zchk_ex h
    refine j_le hK0 (zFx_cnt hF170) (fun hlecp171 => ?_)
    obtain ⟨hk, h⟩ := zchk_ex h
    have hk172 := hk
    obtain ⟨r173, M174, S175, hy, h⟩ := zb3_ex h
    refine j_callVr (ci := 8) hC hE lk_L_56 dL_selector_189 (c_J4_append_15ec4 l hlt g r166 63 M167 S168 hF170 hy) [zr g 63] [] hk172 ⟨_, rfl, by decide, rfl⟩ rfl rfl rfl (zcat (Nat.le_of_ble_eq_true rfl)) (Nat.le_of_ble_eq_true rfl) (Nat.le_of_ble_eq_true rfl) (by omega) (by omega) (fun hp176 => ?_)
    have hF177 := hp176
    refine j_tight hK0 ?_
    refine j_sload_n hC 0 dL_selector_192 rfl rfl ?_
    refine j_iload_n hC 1 dL_selector_193 rfl rfl ?_
    refine j_iconst hC dL_selector_194 ?_
    refine j_iadd hC dL_selector_195 ?_
    refine j_iconst hC dL_selector_196 ?_
    obtain ⟨cp178, h⟩ := zchk_ex h
    refine j_le hK0 (zFx_cnt hF177) (fun hlecp178 => ?_)
    obtain ⟨r179, hy, h⟩ := zb1_ex h
    refine j_callSi hC hE lk_L_41 dL_selector_197 (c_L_pick l hlt g hL ln hln scr hscr (w (v1 + 3)) 3 (inR_w _) kR_3 M174 S175 hF177 hy) [.ref (zgb g), .int (zi (v1 + 3)), .int (zi 3)] [zr g r173] rfl (by simp only [zi_w, zl_wl]) rfl (zcat (Nat.le_of_ble_eq_true rfl)) (Nat.le_of_ble_eq_true rfl) (Nat.le_of_ble_eq_true rfl) (by omega) (by omega) (fun hp180 => ?_)
    have hr179 := hp180
    refine j_tight hK0 ?_
    obtain ⟨cp181, h⟩ := zchk_ex h
    refine j_le hK0 (zFx_cnt hF177) (fun hlecp181 => ?_)
    obtain ⟨hk, h⟩ := zchk_ex h
    have hk182 := hk
    obtain ⟨r183, M184, S185, hy, h⟩ := zb3_ex h
    refine j_callVr (ci := 8) hC hE lk_L_59 dL_selector_200 (c_J4_append_bf812 l hlt g r173 r179 hr179 M174 S175 hF177 hy) [.int (zi r179)] [] hk182 ⟨_, rfl, by decide, rfl⟩ rfl rfl rfl (zcat (Nat.le_of_ble_eq_true rfl)) (Nat.le_of_ble_eq_true rfl) (Nat.le_of_ble_eq_true rfl) (by omega) (by omega) (fun hp186 => ?_)
    have hF187 := hp186
    refine j_tight hK0 ?_
    obtain ⟨cp188, h⟩ := zchk_ex h
    refine j_le hK0 (zFx_cnt hF187) (fun hlecp188 => ?_)
    obtain ⟨hk, h⟩ := zchk_ex h
    have hk189 := hk
    obtain ⟨r190, M191, S192, hy, h⟩ := zb3_ex h
    refine j_callVr (ci := 8) hC hE lk_L_48 dL_selector_203 (c_J4_toString_0e30d l hlt g r183 M184 S185 hF187 hy) [] [] hk189 ⟨_, rfl, by decide, rfl⟩ rfl rfl rfl (zcat (Nat.le_of_ble_eq_true rfl)) (Nat.le_of_ble_eq_true rfl) (Nat.le_of_ble_eq_true rfl) (by omega) (by omega) (fun hp193 => ?_)
    have hF194 := hp193
    refine j_tight hK0 ?_
    obtain ⟨cp195, h⟩ := zchk_ex h
    refine j_le hK0 (zFx_cnt hF194) (fun hlecp195 => ?_)
    obtain ⟨e1, e2, e3⟩ := zpr3 (Option.some.inj h)
    exact j_aret hC hE dL_selector_206 (by rw [← e1]) e2 e3 (by rw [← e3]; exact hF194) (by omega) (by omega)
  have h := zf c126 h
  by_cases c196 : r2 = 5
  · have h := zt c196 h
    refine j_tswIn hC 5 dL_selector_7 (w_id hr2) c196 (by decide) (by decide) rfl rfl ?_
    obtain ⟨q197, eq197, h⟩ := zlet_ex h
    obtain ⟨cp198, h⟩ := zchk_ex h
    refine j_le hK0 (zFx_cnt hF) (fun hlecp198 => ?_)
    obtain ⟨M199, eM199, h⟩ := zlet_ex h
    refine j_fresh1 eq197 eM199 ?_
    obtain ⟨S200, eS200, h⟩ := zlet_ex h
    refine j_new hC hE n_L_38 pF_J4 dL_selector_207 eq197 eS200 (Or.inr ⟨zFx_cnt hF, (Nat.le_of_ble_eq_true rfl)⟩) (by omega) (by omega) ?_
    have hF201 : zFx S200 := zFx_zn hF eS200
    refine j_tight hK0 ?_
    refine j_dup hC dL_selector_210 (zr_cat _ _) ?_
    obtain ⟨cp202, h⟩ := zchk_ex h
    refine j_le hK0 (zFx_cnt hF201) (fun hlecp202 => ?_)
    obtain ⟨M203, S204, hy, h⟩ := zb2_ex h
    refine j_callIv hC hE lk_L_40 dL_selector_211 (c_J4_init_da8c8 l hlt g q197 M199 S200 hF201 hy) [] [zr g q197] (by rw [eq197]; exact Nat.succ_ne_zero _) rfl rfl rfl (zcat (Nat.le_of_ble_eq_true rfl)) (Nat.le_of_ble_eq_true rfl) (Nat.le_of_ble_eq_true rfl) (by omega) (by omega) (fun hp205 => ?_)
    have hF206 := hp205
    refine j_tight hK0 ?_
    refine j_ldcq hC dL_selector_214 zss_L_76 (Nat.le_of_ble_eq_true rfl) ?_
    obtain ⟨cp207, h⟩ := zchk_ex h
    refine j_le hK0 (zFx_cnt hF206) (fun hlecp207 => ?_)
    obtain ⟨hk, h⟩ := zchk_ex h
    have hk208 := hk
    obtain ⟨r209, M210, S211, hy, h⟩ := zb3_ex h
    refine j_callVr (ci := 8) hC hE lk_L_56 dL_selector_216 (c_J4_append_15ec4 l hlt g q197 64 M203 S204 hF206 hy) [zr g 64] [] hk208 ⟨_, rfl, by decide, rfl⟩ rfl rfl rfl (zcat (Nat.le_of_ble_eq_true rfl)) (Nat.le_of_ble_eq_true rfl) (Nat.le_of_ble_eq_true rfl) (by omega) (by omega) (fun hp212 => ?_)
    have hF213 := hp212
    refine j_tight hK0 ?_
    refine j_sload_n hC 0 dL_selector_219 rfl rfl ?_
    refine j_iload_n hC 1 dL_selector_220 rfl rfl ?_
    refine j_iconst hC dL_selector_221 ?_
    refine j_iadd hC dL_selector_222 ?_
    refine j_iconst hC dL_selector_223 ?_
    obtain ⟨cp214, h⟩ := zchk_ex h
    refine j_le hK0 (zFx_cnt hF213) (fun hlecp214 => ?_)
    obtain ⟨r215, hy, h⟩ := zb1_ex h
    refine j_callSi hC hE lk_L_41 dL_selector_224 (c_L_pick l hlt g hL ln hln scr hscr (w (v1 + 1)) 3 (inR_w _) kR_3 M210 S211 hF213 hy) [.ref (zgb g), .int (zi (v1 + 1)), .int (zi 3)] [zr g r209] rfl (by simp only [zi_w, zl_wl]) rfl (zcat (Nat.le_of_ble_eq_true rfl)) (Nat.le_of_ble_eq_true rfl) (Nat.le_of_ble_eq_true rfl) (by omega) (by omega) (fun hp216 => ?_)
    have hr215 := hp216
    refine j_tight hK0 ?_
    obtain ⟨cp217, h⟩ := zchk_ex h
    refine j_le hK0 (zFx_cnt hF213) (fun hlecp217 => ?_)
    obtain ⟨hk, h⟩ := zchk_ex h
    have hk218 := hk
    obtain ⟨r219, M220, S221, hy, h⟩ := zb3_ex h
    refine j_callVr (ci := 8) hC hE lk_L_59 dL_selector_227 (c_J4_append_bf812 l hlt g r209 r215 hr215 M210 S211 hF213 hy) [.int (zi r215)] [] hk218 ⟨_, rfl, by decide, rfl⟩ rfl rfl rfl (zcat (Nat.le_of_ble_eq_true rfl)) (Nat.le_of_ble_eq_true rfl) (Nat.le_of_ble_eq_true rfl) (by omega) (by omega) (fun hp222 => ?_)
    have hF223 := hp222
    refine j_tight hK0 ?_
    obtain ⟨cp224, h⟩ := zchk_ex h
    refine j_le hK0 (zFx_cnt hF223) (fun hlecp224 => ?_)
    obtain ⟨hk, h⟩ := zchk_ex h
    have hk225 := hk
    obtain ⟨r226, M227, S228, hy, h⟩ := zb3_ex h
    refine j_callVr (ci := 8) hC hE lk_L_48 dL_selector_230 (c_J4_toString_0e30d l hlt g r219 M220 S221 hF223 hy) [] [] hk225 ⟨_, rfl, by decide, rfl⟩ rfl rfl rfl (zcat (Nat.le_of_ble_eq_true rfl)) (Nat.le_of_ble_eq_true rfl) (Nat.le_of_ble_eq_true rfl) (by omega) (by omega) (fun hp229 => ?_)
    have hF230 := hp229
    refine j_tight hK0 ?_
    obtain ⟨cp231, h⟩ := zchk_ex h
    refine j_le hK0 (zFx_cnt hF230) (fun hlecp231 => ?_)
    obtain ⟨e1, e2, e3⟩ := zpr3 (Option.some.inj h)
    exact j_aret hC hE dL_selector_233 (by rw [← e1]) e2 e3 (by rw [← e3]; exact hF230) (by omega) (by omega)
  have h := zf c196 h
  refine j_tswOut hC dL_selector_7 (w_id hr2) (by omega) rfl ?_
  obtain ⟨q232, eq232, h⟩ := zlet_ex h
  obtain ⟨cp233, h⟩ := zchk_ex h
  refine j_le hK0 (zFx_cnt hF) (fun hlecp233 => ?_)
  obtain ⟨M234, eM234, h⟩ := zlet_ex h
  refine j_fresh1 eq232 eM234 ?_
  obtain ⟨S235, eS235, h⟩ := zlet_ex h
  refine j_new hC hE n_L_38 pF_J4 dL_selector_234 eq232 eS235 (Or.inr ⟨zFx_cnt hF, (Nat.le_of_ble_eq_true rfl)⟩) (by omega) (by omega) ?_
  have hF236 : zFx S235 := zFx_zn hF eS235
  refine j_tight hK0 ?_
  refine j_dup hC dL_selector_237 (zr_cat _ _) ?_
  obtain ⟨cp237, h⟩ := zchk_ex h
  refine j_le hK0 (zFx_cnt hF236) (fun hlecp237 => ?_)
  obtain ⟨M238, S239, hy, h⟩ := zb2_ex h
  refine j_callIv hC hE lk_L_40 dL_selector_238 (c_J4_init_da8c8 l hlt g q232 M234 S235 hF236 hy) [] [zr g q232] (by rw [eq232]; exact Nat.succ_ne_zero _) rfl rfl rfl (zcat (Nat.le_of_ble_eq_true rfl)) (Nat.le_of_ble_eq_true rfl) (Nat.le_of_ble_eq_true rfl) (by omega) (by omega) (fun hp240 => ?_)
  have hF241 := hp240
  refine j_tight hK0 ?_
  refine j_ldcq hC dL_selector_241 zss_L_78 (Nat.le_of_ble_eq_true rfl) ?_
  obtain ⟨cp242, h⟩ := zchk_ex h
  refine j_le hK0 (zFx_cnt hF241) (fun hlecp242 => ?_)
  obtain ⟨hk, h⟩ := zchk_ex h
  have hk243 := hk
  obtain ⟨r244, M245, S246, hy, h⟩ := zb3_ex h
  refine j_callVr (ci := 8) hC hE lk_L_56 dL_selector_243 (c_J4_append_15ec4 l hlt g q232 65 M238 S239 hF241 hy) [zr g 65] [] hk243 ⟨_, rfl, by decide, rfl⟩ rfl rfl rfl (zcat (Nat.le_of_ble_eq_true rfl)) (Nat.le_of_ble_eq_true rfl) (Nat.le_of_ble_eq_true rfl) (by omega) (by omega) (fun hp247 => ?_)
  have hF248 := hp247
  refine j_tight hK0 ?_
  refine j_iconst hC dL_selector_246 ?_
  refine j_sload_n hC 0 dL_selector_247 rfl rfl ?_
  refine j_iload_n hC 1 dL_selector_248 rfl rfl ?_
  refine j_iconst hC dL_selector_249 ?_
  refine j_iadd hC dL_selector_250 ?_
  refine j_iconst hC dL_selector_251 ?_
  obtain ⟨cp249, h⟩ := zchk_ex h
  refine j_le hK0 (zFx_cnt hF248) (fun hlecp249 => ?_)
  obtain ⟨r250, hy, h⟩ := zb1_ex h
  refine j_callSi hC hE lk_L_41 dL_selector_252 (c_L_pick l hlt g hL ln hln scr hscr (w (v1 + 1)) 5 (inR_w _) kR_5 M245 S246 hF248 hy) [.ref (zgb g), .int (zi (v1 + 1)), .int (zi 5)] [.int (zi 1), zr g r244] rfl (by simp only [zi_w, zl_wl]) rfl (zcat (Nat.le_of_ble_eq_true rfl)) (Nat.le_of_ble_eq_true rfl) (Nat.le_of_ble_eq_true rfl) (by omega) (by omega) (fun hp251 => ?_)
  have hr250 := hp251
  refine j_tight hK0 ?_
  refine j_iadd hC dL_selector_255 ?_
  obtain ⟨cp252, h⟩ := zchk_ex h
  refine j_le hK0 (zFx_cnt hF248) (fun hlecp252 => ?_)
  obtain ⟨hk, h⟩ := zchk_ex h
  have hk253 := hk
  obtain ⟨r254, M255, S256, hy, h⟩ := zb3_ex h
  refine j_callVr (ci := 8) hC hE lk_L_59 dL_selector_256 (c_J4_append_bf812 l hlt g r244 (w (1 + r250)) (inR_w _) M245 S246 hF248 hy) [.int (zi (1 + r250))] [] hk253 ⟨_, rfl, by decide, rfl⟩ rfl (by simp only [zi_w, zl_wl]) rfl (zcat (Nat.le_of_ble_eq_true rfl)) (Nat.le_of_ble_eq_true rfl) (Nat.le_of_ble_eq_true rfl) (by omega) (by omega) (fun hp257 => ?_)
  have hF258 := hp257
  refine j_tight hK0 ?_
  obtain ⟨cp259, h⟩ := zchk_ex h
  refine j_le hK0 (zFx_cnt hF258) (fun hlecp259 => ?_)
  obtain ⟨hk, h⟩ := zchk_ex h
  have hk260 := hk
  obtain ⟨r261, M262, S263, hy, h⟩ := zb3_ex h
  refine j_callVr (ci := 8) hC hE lk_L_48 dL_selector_259 (c_J4_toString_0e30d l hlt g r254 M255 S256 hF258 hy) [] [] hk260 ⟨_, rfl, by decide, rfl⟩ rfl rfl rfl (zcat (Nat.le_of_ble_eq_true rfl)) (Nat.le_of_ble_eq_true rfl) (Nat.le_of_ble_eq_true rfl) (by omega) (by omega) (fun hp264 => ?_)
  have hF265 := hp264
  refine j_tight hK0 ?_
  obtain ⟨cp266, h⟩ := zchk_ex h
  refine j_le hK0 (zFx_cnt hF265) (fun hlecp266 => ?_)
  obtain ⟨e1, e2, e3⟩ := zpr3 (Option.some.inj h)
  exact j_aret hC hE dL_selector_262 (by rw [← e1]) e2 e3 (by rw [← e3]; exact hF265) (by omega) (by omega)
set_option maxHeartbeats 4000000 in
set_option maxRecDepth 100000 in
theorem c_L_mode (l : Launch) (hlt : l.stackTraces = false) (g : zG) (v0 : Int) (hv0 : inR v0) (M : zM) (S : zS) (hF : zFx S) {r : Nat} (h : F_L_mode v0 = some r) : zMet l g yL_mode cL_mode 1 (some (.object "java/lang/String")) 1 0 0 [.int (zi v0)] M S (.inl (some (zr g r))) M S (True) := by
  refine zMet_of (by decide) hlt [(0, .int (zi v0))] rfl (Nat.le_of_ble_eq_true rfl) (fun K hC hE hN => ?_)
  unfold F_L_mode at h
  refine j_iload_n hC 0 dL_mode_0 rfl rfl ?_
  refine j_if_ne hC dL_mode_1 rfl (w_id hv0) (fun c1 => ?_) (fun c1 => ?_)
  · have h := zf c1 h
    refine j_iload_n hC 0 dL_mode_9 rfl rfl ?_
    refine j_iconst hC dL_mode_10 ?_
    refine j_icmp_ne hC dL_mode_11 rfl (w_id hv0) (w_id kR_1) (fun c2 => ?_) (fun c2 => ?_)
    · have h := zf c2 h
      refine j_iload_n hC 0 dL_mode_19 rfl rfl ?_
      refine j_iconst hC dL_mode_20 ?_
      refine j_icmp_ne hC dL_mode_21 rfl (w_id hv0) (w_id kR_2) (fun c3 => ?_) (fun c3 => ?_)
      · have h := zf c3 h
        refine j_iload_n hC 0 dL_mode_29 rfl rfl ?_
        refine j_iconst hC dL_mode_30 ?_
        refine j_icmp_ne hC dL_mode_31 rfl (w_id hv0) (w_id kR_3) (fun c4 => ?_) (fun c4 => ?_)
        · have h := zf c4 h
          refine j_ldcq hC dL_mode_39 zss_L_88 (Nat.le_of_ble_eq_true rfl) ?_
          have e1 := Option.some.inj h
          exact j_aret hC hE dL_mode_41 (by rw [← e1]) rfl rfl trivial (Nat.le_of_ble_eq_true rfl) (Nat.le_of_ble_eq_true rfl)
        · have h := zt c4 h
          refine j_ldcq hC dL_mode_34 zss_L_86 (Nat.le_of_ble_eq_true rfl) ?_
          refine j_goto hC dL_mode_36 rfl ?_
          have e1 := Option.some.inj h
          exact j_aret hC hE dL_mode_41 (by rw [← e1]) rfl rfl trivial (Nat.le_of_ble_eq_true rfl) (Nat.le_of_ble_eq_true rfl)
      · have h := zt c3 h
        refine j_ldcq hC dL_mode_24 zss_L_84 (Nat.le_of_ble_eq_true rfl) ?_
        refine j_goto hC dL_mode_26 rfl ?_
        have e1 := Option.some.inj h
        exact j_aret hC hE dL_mode_41 (by rw [← e1]) rfl rfl trivial (Nat.le_of_ble_eq_true rfl) (Nat.le_of_ble_eq_true rfl)
    · have h := zt c2 h
      refine j_ldcq hC dL_mode_14 zss_L_82 (Nat.le_of_ble_eq_true rfl) ?_
      refine j_goto hC dL_mode_16 rfl ?_
      have e1 := Option.some.inj h
      exact j_aret hC hE dL_mode_41 (by rw [← e1]) rfl rfl trivial (Nat.le_of_ble_eq_true rfl) (Nat.le_of_ble_eq_true rfl)
  · have h := zt c1 h
    refine j_ldcq hC dL_mode_4 zss_L_80 (Nat.le_of_ble_eq_true rfl) ?_
    refine j_goto hC dL_mode_6 rfl ?_
    have e1 := Option.some.inj h
    exact j_aret hC hE dL_mode_41 (by rw [← e1]) rfl rfl trivial (Nat.le_of_ble_eq_true rfl) (Nat.le_of_ble_eq_true rfl)
set_option maxHeartbeats 4000000 in
set_option maxRecDepth 100000 in
theorem c_L_build (l : Launch) (hlt : l.stackTraces = false) (g : zG) (hL : zgL g ≤ 260) (ln : Int) (hln : ln = (zgL g : Int)) (scr : Int → Int) (hscr : scr = zscr (zgx g)) (v2 : Int) (hv2 : inR v2) (M : zM) (S : zS) (hF : zFx S) {M' : zM} {S' : zS} (h : F_L_build ln scr v2 M S = some (M', S')) : zMet l g yL_build cL_build 7 none 48 (6000 - S.1) (1000 * (6000 - S.1)) [zr g 1, .ref (zgb g), .int (zi v2)] M S (.inl none) M' S' (zFx S') := by
  refine zMet_ofL (by decide) hlt [(0, zr g 1), (1, .ref (zgb g)), (2, .int (zi v2))] rfl (Nat.le_of_ble_eq_true rfl) (zFx_cnt hF) (fun K hC hE hN hK0 => ?_)
  obtain ⟨S0, eS0⟩ : ∃ S0 : zS, S0 = S := ⟨S, rfl⟩
  rw [← eS0] at hK0 hE
  refine j_tight hK0 ?_
  have hlnR : inR ln := by rw [hln]; exact ⟨by omega, by omega⟩
  have hscrR : ∀ i, inR (scr i) := by intro i; rw [hscr]; exact cR_zscr _ i
  unfold F_L_build at h
  have J_299 : ∀ (M : zM) (S : zS) (hF : zFx S) (_ : F_L_build_J299 ln scr M S = some (M', S')), zJ K g (S.1 - S0.1) (1000 * (S.1 - S0.1)) 299 7 [] [] M S := by
    intro M S hF h
    unfold F_L_build_J299 at h
    obtain ⟨cp1, h⟩ := zchk_ex h
    refine j_le hK0 (zFx_cnt hF) (fun hlecp1 => ?_)
    obtain ⟨e1, e2⟩ := zpr2 (Option.some.inj h)
    exact j_vret hC hE dL_build_299 rfl e1 e2 (by rw [← e2]; exact hF) (by omega) (by omega)
  have L_189 : ∀ (v2 : Int) (v4 : Int) (v5 : Int) (hv2 : inR v2) (hv4 : inR v4) (hv5 : inR v5) (M : zM) (S : zS) (hF : zFx S) (_ : F_L_build_L189 ln scr v2 v4 v5 M S = some (M', S')), zJ K g (S.1 - S0.1) (1000 * (S.1 - S0.1)) 189 7 [(0, zr g 1), (1, .ref (zgb g)), (2, .int (zi v2)), (4, .int (zi v4)), (5, .int (zi v5))] [] M S := by
    intro v2 v4 v5 hv2 hv4 hv5 M S hF h
    unfold F_L_build_L189 at h
    obtain ⟨ex189, hl, hd189⟩ := zb1_ex h
    obtain ⟨bd189, ebd⟩ : ∃ f, f = (fun (s : Int × zM × zS) => F_L_build_B189 ln scr v2 v4 s.1 s.2.1 s.2.2) := ⟨_, rfl⟩
    rw [← ebd] at hl
    have main : ∀ (n189 : Nat) (v5 : Int) (hv5 : inR v5) (M : zM) (S : zS) (hF : zFx S) (_ : zloop bd189 n189 (v5, M, S) = some ex189), zJ K g (S.1 - S0.1) (1000 * (S.1 - S0.1)) 189 7 [(0, zr g 1), (1, .ref (zgb g)), (2, .int (zi v2)), (4, .int (zi v4)), (5, .int (zi v5))] [] M S := by
      intro n189
      induction n189 with
      | zero => intro v5 hv5 M S hF hl; exact zloop_0 hl
      | succ n189 ih189 =>
        intro v5 hv5 M S hF hl
        obtain ⟨o, h, hT⟩ := zloop_ex hl
        have h : F_L_build_B189 ln scr v2 v4 v5 M S = some o := by rw [ebd] at h; exact h
        unfold F_L_build_B189 at h
        refine j_iload hC 4 dL_build_189 rfl ?_
        refine j_iload hC 3 dL_build_191 rfl ?_
        refine j_icmp_ge hC dL_build_193 rfl (w_id hv5) (w_id hv4) (fun c2 => ?_) (fun c2 => ?_)
        · have h := zf c2 h
          obtain rfl := Option.some.inj h
          have hx189 := hd189
          rw [← show _ = ex189 from hT] at hx189
          refine j_sub [] rfl ?_
          exact J_299 M S hF hx189
        · have h := zt c2 h
          refine j_iload_n hC 2 dL_build_196 rfl rfl ?_
          refine j_bipush hC dL_build_197 rfl ?_
          refine j_iadd hC dL_build_199 ?_
          refine j_bipush hC dL_build_200 rfl ?_
          refine j_iload hC 4 dL_build_202 rfl ?_
          refine j_imul hC dL_build_204 ?_
          refine j_iadd hC dL_build_205 ?_
          obtain ⟨x3, ex3, h⟩ := zlet_ex h
          have hx3 : inR x3 := by rw [ex3]; exact inR_w _
          refine j_namei ex3 ?_
          refine j_istore hC dL_build_206 (Nat.le_of_ble_eq_true rfl) rfl ?_
          refine j_aload_n hC 1 dL_build_208 rfl rfl ?_
          obtain ⟨q4, eq4, h⟩ := zlet_ex h
          obtain ⟨cp5, h⟩ := zchk_ex h
          refine j_le hK0 (zFx_cnt hF) (fun hlecp5 => ?_)
          obtain ⟨M6, eM6, h⟩ := zlet_ex h
          refine j_fresh1 eq4 eM6 ?_
          obtain ⟨S7, eS7, h⟩ := zlet_ex h
          refine j_new hC hE n_L_38 pF_J4 dL_build_209 eq4 eS7 (Or.inr ⟨zFx_cnt hF, (Nat.le_of_ble_eq_true rfl)⟩) (by omega) (by omega) ?_
          have hF8 : zFx S7 := zFx_zn hF eS7
          refine j_tight hK0 ?_
          refine j_dup hC dL_build_212 (zr_cat _ _) ?_
          obtain ⟨cp9, h⟩ := zchk_ex h
          refine j_le hK0 (zFx_cnt hF8) (fun hlecp9 => ?_)
          obtain ⟨M10, S11, hy, h⟩ := zb2_ex h
          refine j_callIv hC hE lk_L_40 dL_build_213 (c_J4_init_da8c8 l hlt g q4 M6 S7 hF8 hy) [] [zr g q4, zr g 1] (by rw [eq4]; exact Nat.succ_ne_zero _) rfl rfl rfl (zcat (Nat.le_of_ble_eq_true rfl)) (Nat.le_of_ble_eq_true rfl) (Nat.le_of_ble_eq_true rfl) (by omega) (by omega) (fun hp12 => ?_)
          have hF13 := hp12
          refine j_tight hK0 ?_
          refine j_ldcq hC dL_build_216 zss_L_114 (Nat.le_of_ble_eq_true rfl) ?_
          obtain ⟨cp14, h⟩ := zchk_ex h
          refine j_le hK0 (zFx_cnt hF13) (fun hlecp14 => ?_)
          obtain ⟨hk, h⟩ := zchk_ex h
          have hk15 := hk
          obtain ⟨r16, M17, S18, hy, h⟩ := zb3_ex h
          refine j_callVr (ci := 8) hC hE lk_L_56 dL_build_218 (c_J4_append_15ec4 l hlt g q4 49 M10 S11 hF13 hy) [zr g 49] [zr g 1] hk15 ⟨_, rfl, by decide, rfl⟩ rfl rfl rfl (zcat (Nat.le_of_ble_eq_true rfl)) (Nat.le_of_ble_eq_true rfl) (Nat.le_of_ble_eq_true rfl) (by omega) (by omega) (fun hp19 => ?_)
          have hF20 := hp19
          refine j_tight hK0 ?_
          refine j_sload_n hC 2 dL_build_221 rfl rfl ?_
          refine j_iload hC 0 dL_build_222 rfl ?_
          refine j_iconst hC dL_build_224 ?_
          refine j_sload_n hC 2 dL_build_225 rfl rfl ?_
          refine j_iload hC 0 dL_build_226 rfl ?_
          refine j_iconst hC dL_build_228 ?_
          refine j_iadd hC dL_build_229 ?_
          refine j_iconst hC dL_build_230 ?_
          obtain ⟨cp21, h⟩ := zchk_ex h
          refine j_le hK0 (zFx_cnt hF20) (fun hlecp21 => ?_)
          obtain ⟨r22, hy, h⟩ := zb1_ex h
          refine j_callSi hC hE lk_L_41 dL_build_231 (c_L_pick l hlt g hL ln hln scr hscr (w (x3 + 3)) 2 (inR_w _) kR_2 M17 S18 hF20 hy) [.ref (zgb g), .int (zi (x3 + 3)), .int (zi 2)] [.int (zi 1), .int (zi x3), .ref (zgb g), zr g r16, zr g 1] rfl (by simp only [zi_w, zl_wl]) rfl (by simp only [List.map_cons, List.map_nil, zr_cat, zc_i, zc_l, zc_d, zc_r, List.sum_cons, List.sum_nil] <;> decide) (Nat.le_of_ble_eq_true rfl) (Nat.le_of_ble_eq_true rfl) (by omega) (by omega) (fun hp23 => ?_)
          have hr22 := hp23
          refine j_tight hK0 ?_
          refine j_iadd hC dL_build_234 ?_
          refine j_iconst hC dL_build_235 ?_
          obtain ⟨cp24, h⟩ := zchk_ex h
          refine j_le hK0 (zFx_cnt hF20) (fun hlecp24 => ?_)
          obtain ⟨r25, M26, S27, hy, h⟩ := zb3_ex h
          refine j_callSr hC hE lk_L_64 dL_build_236 (c_L_letters l hlt g hL ln hln scr hscr x3 (w (1 + r22)) 2 hx3 (inR_w _) kR_2 M17 S18 hF20 hy) [.ref (zgb g), .int (zi x3), .int (zi (1 + r22)), .int (zi 2)] [zr g r16, zr g 1] rfl (by simp only [zi_w, zl_wl]) rfl (zcat (Nat.le_of_ble_eq_true rfl)) (Nat.le_of_ble_eq_true rfl) (Nat.le_of_ble_eq_true rfl) (by omega) (by omega) (fun hp28 => ?_)
          have hF29 := hp28
          refine j_tight hK0 ?_
          obtain ⟨cp30, h⟩ := zchk_ex h
          refine j_le hK0 (zFx_cnt hF29) (fun hlecp30 => ?_)
          obtain ⟨hk, h⟩ := zchk_ex h
          have hk31 := hk
          obtain ⟨r32, M33, S34, hy, h⟩ := zb3_ex h
          refine j_callVr (ci := 8) hC hE lk_L_56 dL_build_239 (c_J4_append_15ec4 l hlt g r16 r25 M26 S27 hF29 hy) [zr g r25] [zr g 1] hk31 ⟨_, rfl, by decide, rfl⟩ rfl rfl rfl (zcat (Nat.le_of_ble_eq_true rfl)) (Nat.le_of_ble_eq_true rfl) (Nat.le_of_ble_eq_true rfl) (by omega) (by omega) (fun hp35 => ?_)
          have hF36 := hp35
          refine j_tight hK0 ?_
          refine j_ldcq hC dL_build_242 zss_L_116 (Nat.le_of_ble_eq_true rfl) ?_
          obtain ⟨cp37, h⟩ := zchk_ex h
          refine j_le hK0 (zFx_cnt hF36) (fun hlecp37 => ?_)
          obtain ⟨hk, h⟩ := zchk_ex h
          have hk38 := hk
          obtain ⟨r39, M40, S41, hy, h⟩ := zb3_ex h
          refine j_callVr (ci := 8) hC hE lk_L_56 dL_build_244 (c_J4_append_15ec4 l hlt g r32 66 M33 S34 hF36 hy) [zr g 66] [zr g 1] hk38 ⟨_, rfl, by decide, rfl⟩ rfl rfl rfl (zcat (Nat.le_of_ble_eq_true rfl)) (Nat.le_of_ble_eq_true rfl) (Nat.le_of_ble_eq_true rfl) (by omega) (by omega) (fun hp42 => ?_)
          have hF43 := hp42
          refine j_tight hK0 ?_
          refine j_sload_n hC 2 dL_build_247 rfl rfl ?_
          refine j_iload hC 0 dL_build_248 rfl ?_
          refine j_iconst hC dL_build_250 ?_
          refine j_iadd hC dL_build_251 ?_
          refine j_sload_n hC 2 dL_build_252 rfl rfl ?_
          refine j_iload hC 0 dL_build_253 rfl ?_
          refine j_bipush hC dL_build_255 rfl ?_
          refine j_iadd hC dL_build_257 ?_
          refine j_iconst hC dL_build_258 ?_
          obtain ⟨cp44, h⟩ := zchk_ex h
          refine j_le hK0 (zFx_cnt hF43) (fun hlecp44 => ?_)
          obtain ⟨r45, hy, h⟩ := zb1_ex h
          refine j_callSi hC hE lk_L_41 dL_build_259 (c_L_pick l hlt g hL ln hln scr hscr (w (x3 + 7)) 2 (inR_w _) kR_2 M40 S41 hF43 hy) [.ref (zgb g), .int (zi (x3 + 7)), .int (zi 2)] [.int (zi (x3 + 4)), .ref (zgb g), zr g r39, zr g 1] rfl (by simp only [zi_w, zl_wl]) rfl (zcat (Nat.le_of_ble_eq_true rfl)) (Nat.le_of_ble_eq_true rfl) (Nat.le_of_ble_eq_true rfl) (by omega) (by omega) (fun hp46 => ?_)
          have hr45 := hp46
          refine j_tight hK0 ?_
          refine j_iconst hC dL_build_262 ?_
          obtain ⟨cp47, h⟩ := zchk_ex h
          refine j_le hK0 (zFx_cnt hF43) (fun hlecp47 => ?_)
          obtain ⟨r48, M49, S50, hy, h⟩ := zb3_ex h
          refine j_callSr hC hE lk_L_64 dL_build_263 (c_L_letters l hlt g hL ln hln scr hscr (w (x3 + 4)) r45 2 (inR_w _) hr45 kR_2 M40 S41 hF43 hy) [.ref (zgb g), .int (zi (x3 + 4)), .int (zi r45), .int (zi 2)] [zr g r39, zr g 1] rfl (by simp only [zi_w, zl_wl]) rfl (zcat (Nat.le_of_ble_eq_true rfl)) (Nat.le_of_ble_eq_true rfl) (Nat.le_of_ble_eq_true rfl) (by omega) (by omega) (fun hp51 => ?_)
          have hF52 := hp51
          refine j_tight hK0 ?_
          obtain ⟨cp53, h⟩ := zchk_ex h
          refine j_le hK0 (zFx_cnt hF52) (fun hlecp53 => ?_)
          obtain ⟨hk, h⟩ := zchk_ex h
          have hk54 := hk
          obtain ⟨r55, M56, S57, hy, h⟩ := zb3_ex h
          refine j_callVr (ci := 8) hC hE lk_L_56 dL_build_266 (c_J4_append_15ec4 l hlt g r39 r48 M49 S50 hF52 hy) [zr g r48] [zr g 1] hk54 ⟨_, rfl, by decide, rfl⟩ rfl rfl rfl (zcat (Nat.le_of_ble_eq_true rfl)) (Nat.le_of_ble_eq_true rfl) (Nat.le_of_ble_eq_true rfl) (by omega) (by omega) (fun hp58 => ?_)
          have hF59 := hp58
          refine j_tight hK0 ?_
          refine j_ldcq hC dL_build_269 zss_L_118 (Nat.le_of_ble_eq_true rfl) ?_
          obtain ⟨cp60, h⟩ := zchk_ex h
          refine j_le hK0 (zFx_cnt hF59) (fun hlecp60 => ?_)
          obtain ⟨hk, h⟩ := zchk_ex h
          have hk61 := hk
          obtain ⟨r62, M63, S64, hy, h⟩ := zb3_ex h
          refine j_callVr (ci := 8) hC hE lk_L_56 dL_build_271 (c_J4_append_15ec4 l hlt g r55 67 M56 S57 hF59 hy) [zr g 67] [zr g 1] hk61 ⟨_, rfl, by decide, rfl⟩ rfl rfl rfl (zcat (Nat.le_of_ble_eq_true rfl)) (Nat.le_of_ble_eq_true rfl) (Nat.le_of_ble_eq_true rfl) (by omega) (by omega) (fun hp65 => ?_)
          have hF66 := hp65
          refine j_tight hK0 ?_
          refine j_sload_n hC 2 dL_build_274 rfl rfl ?_
          refine j_iload hC 0 dL_build_275 rfl ?_
          refine j_bipush hC dL_build_277 rfl ?_
          refine j_iadd hC dL_build_279 ?_
          obtain ⟨cp67, h⟩ := zchk_ex h
          refine j_le hK0 (zFx_cnt hF66) (fun hlecp67 => ?_)
          obtain ⟨r68, M69, S70, hy, h⟩ := zb3_ex h
          refine j_callSr hC hE lk_L_120 dL_build_280 (c_L_selector l hlt g hL ln hln scr hscr (w (x3 + 8)) (inR_w _) M63 S64 hF66 hy) [.ref (zgb g), .int (zi (x3 + 8))] [zr g r62, zr g 1] rfl (by simp only [zi_w, zl_wl]) rfl (zcat (Nat.le_of_ble_eq_true rfl)) (Nat.le_of_ble_eq_true rfl) (Nat.le_of_ble_eq_true rfl) (by omega) (by omega) (fun hp71 => ?_)
          have hF72 := hp71
          refine j_tight hK0 ?_
          obtain ⟨cp73, h⟩ := zchk_ex h
          refine j_le hK0 (zFx_cnt hF72) (fun hlecp73 => ?_)
          obtain ⟨hk, h⟩ := zchk_ex h
          have hk74 := hk
          obtain ⟨r75, M76, S77, hy, h⟩ := zb3_ex h
          refine j_callVr (ci := 8) hC hE lk_L_56 dL_build_283 (c_J4_append_15ec4 l hlt g r62 r68 M69 S70 hF72 hy) [zr g r68] [zr g 1] hk74 ⟨_, rfl, by decide, rfl⟩ rfl rfl rfl (zcat (Nat.le_of_ble_eq_true rfl)) (Nat.le_of_ble_eq_true rfl) (Nat.le_of_ble_eq_true rfl) (by omega) (by omega) (fun hp78 => ?_)
          have hF79 := hp78
          refine j_tight hK0 ?_
          obtain ⟨cp80, h⟩ := zchk_ex h
          refine j_le hK0 (zFx_cnt hF79) (fun hlecp80 => ?_)
          obtain ⟨hk, h⟩ := zchk_ex h
          have hk81 := hk
          obtain ⟨r82, M83, S84, hy, h⟩ := zb3_ex h
          refine j_callVr (ci := 8) hC hE lk_L_48 dL_build_286 (c_J4_toString_0e30d l hlt g r75 M76 S77 hF79 hy) [] [zr g 1] hk81 ⟨_, rfl, by decide, rfl⟩ rfl rfl rfl (zcat (Nat.le_of_ble_eq_true rfl)) (Nat.le_of_ble_eq_true rfl) (Nat.le_of_ble_eq_true rfl) (by omega) (by omega) (fun hp85 => ?_)
          have hF86 := hp85
          refine j_tight hK0 ?_
          obtain ⟨cp87, h⟩ := zchk_ex h
          refine j_le hK0 (zFx_cnt hF86) (fun hlecp87 => ?_)
          obtain ⟨r88, M89, S90, hy, h⟩ := zb3_ex h
          refine j_callTi hC hE lk_L_107 dL_build_289 (c_L_define l hlt g r82 M83 S84 hF86 hy) [zr g 1, zr g r82] [] rfl rfl rfl (Nat.le_of_ble_eq_true rfl) (Nat.le_of_ble_eq_true rfl) (Nat.le_of_ble_eq_true rfl) (by omega) (by omega) (fun hp91 => ?_)
          obtain ⟨hr88, hFr88⟩ := hp91
          refine j_tight hK0 ?_
          refine j_pop hC dL_build_292 rfl ?_
          obtain ⟨x92, ex92, h⟩ := zlet_ex h
          have hx92 : inR x92 := by rw [ex92]; exact inR_w _
          refine j_iinc hC 5 dL_build_293 rfl ex92 (Nat.le_of_ble_eq_true rfl) rfl ?_
          refine j_goto hC dL_build_296 rfl ?_
          obtain rfl := Option.some.inj h
          refine j_sub [2, 3, 4, 5, 0] rfl ?_
          exact ih189 x92 hx92 M89 S90 hFr88 hT
    exact main zN v5 hv5 M S hF hl
  have J_175 : ∀ (v2 : Int) (hv2 : inR v2) (M : zM) (S : zS) (hF : zFx S) (_ : F_L_build_J175 ln scr v2 M S = some (M', S')), zJ K g (S.1 - S0.1) (1000 * (S.1 - S0.1)) 175 7 [(0, zr g 1), (1, .ref (zgb g)), (2, .int (zi v2))] [] M S := by
    intro v2 hv2 M S hF h
    unfold F_L_build_J175 at h
    refine j_sload_n hC 1 dL_build_175 rfl rfl ?_
    refine j_iload_n hC 2 dL_build_176 rfl rfl ?_
    refine j_bipush hC dL_build_177 rfl ?_
    refine j_iadd hC dL_build_179 ?_
    refine j_iconst hC dL_build_180 ?_
    obtain ⟨cp93, h⟩ := zchk_ex h
    refine j_le hK0 (zFx_cnt hF) (fun hlecp93 => ?_)
    obtain ⟨r94, hy, h⟩ := zb1_ex h
    refine j_callSi hC hE lk_L_41 dL_build_181 (c_L_pick l hlt g hL ln hln scr hscr (w (v2 + 20)) 4 (inR_w _) kR_4 M S hF hy) [.ref (zgb g), .int (zi (v2 + 20)), .int (zi 4)] [] rfl (by simp only [zi_w, zl_wl]) rfl (zcat (Nat.le_of_ble_eq_true rfl)) (Nat.le_of_ble_eq_true rfl) (Nat.le_of_ble_eq_true rfl) (by omega) (by omega) (fun hp95 => ?_)
    have hr94 := hp95
    refine j_tight hK0 ?_
    refine j_istore hC dL_build_184 (Nat.le_of_ble_eq_true rfl) rfl ?_
    refine j_iconst hC dL_build_186 ?_
    refine j_istore hC dL_build_187 (Nat.le_of_ble_eq_true rfl) rfl ?_
    refine j_sub [2, 3, 4, 1, 0] rfl ?_
    exact L_189 v2 r94 0 hv2 hr94 kR_0 M S hF h
  have L_111 : ∀ (v2 : Int) (v3 : Int) (v4 : Int) (hv2 : inR v2) (hv3 : inR v3) (hv4 : inR v4) (M : zM) (S : zS) (hF : zFx S) (_ : F_L_build_L111 ln scr v2 v3 v4 M S = some (M', S')), zJ K g (S.1 - S0.1) (1000 * (S.1 - S0.1)) 111 7 [(0, zr g 1), (1, .ref (zgb g)), (2, .int (zi v2)), (3, .int (zi v3)), (4, .int (zi v4))] [] M S := by
    intro v2 v3 v4 hv2 hv3 hv4 M S hF h
    unfold F_L_build_L111 at h
    obtain ⟨ex111, hl, hd111⟩ := zb1_ex h
    obtain ⟨bd111, ebd⟩ : ∃ f, f = (fun (s : Int × zM × zS) => F_L_build_B111 ln scr v2 v3 s.1 s.2.1 s.2.2) := ⟨_, rfl⟩
    rw [← ebd] at hl
    have main : ∀ (n111 : Nat) (v4 : Int) (hv4 : inR v4) (M : zM) (S : zS) (hF : zFx S) (_ : zloop bd111 n111 (v4, M, S) = some ex111), zJ K g (S.1 - S0.1) (1000 * (S.1 - S0.1)) 111 7 [(0, zr g 1), (1, .ref (zgb g)), (2, .int (zi v2)), (3, .int (zi v3)), (4, .int (zi v4))] [] M S := by
      intro n111
      induction n111 with
      | zero => intro v4 hv4 M S hF hl; exact zloop_0 hl
      | succ n111 ih111 =>
        intro v4 hv4 M S hF hl
        obtain ⟨o, h, hT⟩ := zloop_ex hl
        have h : F_L_build_B111 ln scr v2 v3 v4 M S = some o := by rw [ebd] at h; exact h
        unfold F_L_build_B111 at h
        refine j_iload hC 4 dL_build_111 rfl ?_
        refine j_iload_n hC 3 dL_build_113 rfl rfl ?_
        refine j_icmp_ge hC dL_build_114 rfl (w_id hv4) (w_id hv3) (fun c96 => ?_) (fun c96 => ?_)
        · have h := zf c96 h
          obtain rfl := Option.some.inj h
          have hx111 := hd111
          rw [← show _ = ex111 from hT] at hx111
          refine j_sub [0, 1, 2] rfl ?_
          exact J_175 v2 hv2 M S hF hx111
        · have h := zt c96 h
          refine j_aload_n hC 0 dL_build_117 rfl rfl ?_
          obtain ⟨q97, eq97, h⟩ := zlet_ex h
          obtain ⟨cp98, h⟩ := zchk_ex h
          refine j_le hK0 (zFx_cnt hF) (fun hlecp98 => ?_)
          obtain ⟨M99, eM99, h⟩ := zlet_ex h
          refine j_fresh1 eq97 eM99 ?_
          obtain ⟨S100, eS100, h⟩ := zlet_ex h
          refine j_new hC hE n_L_38 pF_J4 dL_build_118 eq97 eS100 (Or.inr ⟨zFx_cnt hF, (Nat.le_of_ble_eq_true rfl)⟩) (by omega) (by omega) ?_
          have hF101 : zFx S100 := zFx_zn hF eS100
          refine j_tight hK0 ?_
          refine j_dup hC dL_build_121 (zr_cat _ _) ?_
          obtain ⟨cp102, h⟩ := zchk_ex h
          refine j_le hK0 (zFx_cnt hF101) (fun hlecp102 => ?_)
          obtain ⟨M103, S104, hy, h⟩ := zb2_ex h
          refine j_callIv hC hE lk_L_40 dL_build_122 (c_J4_init_da8c8 l hlt g q97 M99 S100 hF101 hy) [] [zr g q97, zr g 1] (by rw [eq97]; exact Nat.succ_ne_zero _) rfl rfl rfl (zcat (Nat.le_of_ble_eq_true rfl)) (Nat.le_of_ble_eq_true rfl) (Nat.le_of_ble_eq_true rfl) (by omega) (by omega) (fun hp105 => ?_)
          have hF106 := hp105
          refine j_tight hK0 ?_
          refine j_ldcq hC dL_build_125 zss_L_112 (Nat.le_of_ble_eq_true rfl) ?_
          obtain ⟨cp107, h⟩ := zchk_ex h
          refine j_le hK0 (zFx_cnt hF106) (fun hlecp107 => ?_)
          obtain ⟨hk, h⟩ := zchk_ex h
          have hk108 := hk
          obtain ⟨r109, M110, S111, hy, h⟩ := zb3_ex h
          refine j_callVr (ci := 8) hC hE lk_L_56 dL_build_127 (c_J4_append_15ec4 l hlt g q97 48 M103 S104 hF106 hy) [zr g 48] [zr g 1] hk108 ⟨_, rfl, by decide, rfl⟩ rfl rfl rfl (zcat (Nat.le_of_ble_eq_true rfl)) (Nat.le_of_ble_eq_true rfl) (Nat.le_of_ble_eq_true rfl) (by omega) (by omega) (fun hp112 => ?_)
          have hF113 := hp112
          refine j_tight hK0 ?_
          refine j_sload_n hC 1 dL_build_130 rfl rfl ?_
          refine j_iload_n hC 2 dL_build_131 rfl rfl ?_
          refine j_iconst hC dL_build_132 ?_
          refine j_iadd hC dL_build_133 ?_
          refine j_iconst hC dL_build_134 ?_
          refine j_iload hC 4 dL_build_135 rfl ?_
          refine j_imul hC dL_build_137 ?_
          refine j_iadd hC dL_build_138 ?_
          refine j_iconst hC dL_build_139 ?_
          refine j_sload_n hC 1 dL_build_140 rfl rfl ?_
          refine j_iload_n hC 2 dL_build_141 rfl rfl ?_
          refine j_bipush hC dL_build_142 rfl ?_
          refine j_iadd hC dL_build_144 ?_
          refine j_iconst hC dL_build_145 ?_
          refine j_iload hC 4 dL_build_146 rfl ?_
          refine j_imul hC dL_build_148 ?_
          refine j_iadd hC dL_build_149 ?_
          refine j_iconst hC dL_build_150 ?_
          obtain ⟨cp114, h⟩ := zchk_ex h
          refine j_le hK0 (zFx_cnt hF113) (fun hlecp114 => ?_)
          obtain ⟨r115, hy, h⟩ := zb1_ex h
          refine j_callSi hC hE lk_L_41 dL_build_151 (c_L_pick l hlt g hL ln hln scr hscr (w ((v2 + 6) + (4 * v4))) 3 (inR_w _) kR_3 M110 S111 hF113 hy) [.ref (zgb g), .int (zi ((v2 + 6) + (4 * v4))), .int (zi 3)] [.int (zi 1), .int (zi ((v2 + 3) + (4 * v4))), .ref (zgb g), zr g r109, zr g 1] rfl (by simp only [zi_w, zl_wl]) rfl (by simp only [List.map_cons, List.map_nil, zr_cat, zc_i, zc_l, zc_d, zc_r, List.sum_cons, List.sum_nil] <;> decide) (Nat.le_of_ble_eq_true rfl) (Nat.le_of_ble_eq_true rfl) (by omega) (by omega) (fun hp116 => ?_)
          have hr115 := hp116
          refine j_tight hK0 ?_
          refine j_iadd hC dL_build_154 ?_
          refine j_iconst hC dL_build_155 ?_
          obtain ⟨cp117, h⟩ := zchk_ex h
          refine j_le hK0 (zFx_cnt hF113) (fun hlecp117 => ?_)
          obtain ⟨r118, M119, S120, hy, h⟩ := zb3_ex h
          refine j_callSr hC hE lk_L_64 dL_build_156 (c_L_letters l hlt g hL ln hln scr hscr (w ((v2 + 3) + (4 * v4))) (w (1 + r115)) 2 (inR_w _) (inR_w _) kR_2 M110 S111 hF113 hy) [.ref (zgb g), .int (zi ((v2 + 3) + (4 * v4))), .int (zi (1 + r115)), .int (zi 2)] [zr g r109, zr g 1] rfl (by simp only [zi_w, zl_wl]) rfl (zcat (Nat.le_of_ble_eq_true rfl)) (Nat.le_of_ble_eq_true rfl) (Nat.le_of_ble_eq_true rfl) (by omega) (by omega) (fun hp121 => ?_)
          have hF122 := hp121
          refine j_tight hK0 ?_
          obtain ⟨cp123, h⟩ := zchk_ex h
          refine j_le hK0 (zFx_cnt hF122) (fun hlecp123 => ?_)
          obtain ⟨hk, h⟩ := zchk_ex h
          have hk124 := hk
          obtain ⟨r125, M126, S127, hy, h⟩ := zb3_ex h
          refine j_callVr (ci := 8) hC hE lk_L_56 dL_build_159 (c_J4_append_15ec4 l hlt g r109 r118 M119 S120 hF122 hy) [zr g r118] [zr g 1] hk124 ⟨_, rfl, by decide, rfl⟩ rfl rfl rfl (zcat (Nat.le_of_ble_eq_true rfl)) (Nat.le_of_ble_eq_true rfl) (Nat.le_of_ble_eq_true rfl) (by omega) (by omega) (fun hp128 => ?_)
          have hF129 := hp128
          refine j_tight hK0 ?_
          obtain ⟨cp130, h⟩ := zchk_ex h
          refine j_le hK0 (zFx_cnt hF129) (fun hlecp130 => ?_)
          obtain ⟨hk, h⟩ := zchk_ex h
          have hk131 := hk
          obtain ⟨r132, M133, S134, hy, h⟩ := zb3_ex h
          refine j_callVr (ci := 8) hC hE lk_L_48 dL_build_162 (c_J4_toString_0e30d l hlt g r125 M126 S127 hF129 hy) [] [zr g 1] hk131 ⟨_, rfl, by decide, rfl⟩ rfl rfl rfl (zcat (Nat.le_of_ble_eq_true rfl)) (Nat.le_of_ble_eq_true rfl) (Nat.le_of_ble_eq_true rfl) (by omega) (by omega) (fun hp135 => ?_)
          have hF136 := hp135
          refine j_tight hK0 ?_
          obtain ⟨cp137, h⟩ := zchk_ex h
          refine j_le hK0 (zFx_cnt hF136) (fun hlecp137 => ?_)
          obtain ⟨r138, M139, S140, hy, h⟩ := zb3_ex h
          refine j_callTi hC hE lk_L_107 dL_build_165 (c_L_define l hlt g r132 M133 S134 hF136 hy) [zr g 1, zr g r132] [] rfl rfl rfl (Nat.le_of_ble_eq_true rfl) (Nat.le_of_ble_eq_true rfl) (Nat.le_of_ble_eq_true rfl) (by omega) (by omega) (fun hp141 => ?_)
          obtain ⟨hr138, hFr138⟩ := hp141
          refine j_tight hK0 ?_
          refine j_pop hC dL_build_168 rfl ?_
          obtain ⟨x142, ex142, h⟩ := zlet_ex h
          have hx142 : inR x142 := by rw [ex142]; exact inR_w _
          refine j_iinc hC 4 dL_build_169 rfl ex142 (Nat.le_of_ble_eq_true rfl) rfl ?_
          refine j_goto hC dL_build_172 rfl ?_
          obtain rfl := Option.some.inj h
          refine j_sub [1, 2, 3, 4, 0] rfl ?_
          exact ih111 x142 hx142 M139 S140 hFr138 hT
    exact main zN v4 hv4 M S hF hl
  have J_32 : ∀ (v2 : Int) (hv2 : inR v2) (M : zM) (S : zS) (hF : zFx S) (_ : F_L_build_J32 ln scr v2 M S = some (M', S')), zJ K g (S.1 - S0.1) (1000 * (S.1 - S0.1)) 32 7 [(0, zr g 1), (1, .ref (zgb g)), (2, .int (zi v2))] [] M S := by
    intro v2 hv2 M S hF h
    unfold F_L_build_J32 at h
    refine j_aload_n hC 0 dL_build_32 rfl rfl ?_
    obtain ⟨q143, eq143, h⟩ := zlet_ex h
    obtain ⟨cp144, h⟩ := zchk_ex h
    refine j_le hK0 (zFx_cnt hF) (fun hlecp144 => ?_)
    obtain ⟨M145, eM145, h⟩ := zlet_ex h
    refine j_fresh1 eq143 eM145 ?_
    obtain ⟨S146, eS146, h⟩ := zlet_ex h
    refine j_new hC hE n_L_38 pF_J4 dL_build_33 eq143 eS146 (Or.inr ⟨zFx_cnt hF, (Nat.le_of_ble_eq_true rfl)⟩) (by omega) (by omega) ?_
    have hF147 : zFx S146 := zFx_zn hF eS146
    refine j_tight hK0 ?_
    refine j_dup hC dL_build_36 (zr_cat _ _) ?_
    obtain ⟨cp148, h⟩ := zchk_ex h
    refine j_le hK0 (zFx_cnt hF147) (fun hlecp148 => ?_)
    obtain ⟨M149, S150, hy, h⟩ := zb2_ex h
    refine j_callIv hC hE lk_L_40 dL_build_37 (c_J4_init_da8c8 l hlt g q143 M145 S146 hF147 hy) [] [zr g q143, zr g 1] (by rw [eq143]; exact Nat.succ_ne_zero _) rfl rfl rfl (zcat (Nat.le_of_ble_eq_true rfl)) (Nat.le_of_ble_eq_true rfl) (Nat.le_of_ble_eq_true rfl) (by omega) (by omega) (fun hp151 => ?_)
    have hF152 := hp151
    refine j_tight hK0 ?_
    refine j_ldcq hC dL_build_40 zss_L_101 (Nat.le_of_ble_eq_true rfl) ?_
    obtain ⟨cp153, h⟩ := zchk_ex h
    refine j_le hK0 (zFx_cnt hF152) (fun hlecp153 => ?_)
    obtain ⟨hk, h⟩ := zchk_ex h
    have hk154 := hk
    obtain ⟨r155, M156, S157, hy, h⟩ := zb3_ex h
    refine j_callVr (ci := 8) hC hE lk_L_56 dL_build_42 (c_J4_append_15ec4 l hlt g q143 50 M149 S150 hF152 hy) [zr g 50] [zr g 1] hk154 ⟨_, rfl, by decide, rfl⟩ rfl rfl rfl (zcat (Nat.le_of_ble_eq_true rfl)) (Nat.le_of_ble_eq_true rfl) (Nat.le_of_ble_eq_true rfl) (by omega) (by omega) (fun hp158 => ?_)
    have hF159 := hp158
    refine j_tight hK0 ?_
    refine j_sload_n hC 1 dL_build_45 rfl rfl ?_
    refine j_iload_n hC 2 dL_build_46 rfl rfl ?_
    refine j_iconst hC dL_build_47 ?_
    obtain ⟨cp160, h⟩ := zchk_ex h
    refine j_le hK0 (zFx_cnt hF159) (fun hlecp160 => ?_)
    obtain ⟨r161, hy, h⟩ := zb1_ex h
    refine j_callSi hC hE lk_L_41 dL_build_48 (c_L_pick l hlt g hL ln hln scr hscr v2 5 hv2 kR_5 M156 S157 hF159 hy) [.ref (zgb g), .int (zi v2), .int (zi 5)] [zr g r155, zr g 1] rfl rfl rfl (zcat (Nat.le_of_ble_eq_true rfl)) (Nat.le_of_ble_eq_true rfl) (Nat.le_of_ble_eq_true rfl) (by omega) (by omega) (fun hp162 => ?_)
    have hr161 := hp162
    refine j_tight hK0 ?_
    obtain ⟨cp163, h⟩ := zchk_ex h
    refine j_le hK0 (zFx_cnt hF159) (fun hlecp163 => ?_)
    obtain ⟨r164, hy, h⟩ := zb1_ex h
    refine j_callSr hC hE lk_L_103 dL_build_51 (c_L_mode l hlt g r161 hr161 M156 S157 hF159 hy) [.int (zi r161)] [zr g r155, zr g 1] rfl rfl rfl (zcat (Nat.le_of_ble_eq_true rfl)) (Nat.le_of_ble_eq_true rfl) (Nat.le_of_ble_eq_true rfl) (by omega) (by omega) (fun hp165 => ?_)
    refine j_tight hK0 ?_
    obtain ⟨cp166, h⟩ := zchk_ex h
    refine j_le hK0 (zFx_cnt hF159) (fun hlecp166 => ?_)
    obtain ⟨hk, h⟩ := zchk_ex h
    have hk167 := hk
    obtain ⟨r168, M169, S170, hy, h⟩ := zb3_ex h
    refine j_callVr (ci := 8) hC hE lk_L_56 dL_build_54 (c_J4_append_15ec4 l hlt g r155 r164 M156 S157 hF159 hy) [zr g r164] [zr g 1] hk167 ⟨_, rfl, by decide, rfl⟩ rfl rfl rfl (zcat (Nat.le_of_ble_eq_true rfl)) (Nat.le_of_ble_eq_true rfl) (Nat.le_of_ble_eq_true rfl) (by omega) (by omega) (fun hp171 => ?_)
    have hF172 := hp171
    refine j_tight hK0 ?_
    obtain ⟨cp173, h⟩ := zchk_ex h
    refine j_le hK0 (zFx_cnt hF172) (fun hlecp173 => ?_)
    obtain ⟨hk, h⟩ := zchk_ex h
    have hk174 := hk
    obtain ⟨r175, M176, S177, hy, h⟩ := zb3_ex h
    refine j_callVr (ci := 8) hC hE lk_L_48 dL_build_57 (c_J4_toString_0e30d l hlt g r168 M169 S170 hF172 hy) [] [zr g 1] hk174 ⟨_, rfl, by decide, rfl⟩ rfl rfl rfl (zcat (Nat.le_of_ble_eq_true rfl)) (Nat.le_of_ble_eq_true rfl) (Nat.le_of_ble_eq_true rfl) (by omega) (by omega) (fun hp178 => ?_)
    have hF179 := hp178
    refine j_tight hK0 ?_
    obtain ⟨cp180, h⟩ := zchk_ex h
    refine j_le hK0 (zFx_cnt hF179) (fun hlecp180 => ?_)
    obtain ⟨r181, M182, S183, hy, h⟩ := zb3_ex h
    refine j_callTi hC hE lk_L_107 dL_build_60 (c_L_define l hlt g r175 M176 S177 hF179 hy) [zr g 1, zr g r175] [] rfl rfl rfl (Nat.le_of_ble_eq_true rfl) (Nat.le_of_ble_eq_true rfl) (Nat.le_of_ble_eq_true rfl) (by omega) (by omega) (fun hp184 => ?_)
    obtain ⟨hr181, hFr181⟩ := hp184
    refine j_tight hK0 ?_
    refine j_pop hC dL_build_63 rfl ?_
    refine j_aload_n hC 0 dL_build_64 rfl rfl ?_
    obtain ⟨q185, eq185, h⟩ := zlet_ex h
    obtain ⟨cp186, h⟩ := zchk_ex h
    refine j_le hK0 (zFx_cnt hFr181) (fun hlecp186 => ?_)
    obtain ⟨M187, eM187, h⟩ := zlet_ex h
    refine j_fresh1 eq185 eM187 ?_
    obtain ⟨S188, eS188, h⟩ := zlet_ex h
    refine j_new hC hE n_L_38 pF_J4 dL_build_65 eq185 eS188 (Or.inr ⟨zFx_cnt hFr181, (Nat.le_of_ble_eq_true rfl)⟩) (by omega) (by omega) ?_
    have hF189 : zFx S188 := zFx_zn hFr181 eS188
    refine j_tight hK0 ?_
    refine j_dup hC dL_build_68 (zr_cat _ _) ?_
    obtain ⟨cp190, h⟩ := zchk_ex h
    refine j_le hK0 (zFx_cnt hF189) (fun hlecp190 => ?_)
    obtain ⟨M191, S192, hy, h⟩ := zb2_ex h
    refine j_callIv hC hE lk_L_40 dL_build_69 (c_J4_init_da8c8 l hlt g q185 M187 S188 hF189 hy) [] [zr g q185, zr g 1] (by rw [eq185]; exact Nat.succ_ne_zero _) rfl rfl rfl (zcat (Nat.le_of_ble_eq_true rfl)) (Nat.le_of_ble_eq_true rfl) (Nat.le_of_ble_eq_true rfl) (by omega) (by omega) (fun hp193 => ?_)
    have hF194 := hp193
    refine j_tight hK0 ?_
    refine j_ldcq hC dL_build_72 zss_L_110 (Nat.le_of_ble_eq_true rfl) ?_
    obtain ⟨cp195, h⟩ := zchk_ex h
    refine j_le hK0 (zFx_cnt hF194) (fun hlecp195 => ?_)
    obtain ⟨hk, h⟩ := zchk_ex h
    have hk196 := hk
    obtain ⟨r197, M198, S199, hy, h⟩ := zb3_ex h
    refine j_callVr (ci := 8) hC hE lk_L_56 dL_build_74 (c_J4_append_15ec4 l hlt g q185 51 M191 S192 hF194 hy) [zr g 51] [zr g 1] hk196 ⟨_, rfl, by decide, rfl⟩ rfl rfl rfl (zcat (Nat.le_of_ble_eq_true rfl)) (Nat.le_of_ble_eq_true rfl) (Nat.le_of_ble_eq_true rfl) (by omega) (by omega) (fun hp200 => ?_)
    have hF201 := hp200
    refine j_tight hK0 ?_
    refine j_iconst hC dL_build_77 ?_
    refine j_sload_n hC 1 dL_build_78 rfl rfl ?_
    refine j_iload_n hC 2 dL_build_79 rfl rfl ?_
    refine j_iconst hC dL_build_80 ?_
    refine j_iadd hC dL_build_81 ?_
    refine j_iconst hC dL_build_82 ?_
    obtain ⟨cp202, h⟩ := zchk_ex h
    refine j_le hK0 (zFx_cnt hF201) (fun hlecp202 => ?_)
    obtain ⟨r203, hy, h⟩ := zb1_ex h
    refine j_callSi hC hE lk_L_41 dL_build_83 (c_L_pick l hlt g hL ln hln scr hscr (w (v2 + 1)) 4 (inR_w _) kR_4 M198 S199 hF201 hy) [.ref (zgb g), .int (zi (v2 + 1)), .int (zi 4)] [.int (zi 3), zr g r197, zr g 1] rfl (by simp only [zi_w, zl_wl]) rfl (zcat (Nat.le_of_ble_eq_true rfl)) (Nat.le_of_ble_eq_true rfl) (Nat.le_of_ble_eq_true rfl) (by omega) (by omega) (fun hp204 => ?_)
    have hr203 := hp204
    refine j_tight hK0 ?_
    refine j_iadd hC dL_build_86 ?_
    obtain ⟨cp205, h⟩ := zchk_ex h
    refine j_le hK0 (zFx_cnt hF201) (fun hlecp205 => ?_)
    obtain ⟨hk, h⟩ := zchk_ex h
    have hk206 := hk
    obtain ⟨r207, M208, S209, hy, h⟩ := zb3_ex h
    refine j_callVr (ci := 8) hC hE lk_L_59 dL_build_87 (c_J4_append_bf812 l hlt g r197 (w (3 + r203)) (inR_w _) M198 S199 hF201 hy) [.int (zi (3 + r203))] [zr g 1] hk206 ⟨_, rfl, by decide, rfl⟩ rfl (by simp only [zi_w, zl_wl]) rfl (zcat (Nat.le_of_ble_eq_true rfl)) (Nat.le_of_ble_eq_true rfl) (Nat.le_of_ble_eq_true rfl) (by omega) (by omega) (fun hp210 => ?_)
    have hF211 := hp210
    refine j_tight hK0 ?_
    obtain ⟨cp212, h⟩ := zchk_ex h
    refine j_le hK0 (zFx_cnt hF211) (fun hlecp212 => ?_)
    obtain ⟨hk, h⟩ := zchk_ex h
    have hk213 := hk
    obtain ⟨r214, M215, S216, hy, h⟩ := zb3_ex h
    refine j_callVr (ci := 8) hC hE lk_L_48 dL_build_90 (c_J4_toString_0e30d l hlt g r207 M208 S209 hF211 hy) [] [zr g 1] hk213 ⟨_, rfl, by decide, rfl⟩ rfl rfl rfl (zcat (Nat.le_of_ble_eq_true rfl)) (Nat.le_of_ble_eq_true rfl) (Nat.le_of_ble_eq_true rfl) (by omega) (by omega) (fun hp217 => ?_)
    have hF218 := hp217
    refine j_tight hK0 ?_
    obtain ⟨cp219, h⟩ := zchk_ex h
    refine j_le hK0 (zFx_cnt hF218) (fun hlecp219 => ?_)
    obtain ⟨r220, M221, S222, hy, h⟩ := zb3_ex h
    refine j_callTi hC hE lk_L_107 dL_build_93 (c_L_define l hlt g r214 M215 S216 hF218 hy) [zr g 1, zr g r214] [] rfl rfl rfl (Nat.le_of_ble_eq_true rfl) (Nat.le_of_ble_eq_true rfl) (Nat.le_of_ble_eq_true rfl) (by omega) (by omega) (fun hp223 => ?_)
    obtain ⟨hr220, hFr220⟩ := hp223
    refine j_tight hK0 ?_
    refine j_pop hC dL_build_96 rfl ?_
    refine j_iconst hC dL_build_97 ?_
    refine j_sload_n hC 1 dL_build_98 rfl rfl ?_
    refine j_iload_n hC 2 dL_build_99 rfl rfl ?_
    refine j_iconst hC dL_build_100 ?_
    refine j_iadd hC dL_build_101 ?_
    refine j_iconst hC dL_build_102 ?_
    obtain ⟨cp224, h⟩ := zchk_ex h
    refine j_le hK0 (zFx_cnt hFr220) (fun hlecp224 => ?_)
    obtain ⟨r225, hy, h⟩ := zb1_ex h
    refine j_callSi hC hE lk_L_41 dL_build_103 (c_L_pick l hlt g hL ln hln scr hscr (w (v2 + 2)) 3 (inR_w _) kR_3 M221 S222 hFr220 hy) [.ref (zgb g), .int (zi (v2 + 2)), .int (zi 3)] [.int (zi 1)] rfl (by simp only [zi_w, zl_wl]) rfl (zcat (Nat.le_of_ble_eq_true rfl)) (Nat.le_of_ble_eq_true rfl) (Nat.le_of_ble_eq_true rfl) (by omega) (by omega) (fun hp226 => ?_)
    have hr225 := hp226
    refine j_tight hK0 ?_
    refine j_iadd hC dL_build_106 ?_
    obtain ⟨x227, ex227, h⟩ := zlet_ex h
    have hx227 : inR x227 := by rw [ex227]; exact inR_w _
    refine j_namei ex227 ?_
    refine j_istore_n hC dL_build_107 rfl (Nat.le_of_ble_eq_true rfl) rfl ?_
    refine j_iconst hC dL_build_108 ?_
    refine j_istore hC dL_build_109 (Nat.le_of_ble_eq_true rfl) rfl ?_
    refine j_sub [2, 3, 4, 1, 0] rfl ?_
    exact L_111 v2 x227 0 hv2 hx227 kR_0 M221 S222 hFr220 h
  have L_16 : ∀ (v2 : Int) (hv2 : inR v2) (M : zM) (S : zS) (hF : zFx S) (_ : F_L_build_L16 ln scr v2 M S = some (M', S')), zJ K g (S.1 - S0.1) (1000 * (S.1 - S0.1)) 16 7 [(0, zr g 1), (1, .ref (zgb g)), (2, .int (zi v2))] [] M S := by
    intro v2 hv2 M S hF h
    unfold F_L_build_L16 at h
    obtain ⟨ex16, hl, hd16⟩ := zb1_ex h
    obtain ⟨bd16, ebd⟩ : ∃ f, f = (fun (s : zM × zS) => F_L_build_B16 ln scr v2 s.1 s.2) := ⟨_, rfl⟩
    rw [← ebd] at hl
    have main : ∀ (n16 : Nat) (M : zM) (S : zS) (hF : zFx S) (_ : zloop bd16 n16 (M, S) = some ex16), zJ K g (S.1 - S0.1) (1000 * (S.1 - S0.1)) 16 7 [(0, zr g 1), (1, .ref (zgb g)), (2, .int (zi v2))] [] M S := by
      intro n16
      induction n16 with
      | zero => intro M S hF hl; exact zloop_0 hl
      | succ n16 ih16 =>
        intro M S hF hl
        obtain ⟨o, h, hT⟩ := zloop_ex hl
        have h : F_L_build_B16 ln scr v2 M S = some o := by rw [ebd] at h; exact h
        unfold F_L_build_B16 at h
        refine j_aload_n hC 0 dL_build_16 rfl rfl ?_
        refine j_iconst hC dL_build_17 ?_
        obtain ⟨cp228, h⟩ := zchk_ex h
        refine j_le hK0 (zFx_cnt hF) (fun hlecp228 => ?_)
        obtain ⟨r232, M230, S231, hy, hx233, hk234⟩ := zbx_ex h
        refine j_callXVi (ci := 7) hC hE hN lk_L_90 dL_build_18 (c_X10_count l hlt g 1 kR_1 M S hF hy) [.int (zi 1)] [] (zFx_kd hF 1 rfl) ⟨_, rfl, by decide, rfl⟩ rfl rfl rfl (zcat (Nat.le_of_ble_eq_true rfl)) (Nat.le_of_ble_eq_true rfl) (Nat.le_of_ble_eq_true rfl) (by omega) (by omega) (fun e he hp235 => by cases hx233 e he) (fun r229 he hp235 => ?_)
        have h := hk234 r229 he
        subst he
        dsimp only [zRXi, zRXl] at hp235
        obtain ⟨hr229, hF236⟩ := hp235
        refine j_tight hK0 ?_
        refine j_if_le hC dL_build_21 rfl (w_id hr229) (fun c237 => ?_) (fun c237 => ?_)
        · have h := zf c237 h
          obtain rfl := Option.some.inj h
          have hx16 := hd16
          rw [← show _ = ex16 from hT] at hx16
          exact J_32 v2 hv2 M230 S231 hF236 hx16
        · have h := zt c237 h
          refine j_aload_n hC 0 dL_build_24 rfl rfl ?_
          refine j_iconst hC dL_build_25 ?_
          obtain ⟨cp238, h⟩ := zchk_ex h
          refine j_le hK0 (zFx_cnt hF236) (fun hlecp238 => ?_)
          obtain ⟨r241, M239, S240, hy, hx243, hk244⟩ := zbx_ex h
          refine j_callXVv (ci := 7) hC hE hN lk_L_98 dL_build_26 (c_X10_removeContext l hlt g 0 kR_0 M230 S231 hF236 hy) [.int (zi 0)] [] (zFx_kd hF236 1 rfl) ⟨_, rfl, by decide, rfl⟩ rfl rfl rfl (zcat (Nat.le_of_ble_eq_true rfl)) (Nat.le_of_ble_eq_true rfl) (Nat.le_of_ble_eq_true rfl) (by omega) (by omega) (fun e he hp245 => by cases hx243 e he) (fun u242 he hp245 => ?_)
          have h := hk244 u242 he
          subst he
          have hF246 := hp245
          refine j_tight hK0 ?_
          refine j_goto hC dL_build_29 rfl ?_
          obtain rfl := Option.some.inj h
          exact ih16 M239 S240 hF246 hT
    exact main zN M S hF hl
  have L_0 : ∀ (v2 : Int) (hv2 : inR v2) (M : zM) (S : zS) (hF : zFx S) (_ : F_L_build_L0 ln scr v2 M S = some (M', S')), zJ K g (S.1 - S0.1) (1000 * (S.1 - S0.1)) 0 7 [(0, zr g 1), (1, .ref (zgb g)), (2, .int (zi v2))] [] M S := by
    intro v2 hv2 M S hF h
    unfold F_L_build_L0 at h
    obtain ⟨ex0, hl, hd0⟩ := zb1_ex h
    obtain ⟨bd0, ebd⟩ : ∃ f, f = (fun (s : zM × zS) => F_L_build_B0 ln scr v2 s.1 s.2) := ⟨_, rfl⟩
    rw [← ebd] at hl
    have main : ∀ (n0 : Nat) (M : zM) (S : zS) (hF : zFx S) (_ : zloop bd0 n0 (M, S) = some ex0), zJ K g (S.1 - S0.1) (1000 * (S.1 - S0.1)) 0 7 [(0, zr g 1), (1, .ref (zgb g)), (2, .int (zi v2))] [] M S := by
      intro n0
      induction n0 with
      | zero => intro M S hF hl; exact zloop_0 hl
      | succ n0 ih0 =>
        intro M S hF hl
        obtain ⟨o, h, hT⟩ := zloop_ex hl
        have h : F_L_build_B0 ln scr v2 M S = some o := by rw [ebd] at h; exact h
        unfold F_L_build_B0 at h
        refine j_aload_n hC 0 dL_build_0 rfl rfl ?_
        refine j_iconst hC dL_build_1 ?_
        obtain ⟨cp247, h⟩ := zchk_ex h
        refine j_le hK0 (zFx_cnt hF) (fun hlecp247 => ?_)
        obtain ⟨r251, M249, S250, hy, hx252, hk253⟩ := zbx_ex h
        refine j_callXVi (ci := 7) hC hE hN lk_L_90 dL_build_2 (c_X10_count l hlt g 0 kR_0 M S hF hy) [.int (zi 0)] [] (zFx_kd hF 1 rfl) ⟨_, rfl, by decide, rfl⟩ rfl rfl rfl (zcat (Nat.le_of_ble_eq_true rfl)) (Nat.le_of_ble_eq_true rfl) (Nat.le_of_ble_eq_true rfl) (by omega) (by omega) (fun e he hp254 => by cases hx252 e he) (fun r248 he hp254 => ?_)
        have h := hk253 r248 he
        subst he
        dsimp only [zRXi, zRXl] at hp254
        obtain ⟨hr248, hF255⟩ := hp254
        refine j_tight hK0 ?_
        refine j_if_le hC dL_build_5 rfl (w_id hr248) (fun c256 => ?_) (fun c256 => ?_)
        · have h := zf c256 h
          obtain rfl := Option.some.inj h
          have hx0 := hd0
          rw [← show _ = ex0 from hT] at hx0
          exact L_16 v2 hv2 M249 S250 hF255 hx0
        · have h := zt c256 h
          refine j_aload_n hC 0 dL_build_8 rfl rfl ?_
          refine j_iconst hC dL_build_9 ?_
          obtain ⟨cp257, h⟩ := zchk_ex h
          refine j_le hK0 (zFx_cnt hF255) (fun hlecp257 => ?_)
          obtain ⟨r260, M258, S259, hy, hx262, hk263⟩ := zbx_ex h
          refine j_callXVv (ci := 7) hC hE hN lk_L_94 dL_build_10 (c_X10_removeAxiom l hlt g 0 kR_0 M249 S250 hF255 hy) [.int (zi 0)] [] (zFx_kd hF255 1 rfl) ⟨_, rfl, by decide, rfl⟩ rfl rfl rfl (zcat (Nat.le_of_ble_eq_true rfl)) (Nat.le_of_ble_eq_true rfl) (Nat.le_of_ble_eq_true rfl) (by omega) (by omega) (fun e he hp264 => by cases hx262 e he) (fun u261 he hp264 => ?_)
          have h := hk263 u261 he
          subst he
          have hF265 := hp264
          refine j_tight hK0 ?_
          refine j_goto hC dL_build_13 rfl ?_
          obtain rfl := Option.some.inj h
          exact ih0 M258 S259 hF265 hT
    exact main zN M S hF hl
  exact L_0 v2 hv2 M S hF h
set_option maxHeartbeats 4000000 in
set_option maxRecDepth 100000 in
theorem c_L_size (l : Launch) (hlt : l.stackTraces = false) (g : zG) (M : zM) (S : zS) (hF : zFx S) {r : Int} {M' : zM} {S' : zS} (h : F_L_size M S = some (r, M', S')) : zMetH l g yL_size cL_size 2 (some .int) [(0, 4, 5, 127)] 11 (6000 - S.1) (1000 * (6000 - S.1)) [zr g 1] M S (.inl (some (.int (zi r)))) M' S' (inR r ∧ zFx S') := by
  refine zMetH_ofL (by decide) hlt [(0, zr g 1)] rfl (Nat.le_of_ble_eq_true rfl) (zFx_cnt hF) (fun K hC hE hTb hK0 => ?_)
  obtain ⟨S0, eS0⟩ : ∃ S0 : zS, S0 = S := ⟨S, rfl⟩
  rw [← eS0] at hK0 hE
  refine j_tight hK0 ?_
  unfold F_L_size at h
  refine j_aload_n hC 0 dL_size_0 rfl rfl ?_
  obtain ⟨cp1, h⟩ := zchk_ex h
  refine j_le hK0 (zFx_cnt hF) (fun hlecp1 => ?_)
  obtain ⟨r5, M3, S4, hy, hx6, hk7⟩ := zbx_ex h
  refine j_callHVi (ci := 7) hC hE lk_L_124 dL_size_1 (c_X10_size l hlt g M S hF hy) [] [] (zFx_kd hF 1 rfl) ⟨_, rfl, by decide, rfl⟩ rfl rfl rfl (zcat (Nat.le_of_ble_eq_true rfl)) (Nat.le_of_ble_eq_true rfl) (Nat.le_of_ble_eq_true rfl) (by omega) (by omega) (fun e he hp8 => ?_) (fun r2 he hp8 => ?_)
  · have h := hx6 e he
    subst he
    have hF9 := hp8.2
    by_cases c12 : e = 3
    · subst c12
      have h := zt rfl h
      refine j_catch hC hTb (pre := []) (x := (0, 4, 5, 127)) (suf := []) rfl (fun z hz => by cases hz) (Nat.le_of_ble_eq_true rfl) (Nat.le_of_ble_eq_true rfl) (by decide) cl_L_127 kc_3 (fun qx => ?_)
      refine j_tight hK0 ?_
      refine j_sstore_n hC dL_size_5 rfl (Nat.le_of_ble_eq_true rfl) rfl ?_
      refine j_iconst hC dL_size_6 ?_
      obtain ⟨cp11, h⟩ := zchk_ex h
      refine j_le hK0 (zFx_cnt hF9) (fun hlecp11 => ?_)
      obtain ⟨e1, e2, e3⟩ := zpr3 (Option.some.inj h)
      exact j_iret hC hE dL_size_7 (w_id kR_m1) (zn_i _) (by rw [← e1]) e2 e3 ⟨(by rw [← e1]; exact kR_m1), (by rw [← e3]; exact hF9)⟩ (by omega) (by omega)
    have h := zf c12 h
    cases h
  · have h := hk7 r2 he
    subst he
    dsimp only [zRXi, zRXl] at hp8
    obtain ⟨hr2, hF9⟩ := hp8
    refine j_tight hK0 ?_
    obtain ⟨cp13, h⟩ := zchk_ex h
    refine j_le hK0 (zFx_cnt hF9) (fun hlecp13 => ?_)
    obtain ⟨e1, e2, e3⟩ := zpr3 (Option.some.inj h)
    exact j_iret hC hE dL_size_4 (w_id hr2) (zn_i _) (by rw [← e1]) e2 e3 ⟨(by rw [← e1]; exact hr2), (by rw [← e3]; exact hF9)⟩ (by omega) (by omega)
set_option maxHeartbeats 4000000 in
set_option maxRecDepth 100000 in
theorem c_L_word (l : Launch) (hlt : l.stackTraces = false) (g : zG) (M : zM) (S : zS) (hF : zFx S) {r : Nat} {M' : zM} {S' : zS} (h : F_L_word M S = some (r, M', S')) : zMet l g yL_word cL_word 3 (some (.object "java/lang/String")) 8 (6000 - S.1) (1000 * (6000 - S.1)) [zr g 1] M S (.inl (some (zr g r))) M' S' (zFx S') := by
  refine zMet_ofL (by decide) hlt [(0, zr g 1)] rfl (Nat.le_of_ble_eq_true rfl) (zFx_cnt hF) (fun K hC hE hN hK0 => ?_)
  obtain ⟨S0, eS0⟩ : ∃ S0 : zS, S0 = S := ⟨S, rfl⟩
  rw [← eS0] at hK0 hE
  refine j_tight hK0 ?_
  unfold F_L_word at h
  have J_34 : ∀ (v1 : Nat) (M : zM) (S : zS) (hF : zFx S) (_ : F_L_word_J34 v1 M S = some (r, M', S')), zJ K g (S.1 - S0.1) (1000 * (S.1 - S0.1)) 34 3 [(1, zr g v1)] [] M S := by
    intro v1 M S hF h
    unfold F_L_word_J34 at h
    refine j_aload_n hC 0 dL_word_34 rfl rfl ?_
    obtain ⟨cp1, h⟩ := zchk_ex h
    refine j_le hK0 (zFx_cnt hF) (fun hlecp1 => ?_)
    obtain ⟨hk, h⟩ := zchk_ex h
    have hk2 := hk
    obtain ⟨r3, M4, S5, hy, h⟩ := zb3_ex h
    refine j_callVr (ci := 8) hC hE lk_L_48 dL_word_35 (c_J4_toString_0e30d l hlt g v1 M S hF hy) [] [] hk2 ⟨_, rfl, by decide, rfl⟩ rfl rfl rfl (zcat (Nat.le_of_ble_eq_true rfl)) (Nat.le_of_ble_eq_true rfl) (Nat.le_of_ble_eq_true rfl) (by omega) (by omega) (fun hp6 => ?_)
    have hF7 := hp6
    refine j_tight hK0 ?_
    obtain ⟨cp8, h⟩ := zchk_ex h
    refine j_le hK0 (zFx_cnt hF7) (fun hlecp8 => ?_)
    obtain ⟨e1, e2, e3⟩ := zpr3 (Option.some.inj h)
    exact j_aret hC hE dL_word_38 (by rw [← e1]) e2 e3 (by rw [← e3]; exact hF7) (by omega) (by omega)
  have L_10 : ∀ (v1 : Nat) (v2 : Int) (hv2 : inR v2) (M : zM) (S : zS) (hF : zFx S) (_ : F_L_word_L10 v1 v2 M S = some (r, M', S')), zJ K g (S.1 - S0.1) (1000 * (S.1 - S0.1)) 10 3 [(0, zr g 1), (1, zr g v1), (2, .int (zi v2))] [] M S := by
    intro v1 v2 hv2 M S hF h
    unfold F_L_word_L10 at h
    obtain ⟨ex10, hl, hd10⟩ := zb1_ex h
    obtain ⟨bd10, ebd⟩ : ∃ f, f = (fun (s : Int × zM × zS) => F_L_word_B10 v1 s.1 s.2.1 s.2.2) := ⟨_, rfl⟩
    rw [← ebd] at hl
    have main : ∀ (n10 : Nat) (v2 : Int) (hv2 : inR v2) (M : zM) (S : zS) (hF : zFx S) (_ : zloop bd10 n10 (v2, M, S) = some ex10), zJ K g (S.1 - S0.1) (1000 * (S.1 - S0.1)) 10 3 [(0, zr g 1), (1, zr g v1), (2, .int (zi v2))] [] M S := by
      intro n10
      induction n10 with
      | zero => intro v2 hv2 M S hF hl; exact zloop_0 hl
      | succ n10 ih10 =>
        intro v2 hv2 M S hF hl
        obtain ⟨o, h, hT⟩ := zloop_ex hl
        have h : F_L_word_B10 v1 v2 M S = some o := by rw [ebd] at h; exact h
        unfold F_L_word_B10 at h
        refine j_iload_n hC 2 dL_word_10 rfl rfl ?_
        refine j_aload_n hC 0 dL_word_11 rfl rfl ?_
        obtain ⟨cp9, h⟩ := zchk_ex h
        refine j_le hK0 (zFx_cnt hF) (fun hlecp9 => ?_)
        obtain ⟨r10, hy, h⟩ := zb1_ex h
        refine j_callVi (ci := 7) hC hE lk_L_129 dL_word_12 (c_X10_wordLength l hlt g M S hF hy) [] [.int (zi v2)] (zFx_kd hF 1 rfl) ⟨_, rfl, by decide, rfl⟩ rfl rfl rfl (zcat (Nat.le_of_ble_eq_true rfl)) (Nat.le_of_ble_eq_true rfl) (Nat.le_of_ble_eq_true rfl) (by omega) (by omega) (fun hp11 => ?_)
        have hr10 := hp11
        refine j_tight hK0 ?_
        refine j_icmp_ge hC dL_word_15 rfl (w_id hv2) (w_id hr10) (fun c12 => ?_) (fun c12 => ?_)
        · have h := zf c12 h
          obtain rfl := Option.some.inj h
          have hx10 := hd10
          rw [← show _ = ex10 from hT] at hx10
          refine j_sub [1] rfl ?_
          exact J_34 v1 M S hF hx10
        · have h := zt c12 h
          refine j_aload_n hC 1 dL_word_18 rfl rfl ?_
          refine j_aload_n hC 0 dL_word_19 rfl rfl ?_
          refine j_iload_n hC 2 dL_word_20 rfl rfl ?_
          obtain ⟨cp13, h⟩ := zchk_ex h
          refine j_le hK0 (zFx_cnt hF) (fun hlecp13 => ?_)
          obtain ⟨r17, M15, S16, hy, hx18, hk19⟩ := zbx_ex h
          refine j_callXVi (ci := 7) hC hE hN lk_L_132 dL_word_21 (c_X10_letterAt l hlt g v2 hv2 M S hF hy) [.int (zi v2)] [zr g v1] (zFx_kd hF 1 rfl) ⟨_, rfl, by decide, rfl⟩ rfl rfl rfl (zcat (Nat.le_of_ble_eq_true rfl)) (Nat.le_of_ble_eq_true rfl) (Nat.le_of_ble_eq_true rfl) (by omega) (by omega) (fun e he hp20 => by cases hx18 e he) (fun r14 he hp20 => ?_)
          have h := hk19 r14 he
          subst he
          dsimp only [zRXi, zRXl] at hp20
          obtain ⟨hr14, hF21⟩ := hp20
          refine j_tight hK0 ?_
          obtain ⟨cp22, h⟩ := zchk_ex h
          refine j_le hK0 (zFx_cnt hF21) (fun hlecp22 => ?_)
          obtain ⟨hk, h⟩ := zchk_ex h
          have hk23 := hk
          obtain ⟨r24, M25, S26, hy, h⟩ := zb3_ex h
          refine j_callVr (ci := 8) hC hE lk_L_45 dL_word_24 (c_J4_append_cf468 l hlt g v1 r14 hr14 M15 S16 hF21 hy) [.int (zi r14)] [] hk23 ⟨_, rfl, by decide, rfl⟩ rfl rfl rfl (zcat (Nat.le_of_ble_eq_true rfl)) (Nat.le_of_ble_eq_true rfl) (Nat.le_of_ble_eq_true rfl) (by omega) (by omega) (fun hp27 => ?_)
          have hF28 := hp27
          refine j_tight hK0 ?_
          refine j_pop hC dL_word_27 (zr_cat _ _) ?_
          obtain ⟨x29, ex29, h⟩ := zlet_ex h
          have hx29 : inR x29 := by rw [ex29]; exact inR_w _
          refine j_iinc (lv1 := [(2, .int (zi x29)), (0, zr g 1), (1, zr g v1)]) hC 2 dL_word_28 rfl ex29 (Nat.le_of_ble_eq_true rfl) (by simp only [List.filter_cons, List.filter_nil, zr_cat, zc_i, zc_l, zc_d, zc_r] <;> first | rfl | simp [zr_cat]) ?_
          refine j_goto hC dL_word_31 rfl ?_
          obtain rfl := Option.some.inj h
          refine j_sub [1, 2, 0] rfl ?_
          exact ih10 x29 hx29 M25 S26 hF28 hT
    exact main zN v2 hv2 M S hF hl
  obtain ⟨q30, eq30, h⟩ := zlet_ex h
  obtain ⟨cp31, h⟩ := zchk_ex h
  refine j_le hK0 (zFx_cnt hF) (fun hlecp31 => ?_)
  obtain ⟨M32, eM32, h⟩ := zlet_ex h
  refine j_fresh1 eq30 eM32 ?_
  obtain ⟨S33, eS33, h⟩ := zlet_ex h
  refine j_new hC hE n_L_38 pF_J4 dL_word_0 eq30 eS33 (Or.inr ⟨zFx_cnt hF, (Nat.le_of_ble_eq_true rfl)⟩) (by omega) (by omega) ?_
  have hF34 : zFx S33 := zFx_zn hF eS33
  refine j_tight hK0 ?_
  refine j_dup hC dL_word_3 (zr_cat _ _) ?_
  obtain ⟨cp35, h⟩ := zchk_ex h
  refine j_le hK0 (zFx_cnt hF34) (fun hlecp35 => ?_)
  obtain ⟨M36, S37, hy, h⟩ := zb2_ex h
  refine j_callIv hC hE lk_L_40 dL_word_4 (c_J4_init_da8c8 l hlt g q30 M32 S33 hF34 hy) [] [zr g q30] (by rw [eq30]; exact Nat.succ_ne_zero _) rfl rfl rfl (zcat (Nat.le_of_ble_eq_true rfl)) (Nat.le_of_ble_eq_true rfl) (Nat.le_of_ble_eq_true rfl) (by omega) (by omega) (fun hp38 => ?_)
  have hF39 := hp38
  refine j_tight hK0 ?_
  refine j_astore_n hC dL_word_7 rfl (Nat.le_of_ble_eq_true rfl) rfl ?_
  refine j_iconst hC dL_word_8 ?_
  refine j_istore_n (lv1 := [(2, .int (zi 0)), (1, zr g q30), (0, zr g 1)]) hC dL_word_9 rfl (Nat.le_of_ble_eq_true rfl) (by simp only [List.filter_cons, List.filter_nil, zr_cat, zc_i, zc_l, zc_d, zc_r] <;> first | rfl | simp [zr_cat]) ?_
  refine j_sub [2, 1, 0] rfl ?_
  exact L_10 q30 0 kR_0 M36 S37 hF39 h
set_option maxHeartbeats 4000000 in
set_option maxRecDepth 100000 in
theorem c_L_rank (l : Launch) (hlt : l.stackTraces = false) (g : zG) (M : zM) (S : zS) (hF : zFx S) {r : Int} {M' : zM} {S' : zS} (h : F_L_rank M S = some (r, M', S')) : zMetH l g yL_rank cL_rank 2 (some .int) [(0, 4, 5, 138)] 11 (6000 - S.1) (1000 * (6000 - S.1)) [zr g 1] M S (.inl (some (.int (zi r)))) M' S' (inR r ∧ zFx S') := by
  refine zMetH_ofL (by decide) hlt [(0, zr g 1)] rfl (Nat.le_of_ble_eq_true rfl) (zFx_cnt hF) (fun K hC hE hTb hK0 => ?_)
  obtain ⟨S0, eS0⟩ : ∃ S0 : zS, S0 = S := ⟨S, rfl⟩
  rw [← eS0] at hK0 hE
  refine j_tight hK0 ?_
  unfold F_L_rank at h
  refine j_aload_n hC 0 dL_rank_0 rfl rfl ?_
  obtain ⟨cp1, h⟩ := zchk_ex h
  refine j_le hK0 (zFx_cnt hF) (fun hlecp1 => ?_)
  obtain ⟨r5, M3, S4, hy, hx6, hk7⟩ := zbx_ex h
  refine j_callHVi (ci := 7) hC hE lk_L_135 dL_rank_1 (c_X10_rank l hlt g M S hF hy) [] [] (zFx_kd hF 1 rfl) ⟨_, rfl, by decide, rfl⟩ rfl rfl rfl (zcat (Nat.le_of_ble_eq_true rfl)) (Nat.le_of_ble_eq_true rfl) (Nat.le_of_ble_eq_true rfl) (by omega) (by omega) (fun e he hp8 => ?_) (fun r2 he hp8 => ?_)
  · have h := hx6 e he
    subst he
    have hF9 := hp8.2
    by_cases c12 : e = 4
    · subst c12
      have h := zt rfl h
      refine j_catch hC hTb (pre := []) (x := (0, 4, 5, 138)) (suf := []) rfl (fun z hz => by cases hz) (Nat.le_of_ble_eq_true rfl) (Nat.le_of_ble_eq_true rfl) (by decide) cl_L_138 kc_4 (fun qx => ?_)
      refine j_tight hK0 ?_
      refine j_sstore_n hC dL_rank_5 rfl (Nat.le_of_ble_eq_true rfl) rfl ?_
      refine j_iconst hC dL_rank_6 ?_
      obtain ⟨cp11, h⟩ := zchk_ex h
      refine j_le hK0 (zFx_cnt hF9) (fun hlecp11 => ?_)
      obtain ⟨e1, e2, e3⟩ := zpr3 (Option.some.inj h)
      exact j_iret hC hE dL_rank_7 (w_id kR_m1) (zn_i _) (by rw [← e1]) e2 e3 ⟨(by rw [← e1]; exact kR_m1), (by rw [← e3]; exact hF9)⟩ (by omega) (by omega)
    have h := zf c12 h
    cases h
  · have h := hk7 r2 he
    subst he
    dsimp only [zRXi, zRXl] at hp8
    obtain ⟨hr2, hF9⟩ := hp8
    refine j_tight hK0 ?_
    obtain ⟨cp13, h⟩ := zchk_ex h
    refine j_le hK0 (zFx_cnt hF9) (fun hlecp13 => ?_)
    obtain ⟨e1, e2, e3⟩ := zpr3 (Option.some.inj h)
    exact j_iret hC hE dL_rank_4 (w_id hr2) (zn_i _) (by rw [← e1]) e2 e3 ⟨(by rw [← e1]; exact hr2), (by rw [← e3]; exact hF9)⟩ (by omega) (by omega)
set_option maxHeartbeats 4000000 in
set_option maxRecDepth 100000 in
theorem c_L_isOrdered (l : Launch) (hlt : l.stackTraces = false) (g : zG) (v0 : Nat) (v1 : Nat) (M : zM) (S : zS) (hF : zFx S) {r : Int} (h : F_L_isOrdered v0 v1 M S = some r) : zMet l g yL_isOrdered cL_isOrdered 2 (some .boolean) 8 0 0 [zr g v0, zr g v1] M S (.inl (some (.int (zi r)))) M S (inR r) := by
  refine zMet_of (by decide) hlt [(0, zr g v0), (1, zr g v1)] (by simp only [lv_args, zr_cat, zc_i, zc_l, zc_d, zc_r] <;> rfl) (by rw [zsl_len]; simp only [List.map_cons, List.map_nil, zr_cat, zc_i, zc_l, zc_d, zc_r, List.sum_cons, List.sum_nil] <;> decide) (fun K hC hE hN => ?_)
  unfold F_L_isOrdered at h
  have J_30 : ∀ (_ : F_L_isOrdered_J30 M S = some r), zJ K g 0 0 30 2 [] [] M S := by
    intro h
    unfold F_L_isOrdered_J30 at h
    refine j_iconst hC dL_isOrdered_30 ?_
    refine j_goto hC dL_isOrdered_31 rfl ?_
    have e1 := Option.some.inj h
    exact j_iret hC hE dL_isOrdered_35 (w_id kR_1) (zn_z zb01_1) (by rw [← e1]) rfl rfl (by rw [← e1]; exact kR_1) (Nat.le_of_ble_eq_true rfl) (Nat.le_of_ble_eq_true rfl)
  have J_34 : ∀ (_ : F_L_isOrdered_J34 M S = some r), zJ K g 0 0 34 2 [] [] M S := by
    intro h
    unfold F_L_isOrdered_J34 at h
    refine j_iconst hC dL_isOrdered_34 ?_
    have e1 := Option.some.inj h
    exact j_iret hC hE dL_isOrdered_35 (w_id kR_0) (zn_z zb01_0) (by rw [← e1]) rfl rfl (by rw [← e1]; exact kR_0) (Nat.le_of_ble_eq_true rfl) (Nat.le_of_ble_eq_true rfl)
  refine j_aload_n hC 0 dL_isOrdered_0 rfl rfl ?_
  obtain ⟨r1, hy, h⟩ := zb1_ex h
  refine j_lenM hC hE hlt hF lk_L_15 dL_isOrdered_1 hy (Nat.le_of_ble_eq_true rfl) (Nat.le_of_ble_eq_true rfl) (Nat.le_of_ble_eq_true rfl) (Nat.le_of_ble_eq_true rfl) (fun hr1 => ?_)
  refine j_aload_n hC 1 dL_isOrdered_4 rfl rfl ?_
  obtain ⟨r2, hy, h⟩ := zb1_ex h
  refine j_lenM hC hE hlt hF lk_L_15 dL_isOrdered_5 hy (Nat.le_of_ble_eq_true rfl) (Nat.le_of_ble_eq_true rfl) (Nat.le_of_ble_eq_true rfl) (Nat.le_of_ble_eq_true rfl) (fun hr2 => ?_)
  refine j_icmp_lt hC dL_isOrdered_8 rfl (w_id hr1) (w_id hr2) (fun c3 => ?_) (fun c3 => ?_)
  · have h := zt c3 h
    refine j_sub [] rfl ?_
    exact J_30 h
  · have h := zf c3 h
    refine j_aload_n hC 0 dL_isOrdered_11 rfl rfl ?_
    obtain ⟨r4, hy, h⟩ := zb1_ex h
    refine j_lenM hC hE hlt hF lk_L_15 dL_isOrdered_12 hy (Nat.le_of_ble_eq_true rfl) (Nat.le_of_ble_eq_true rfl) (Nat.le_of_ble_eq_true rfl) (Nat.le_of_ble_eq_true rfl) (fun hr4 => ?_)
    refine j_aload_n hC 1 dL_isOrdered_15 rfl rfl ?_
    obtain ⟨r5, hy, h⟩ := zb1_ex h
    refine j_lenM hC hE hlt hF lk_L_15 dL_isOrdered_16 hy (Nat.le_of_ble_eq_true rfl) (Nat.le_of_ble_eq_true rfl) (Nat.le_of_ble_eq_true rfl) (Nat.le_of_ble_eq_true rfl) (fun hr5 => ?_)
    refine j_icmp_ne hC dL_isOrdered_19 rfl (w_id hr4) (w_id hr5) (fun c6 => ?_) (fun c6 => ?_)
    · have h := zf c6 h
      refine j_sub [] rfl ?_
      exact J_34 h
    · have h := zt c6 h
      refine j_aload_n hC 0 dL_isOrdered_22 rfl rfl ?_
      refine j_aload_n hC 1 dL_isOrdered_23 rfl rfl ?_
      obtain ⟨hk, h⟩ := zchk_ex h
      have hk7 := hk
      obtain ⟨r8, hy, h⟩ := zb1_ex h
      refine j_callVi (ci := 9) hC hE lk_L_140 dL_isOrdered_24 (c_J0_compareTo_2f485 l hlt g v0 v1 M S hF hy) [zr g v1] [] hk7 ⟨_, rfl, by decide, rfl⟩ rfl rfl rfl (zcat (Nat.le_of_ble_eq_true rfl)) (Nat.le_of_ble_eq_true rfl) (Nat.le_of_ble_eq_true rfl) (Nat.le_of_ble_eq_true rfl) (Nat.le_of_ble_eq_true rfl) (fun hp9 => ?_)
      have hr8 := hp9
      refine j_if_ge hC dL_isOrdered_27 rfl (w_id hr8) (fun c10 => ?_) (fun c10 => ?_)
      · have h := zf c10 h
        refine j_sub [] rfl ?_
        exact J_34 h
      · have h := zt c10 h
        refine j_sub [] rfl ?_
        exact J_30 h
set_option maxHeartbeats 4000000 in
set_option maxRecDepth 100000 in
theorem c_L_areWords (l : Launch) (hlt : l.stackTraces = false) (g : zG) (v1 : Int) (v2 : Nat) (v3 : Nat) (hv1 : inR v1) (M : zM) (S : zS) (hF : zFx S) {r : Int} {M' : zM} {S' : zS} (h : F_L_areWords v1 v2 v3 M S = some (r, M', S')) : zMet l g yL_areWords cL_areWords 11 (some .boolean) 12 (6000 - S.1) (1000 * (6000 - S.1)) [zr g 1, .int (zi v1), zr g v2, zr g v3] M S (.inl (some (.int (zi r)))) M' S' (inR r ∧ zFx S') := by
  refine zMet_ofL (by decide) hlt [(0, zr g 1), (1, .int (zi v1)), (2, zr g v2), (3, zr g v3)] (by simp only [lv_args, zr_cat, zc_i, zc_l, zc_d, zc_r] <;> rfl) (by rw [zsl_len]; simp only [List.map_cons, List.map_nil, zr_cat, zc_i, zc_l, zc_d, zc_r, List.sum_cons, List.sum_nil] <;> decide) (zFx_cnt hF) (fun K hC hE hN hK0 => ?_)
  obtain ⟨S0, eS0⟩ : ∃ S0 : zS, S0 = S := ⟨S, rfl⟩
  rw [← eS0] at hK0 hE
  refine j_tight hK0 ?_
  unfold F_L_areWords at h
  have J_201 : ∀ (v5 : Int) (hv5 : inR v5) (M : zM) (S : zS) (hF : zFx S) (_ : F_L_areWords_J201 v5 M S = some (r, M', S')), zJ K g (S.1 - S0.1) (1000 * (S.1 - S0.1)) 201 11 [(5, .int (zi v5))] [] M S := by
    intro v5 hv5 M S hF h
    unfold F_L_areWords_J201 at h
    refine j_iload hC 0 dL_areWords_201 rfl ?_
    obtain ⟨c1, h⟩ := zchk_ex h
    obtain ⟨cp2, h⟩ := zchk_ex h
    refine j_le hK0 (zFx_cnt hF) (fun hlecp2 => ?_)
    obtain ⟨e1, e2, e3⟩ := zpr3 (Option.some.inj h)
    exact j_iret hC hE dL_areWords_203 (w_id hv5) (zn_z c1) (by rw [← e1]) e2 e3 ⟨(by rw [← e1]; exact hv5), (by rw [← e3]; exact hF)⟩ (by omega) (by omega)
  have L_10 : ∀ (v1 : Int) (v2 : Nat) (v3 : Nat) (v4 : Nat) (v5 : Int) (v6 : Int) (hv1 : inR v1) (hv5 : inR v5) (hv6 : inR v6) (M : zM) (S : zS) (hF : zFx S) (_ : F_L_areWords_L10 v1 v2 v3 v4 v5 v6 M S = some (r, M', S')), zJ K g (S.1 - S0.1) (1000 * (S.1 - S0.1)) 10 11 [(0, zr g 1), (1, .int (zi v1)), (2, zr g v2), (3, zr g v3), (4, zr g v4), (5, .int (zi v5)), (6, .int (zi v6))] [] M S := by
    intro v1 v2 v3 v4 v5 v6 hv1 hv5 hv6 M S hF h
    unfold F_L_areWords_L10 at h
    obtain ⟨ex10, hl, hd10⟩ := zb1_ex h
    obtain ⟨bd10, ebd⟩ : ∃ f, f = (fun (s : Nat × Int × Int × zM × zS) => F_L_areWords_B10 v1 v2 v3 s.1 s.2.1 s.2.2.1 s.2.2.2.1 s.2.2.2.2) := ⟨_, rfl⟩
    rw [← ebd] at hl
    have main : ∀ (n10 : Nat) (v4 : Nat) (v5 : Int) (v6 : Int) (hv5 : inR v5) (hv6 : inR v6) (M : zM) (S : zS) (hF : zFx S) (_ : zloop bd10 n10 (v4, v5, v6, M, S) = some ex10), zJ K g (S.1 - S0.1) (1000 * (S.1 - S0.1)) 10 11 [(0, zr g 1), (1, .int (zi v1)), (2, zr g v2), (3, zr g v3), (4, zr g v4), (5, .int (zi v5)), (6, .int (zi v6))] [] M S := by
      intro n10
      induction n10 with
      | zero => intro v4 v5 v6 hv5 hv6 M S hF hl; exact zloop_0 hl
      | succ n10 ih10 =>
        have J_195 : ∀ (v4 : Nat) (v5 : Int) (v6 : Int) (hv5 : inR v5) (hv6 : inR v6) (M : zM) (S : zS) (hF : zFx S) (o : _) (_ : F_L_areWords_J195 v1 v2 v3 v4 v5 v6 M S = some o), zAft (bd10) n10 ex10 o → zJ K g (S.1 - S0.1) (1000 * (S.1 - S0.1)) 195 11 [(0, zr g 1), (1, .int (zi v1)), (2, zr g v2), (3, zr g v3), (4, zr g v4), (5, .int (zi v5)), (6, .int (zi v6))] [] M S := by
          intro v4 v5 v6 hv5 hv6 M S hF o h hT
          unfold F_L_areWords_J195 at h
          obtain ⟨x3, ex3, h⟩ := zlet_ex h
          have hx3 : inR x3 := by rw [ex3]; exact inR_w _
          refine j_iinc hC 6 dL_areWords_195 rfl ex3 (Nat.le_of_ble_eq_true rfl) rfl ?_
          refine j_goto hC dL_areWords_198 rfl ?_
          obtain rfl := Option.some.inj h
          refine j_sub [1, 2, 3, 4, 5, 6, 0] rfl ?_
          exact ih10 v4 v5 x3 hv5 hx3 M S hF hT
        have L_167 : ∀ (v4 : Nat) (v5 : Int) (v6 : Int) (v8 : Int) (v9 : Int) (hv5 : inR v5) (hv6 : inR v6) (hv8 : inR v8) (hv9 : inR v9) (M : zM) (S : zS) (hF : zFx S) (o : _) (_ : F_L_areWords_L167 v1 v2 v3 v4 v5 v6 v8 v9 M S = some o), zAft (bd10) n10 ex10 o → zJ K g (S.1 - S0.1) (1000 * (S.1 - S0.1)) 167 11 [(0, zr g 1), (1, .int (zi v1)), (2, zr g v2), (3, zr g v3), (4, zr g v4), (5, .int (zi v5)), (6, .int (zi v6)), (8, .int (zi v8)), (9, .int (zi v9))] [] M S := by
          intro v4 v5 v6 v8 v9 hv5 hv6 hv8 hv9 M S hF oh167 h hT167
          unfold F_L_areWords_L167 at h
          obtain ⟨ex167, hl, hd167⟩ := zb1_ex h
          obtain ⟨bd167, ebd⟩ : ∃ f, f = (fun (s : Int × zM × zS) => F_L_areWords_B167 v1 v2 v3 v4 v5 v6 v8 s.1 s.2.1 s.2.2) := ⟨_, rfl⟩
          rw [← ebd] at hl
          have main : ∀ (n167 : Nat) (v9 : Int) (hv9 : inR v9) (M : zM) (S : zS) (hF : zFx S) (_ : zloop bd167 n167 (v9, M, S) = some ex167), zJ K g (S.1 - S0.1) (1000 * (S.1 - S0.1)) 167 11 [(0, zr g 1), (1, .int (zi v1)), (2, zr g v2), (3, zr g v3), (4, zr g v4), (5, .int (zi v5)), (6, .int (zi v6)), (8, .int (zi v8)), (9, .int (zi v9))] [] M S := by
            intro n167
            induction n167 with
            | zero => intro v9 hv9 M S hF hl; exact zloop_0 hl
            | succ n167 ih167 =>
              intro v9 hv9 M S hF hl
              obtain ⟨o, h, hT⟩ := zloop_ex hl
              have h : F_L_areWords_B167 v1 v2 v3 v4 v5 v6 v8 v9 M S = some o := by rw [ebd] at h; exact h
              unfold F_L_areWords_B167 at h
              refine j_iload hC 8 dL_areWords_167 rfl ?_
              refine j_iload hC 7 dL_areWords_169 rfl ?_
              refine j_icmp_ge hC dL_areWords_171 rfl (w_id hv9) (w_id hv8) (fun c4 => ?_) (fun c4 => ?_)
              · have h := zf c4 h
                obtain rfl := Option.some.inj h
                have hx167 := hd167
                rw [← show _ = ex167 from hT] at hx167
                refine j_sub [0, 1, 2, 3, 4, 5, 6] rfl ?_
                exact J_195 v4 v5 v6 hv5 hv6 M S hF _ hx167 hT167
              · have h := zt c4 h
                refine j_aload_n hC 0 dL_areWords_174 rfl rfl ?_
                refine j_iload hC 6 dL_areWords_175 rfl ?_
                obtain ⟨cp5, h⟩ := zchk_ex h
                refine j_le hK0 (zFx_cnt hF) (fun hlecp5 => ?_)
                obtain ⟨r8, M6, S7, hy, hx10, hk11⟩ := zbx_ex h
                refine j_callXVv (ci := 7) hC hE hN lk_L_146 dL_areWords_177 (c_X10_takeWord l hlt g v6 hv6 M S hF hy) [.int (zi v6)] [] (zFx_kd hF 1 rfl) ⟨_, rfl, by decide, rfl⟩ rfl rfl rfl (zcat (Nat.le_of_ble_eq_true rfl)) (Nat.le_of_ble_eq_true rfl) (Nat.le_of_ble_eq_true rfl) (by omega) (by omega) (fun e he hp12 => by cases hx10 e he) (fun u9 he hp12 => ?_)
                have h := hk11 u9 he
                subst he
                have hF13 := hp12
                refine j_tight hK0 ?_
                refine j_aload_n hC 3 dL_areWords_180 rfl rfl ?_
                refine j_aload_n hC 0 dL_areWords_181 rfl rfl ?_
                refine j_iload hC 8 dL_areWords_182 rfl ?_
                obtain ⟨cp14, h⟩ := zchk_ex h
                refine j_le hK0 (zFx_cnt hF13) (fun hlecp14 => ?_)
                obtain ⟨r18, M16, S17, hy, hx19, hk20⟩ := zbx_ex h
                refine j_callXVi (ci := 7) hC hE hN lk_L_167 dL_areWords_184 (c_X10_insert l hlt g v9 hv9 M6 S7 hF13 hy) [.int (zi v9)] [zr g v3] (zFx_kd hF13 1 rfl) ⟨_, rfl, by decide, rfl⟩ rfl rfl rfl (zcat (Nat.le_of_ble_eq_true rfl)) (Nat.le_of_ble_eq_true rfl) (Nat.le_of_ble_eq_true rfl) (by omega) (by omega) (fun e he hp21 => by cases hx19 e he) (fun r15 he hp21 => ?_)
                have h := hk20 r15 he
                subst he
                dsimp only [zRXi, zRXl] at hp21
                obtain ⟨hr15, hF22⟩ := hp21
                refine j_tight hK0 ?_
                refine j_iconst hC dL_areWords_187 ?_
                obtain ⟨hk, h⟩ := zchk_ex h
                have hk23 := hk
                obtain ⟨c24, h⟩ := zchk_ex h
                obtain ⟨M25, eM25, h⟩ := zlet_ex h
                refine j_zast (n := (zlen S17 v3)) hC dL_areWords_188 (w_id hr15) (w_id kR_1) zb01_1 hk23 rfl c24.1 c24.2 eM25 ?_
                obtain ⟨x26, ex26, h⟩ := zlet_ex h
                have hx26 : inR x26 := by rw [ex26]; exact inR_w _
                refine j_iinc hC 8 dL_areWords_189 rfl ex26 (Nat.le_of_ble_eq_true rfl) rfl ?_
                refine j_goto hC dL_areWords_192 rfl ?_
                obtain rfl := Option.some.inj h
                refine j_sub [1, 2, 3, 4, 5, 6, 7, 8, 0] rfl ?_
                exact ih167 x26 hx26 M25 S17 hF22 hT
          exact main zN v9 hv9 M S hF hl
        have J_163 : ∀ (v4 : Nat) (v5 : Int) (v6 : Int) (v8 : Int) (hv5 : inR v5) (hv6 : inR v6) (hv8 : inR v8) (M : zM) (S : zS) (hF : zFx S) (o : _) (_ : F_L_areWords_J163 v1 v2 v3 v4 v5 v6 v8 M S = some o), zAft (bd10) n10 ex10 o → zJ K g (S.1 - S0.1) (1000 * (S.1 - S0.1)) 163 11 [(0, zr g 1), (1, .int (zi v1)), (2, zr g v2), (3, zr g v3), (4, zr g v4), (5, .int (zi v5)), (6, .int (zi v6)), (8, .int (zi v8))] [] M S := by
          intro v4 v5 v6 v8 hv5 hv6 hv8 M S hF o h hT
          unfold F_L_areWords_J163 at h
          refine j_bipush hC dL_areWords_163 rfl ?_
          refine j_istore hC dL_areWords_165 (Nat.le_of_ble_eq_true rfl) rfl ?_
          refine j_sub [1, 2, 3, 4, 5, 6, 7, 8, 0] rfl ?_
          exact L_167 v4 v5 v6 v8 12 hv5 hv6 hv8 kR_12 M S hF _ h hT
        have L_103 : ∀ (v4 : Nat) (v5 : Int) (v6 : Int) (v8 : Int) (v9 : Int) (hv5 : inR v5) (hv6 : inR v6) (hv8 : inR v8) (hv9 : inR v9) (M : zM) (S : zS) (hF : zFx S) (o : _) (_ : F_L_areWords_L103 v1 v2 v3 v4 v5 v6 v8 v9 M S = some o), zAft (bd10) n10 ex10 o → zJ K g (S.1 - S0.1) (1000 * (S.1 - S0.1)) 103 11 [(0, zr g 1), (1, .int (zi v1)), (2, zr g v2), (3, zr g v3), (4, zr g v4), (5, .int (zi v5)), (6, .int (zi v6)), (8, .int (zi v8)), (9, .int (zi v9))] [] M S := by
          intro v4 v5 v6 v8 v9 hv5 hv6 hv8 hv9 M S hF oh103 h hT103
          unfold F_L_areWords_L103 at h
          obtain ⟨ex103, hl, hd103⟩ := zb1_ex h
          obtain ⟨bd103, ebd⟩ : ∃ f, f = (fun (s : Int × Int × zM × zS) => F_L_areWords_B103 v1 v2 v3 v4 s.1 v6 v8 s.2.1 s.2.2.1 s.2.2.2) := ⟨_, rfl⟩
          rw [← ebd] at hl
          have main : ∀ (n103 : Nat) (v5 : Int) (v9 : Int) (hv5 : inR v5) (hv9 : inR v9) (M : zM) (S : zS) (hF : zFx S) (_ : zloop bd103 n103 (v5, v9, M, S) = some ex103), zJ K g (S.1 - S0.1) (1000 * (S.1 - S0.1)) 103 11 [(0, zr g 1), (1, .int (zi v1)), (2, zr g v2), (3, zr g v3), (4, zr g v4), (5, .int (zi v5)), (6, .int (zi v6)), (8, .int (zi v8)), (9, .int (zi v9))] [] M S := by
            intro n103
            induction n103 with
            | zero => intro v5 v9 hv5 hv9 M S hF hl; exact zloop_0 hl
            | succ n103 ih103 =>
              have J_155 : ∀ (v9 : Int) (t0 : Int) (hv9 : inR v9) (ht0 : inR t0) (M : zM) (S : zS) (hF : zFx S) (o : _) (_ : F_L_areWords_J155 v1 v2 v3 v4 v6 v8 v9 t0 M S = some o), zAft (bd103) n103 ex103 o → zJ K g (S.1 - S0.1) (1000 * (S.1 - S0.1)) 155 11 [(0, zr g 1), (1, .int (zi v1)), (2, zr g v2), (3, zr g v3), (4, zr g v4), (6, .int (zi v6)), (8, .int (zi v8)), (9, .int (zi v9))] [.int (zi t0)] M S := by
                intro v9 t0 hv9 ht0 M S hF o h hT
                unfold F_L_areWords_J155 at h
                refine j_istore (lv1 := [(5, .int (zi t0)), (0, zr g 1), (1, .int (zi v1)), (2, zr g v2), (3, zr g v3), (4, zr g v4), (6, .int (zi v6)), (8, .int (zi v8)), (9, .int (zi v9))]) hC dL_areWords_155 (Nat.le_of_ble_eq_true rfl) (by simp only [List.filter_cons, List.filter_nil, zr_cat, zc_i, zc_l, zc_d, zc_r] <;> first | rfl | simp [zr_cat]) ?_
                obtain ⟨x27, ex27, h⟩ := zlet_ex h
                have hx27 : inR x27 := by rw [ex27]; exact inR_w _
                refine j_iinc hC 8 dL_areWords_157 rfl ex27 (Nat.le_of_ble_eq_true rfl) rfl ?_
                refine j_goto hC dL_areWords_160 rfl ?_
                obtain rfl := Option.some.inj h
                refine j_sub [2, 3, 4, 5, 6, 1, 7, 8, 0] rfl ?_
                exact ih103 t0 x27 ht0 hx27 M S hF hT
              have J_154 : ∀ (v9 : Int) (hv9 : inR v9) (M : zM) (S : zS) (hF : zFx S) (o : _) (_ : F_L_areWords_J154 v1 v2 v3 v4 v6 v8 v9 M S = some o), zAft (bd103) n103 ex103 o → zJ K g (S.1 - S0.1) (1000 * (S.1 - S0.1)) 154 11 [(0, zr g 1), (1, .int (zi v1)), (2, zr g v2), (3, zr g v3), (4, zr g v4), (6, .int (zi v6)), (8, .int (zi v8)), (9, .int (zi v9))] [] M S := by
                intro v9 hv9 M S hF o h hT
                unfold F_L_areWords_J154 at h
                refine j_iconst hC dL_areWords_154 ?_
                exact J_155 v9 0 hv9 kR_0 M S hF _ h hT
              intro v5 v9 hv5 hv9 M S hF hl
              obtain ⟨o, h, hT⟩ := zloop_ex hl
              have h : F_L_areWords_B103 v1 v2 v3 v4 v5 v6 v8 v9 M S = some o := by rw [ebd] at h; exact h
              unfold F_L_areWords_B103 at h
              refine j_iload hC 8 dL_areWords_103 rfl ?_
              refine j_iload hC 7 dL_areWords_105 rfl ?_
              refine j_icmp_ge hC dL_areWords_107 rfl (w_id hv9) (w_id hv8) (fun c28 => ?_) (fun c28 => ?_)
              · have h := zf c28 h
                obtain rfl := Option.some.inj h
                have hx103 := hd103
                rw [← show _ = ex103 from hT] at hx103
                refine j_sub [0, 1, 2, 3, 4, 5, 6, 7] rfl ?_
                exact J_163 v4 v5 v6 v8 hv5 hv6 hv8 M S hF _ hx103 hT103
              · have h := zt c28 h
                refine j_iload hC 8 dL_areWords_110 rfl ?_
                refine j_bipush hC dL_areWords_112 rfl ?_
                refine j_icmp_ge hC dL_areWords_114 rfl (w_id hv9) (w_id kR_12) (fun c29 => ?_) (fun c29 => ?_)
                · have h := zf c29 h
                  obtain rfl := Option.some.inj h
                  have hx103 := hd103
                  rw [← show _ = ex103 from hT] at hx103
                  refine j_sub [0, 1, 2, 3, 4, 5, 6, 7] rfl ?_
                  exact J_163 v4 v5 v6 v8 hv5 hv6 hv8 M S hF _ hx103 hT103
                · have h := zt c29 h
                  refine j_aload_n hC 0 dL_areWords_117 rfl rfl ?_
                  refine j_iload hC 6 dL_areWords_118 rfl ?_
                  obtain ⟨cp30, h⟩ := zchk_ex h
                  refine j_le hK0 (zFx_cnt hF) (fun hlecp30 => ?_)
                  obtain ⟨r33, M31, S32, hy, hx35, hk36⟩ := zbx_ex h
                  refine j_callXVv (ci := 7) hC hE hN lk_L_146 dL_areWords_120 (c_X10_takeWord l hlt g v6 hv6 M S hF hy) [.int (zi v6)] [] (zFx_kd hF 1 rfl) ⟨_, rfl, by decide, rfl⟩ rfl rfl rfl (zcat (Nat.le_of_ble_eq_true rfl)) (Nat.le_of_ble_eq_true rfl) (Nat.le_of_ble_eq_true rfl) (by omega) (by omega) (fun e he hp37 => by cases hx35 e he) (fun u34 he hp37 => ?_)
                  have h := hk36 u34 he
                  subst he
                  have hF38 := hp37
                  refine j_tight hK0 ?_
                  refine j_aload_n hC 0 dL_areWords_123 rfl rfl ?_
                  refine j_iload hC 8 dL_areWords_124 rfl ?_
                  obtain ⟨cp39, h⟩ := zchk_ex h
                  refine j_le hK0 (zFx_cnt hF38) (fun hlecp39 => ?_)
                  obtain ⟨r43, M41, S42, hy, hx44, hk45⟩ := zbx_ex h
                  refine j_callXVi (ci := 7) hC hE hN lk_L_167 dL_areWords_126 (c_X10_insert l hlt g v9 hv9 M31 S32 hF38 hy) [.int (zi v9)] [] (zFx_kd hF38 1 rfl) ⟨_, rfl, by decide, rfl⟩ rfl rfl rfl (zcat (Nat.le_of_ble_eq_true rfl)) (Nat.le_of_ble_eq_true rfl) (Nat.le_of_ble_eq_true rfl) (by omega) (by omega) (fun e he hp46 => by cases hx44 e he) (fun r40 he hp46 => ?_)
                  have h := hk45 r40 he
                  subst he
                  dsimp only [zRXi, zRXl] at hp46
                  obtain ⟨hr40, hF47⟩ := hp46
                  refine j_tight hK0 ?_
                  refine j_istore hC dL_areWords_129 (Nat.le_of_ble_eq_true rfl) rfl ?_
                  refine j_aload_n hC 4 dL_areWords_131 rfl rfl ?_
                  refine j_iload hC 0 dL_areWords_132 rfl ?_
                  refine j_iconst hC dL_areWords_134 ?_
                  obtain ⟨hk, h⟩ := zchk_ex h
                  have hk48 := hk
                  obtain ⟨c49, h⟩ := zchk_ex h
                  obtain ⟨M50, eM50, h⟩ := zlet_ex h
                  refine j_zast (n := (zlen S42 v3)) hC dL_areWords_135 (w_id hr40) (w_id kR_1) zb01_1 hk48 rfl c49.1 c49.2 eM50 ?_
                  refine j_iload hC 6 dL_areWords_136 rfl ?_
                  refine j_if_eq hC dL_areWords_138 rfl (w_id hv5) (fun c51 => ?_) (fun c51 => ?_)
                  · have h := zt c51 h
                    refine j_sub [1, 2, 3, 4, 5, 7, 8, 9] rfl ?_
                    exact J_154 v9 hv9 M50 S42 hF47 _ h hT
                  · have h := zf c51 h
                    refine j_aload_n hC 1 dL_areWords_141 rfl rfl ?_
                    obtain ⟨cp52, h⟩ := zchk_ex h
                    refine j_le hK0 (zFx_cnt hF47) (fun hlecp52 => ?_)
                    obtain ⟨r53, M54, S55, hy, h⟩ := zb3_ex h
                    refine j_callTi hC hE lk_L_157 dL_areWords_142 (c_L_rank l hlt g M50 S42 hF47 hy) [zr g 1] [] rfl rfl rfl (Nat.le_of_ble_eq_true rfl) (Nat.le_of_ble_eq_true rfl) (Nat.le_of_ble_eq_true rfl) (by omega) (by omega) (fun hp56 => ?_)
                    obtain ⟨hr53, hFr53⟩ := hp56
                    refine j_tight hK0 ?_
                    refine j_iload hC 7 dL_areWords_145 rfl ?_
                    refine j_icmp_le hC dL_areWords_147 rfl (w_id hr53) (w_id hv6) (fun c57 => ?_) (fun c57 => ?_)
                    · have h := zf c57 h
                      refine j_sub [1, 2, 3, 4, 5, 7, 8, 9] rfl ?_
                      exact J_154 v9 hv9 M54 S55 hFr53 _ h hT
                    · have h := zt c57 h
                      refine j_iconst hC dL_areWords_150 ?_
                      refine j_goto hC dL_areWords_151 rfl ?_
                      refine j_sub [1, 2, 3, 4, 5, 7, 8, 9] rfl ?_
                      exact J_155 v9 1 hv9 kR_1 M54 S55 hFr53 _ h hT
          exact main zN v5 v9 hv5 hv9 M S hF hl
        have J_77 : ∀ (v6 : Int) (v7 : Nat) (t0 : Int) (hv6 : inR v6) (ht0 : inR t0) (M : zM) (S : zS) (hF : zFx S) (o : _) (_ : F_L_areWords_J77 v1 v2 v3 v6 v7 t0 M S = some o), zAft (bd10) n10 ex10 o → zJ K g (S.1 - S0.1) (1000 * (S.1 - S0.1)) 77 11 [(0, zr g 1), (1, .int (zi v1)), (2, zr g v2), (3, zr g v3), (6, .int (zi v6)), (7, zr g v7)] [.int (zi t0)] M S := by
          intro v6 v7 t0 hv6 ht0 M S hF o h hT
          unfold F_L_areWords_J77 at h
          refine j_istore hC dL_areWords_77 (Nat.le_of_ble_eq_true rfl) rfl ?_
          refine j_aload_n hC 3 dL_areWords_79 rfl rfl ?_
          refine j_aload hC 6 dL_areWords_80 rfl ?_
          obtain ⟨cp58, h⟩ := zchk_ex h
          refine j_le hK0 (zFx_cnt hF) (fun hlecp58 => ?_)
          obtain ⟨r59, hy, h⟩ := zb1_ex h
          refine j_lenM hC hE hlt hF lk_L_15 dL_areWords_82 hy (Nat.le_of_ble_eq_true rfl) (Nat.le_of_ble_eq_true rfl) (by omega) (by omega) (fun hr59 => ?_)
          refine j_dup2 hC dL_areWords_85 rfl (zr_cat _ _) ?_
          obtain ⟨hk, h⟩ := zchk_ex h
          have hk60 := hk
          obtain ⟨c61, h⟩ := zchk_ex h
          refine j_iald (n := (zlen S v2)) hC dL_areWords_86 (w_id hr59) hk60 rfl c61.1 c61.2 (fun hg62 => ?_)
          refine j_iconst hC dL_areWords_87 ?_
          refine j_iadd hC dL_areWords_88 ?_
          obtain ⟨hk, h⟩ := zchk_ex h
          have hk63 := hk
          obtain ⟨c64, h⟩ := zchk_ex h
          obtain ⟨M65, eM65, h⟩ := zlet_ex h
          refine j_iast (n := (zlen S v2)) hC dL_areWords_89 (w_id hr59) rfl (inR_w _) hk63 rfl c64.1 c64.2 eM65 ?_
          refine j_aload hC 6 dL_areWords_90 rfl ?_
          refine j_astore (lv1 := [(4, zr g v7), (5, .int (zi t0)), (0, zr g 1), (1, .int (zi v1)), (2, zr g v2), (3, zr g v3), (6, .int (zi v6)), (7, zr g v7)]) hC dL_areWords_92 (Nat.le_of_ble_eq_true rfl) (by simp only [List.filter_cons, List.filter_nil, zr_cat, zc_i, zc_l, zc_d, zc_r] <;> first | rfl | simp [zr_cat]) ?_
          refine j_aload_n hC 2 dL_areWords_94 rfl rfl ?_
          obtain ⟨cp66, h⟩ := zchk_ex h
          refine j_le hK0 (zFx_cnt hF) (fun hlecp66 => ?_)
          obtain ⟨r67, M68, hy, h⟩ := zb2_ex h
          refine j_callVi (ci := 7) hC hE lk_L_164 dL_areWords_95 (c_X10_insertions l hlt g M65 S hF hy) [] [] (zFx_kd hF 1 rfl) ⟨_, rfl, by decide, rfl⟩ rfl rfl rfl (zcat (Nat.le_of_ble_eq_true rfl)) (Nat.le_of_ble_eq_true rfl) (Nat.le_of_ble_eq_true rfl) (by omega) (by omega) (fun hp69 => ?_)
          have hr67 := hp69
          refine j_tight hK0 ?_
          refine j_istore (lv1 := [(8, .int (zi r67)), (4, zr g v7), (5, .int (zi t0)), (0, zr g 1), (1, .int (zi v1)), (2, zr g v2), (3, zr g v3), (6, .int (zi v6)), (7, zr g v7)]) hC dL_areWords_98 (Nat.le_of_ble_eq_true rfl) (by simp only [List.filter_cons, List.filter_nil, zr_cat, zc_i, zc_l, zc_d, zc_r] <;> first | rfl | simp [zr_cat]) ?_
          refine j_iconst hC dL_areWords_100 ?_
          refine j_istore hC dL_areWords_101 (Nat.le_of_ble_eq_true rfl) rfl ?_
          refine j_sub [4, 5, 6, 7, 2, 3, 8, 1, 0] rfl ?_
          exact L_103 v7 t0 v6 r67 0 ht0 hv6 hr67 kR_0 M68 S hF _ h hT
        have J_76 : ∀ (v6 : Int) (v7 : Nat) (hv6 : inR v6) (M : zM) (S : zS) (hF : zFx S) (o : _) (_ : F_L_areWords_J76 v1 v2 v3 v6 v7 M S = some o), zAft (bd10) n10 ex10 o → zJ K g (S.1 - S0.1) (1000 * (S.1 - S0.1)) 76 11 [(0, zr g 1), (1, .int (zi v1)), (2, zr g v2), (3, zr g v3), (6, .int (zi v6)), (7, zr g v7)] [] M S := by
          intro v6 v7 hv6 M S hF o h hT
          unfold F_L_areWords_J76 at h
          refine j_iconst hC dL_areWords_76 ?_
          exact J_77 v6 v7 0 hv6 kR_0 M S hF _ h hT
        intro v4 v5 v6 hv5 hv6 M S hF hl
        obtain ⟨o, h, hT⟩ := zloop_ex hl
        have h : F_L_areWords_B10 v1 v2 v3 v4 v5 v6 M S = some o := by rw [ebd] at h; exact h
        unfold F_L_areWords_B10 at h
        refine j_iload hC 6 dL_areWords_10 rfl ?_
        refine j_iload_n hC 1 dL_areWords_12 rfl rfl ?_
        refine j_icmp_ge hC dL_areWords_13 rfl (w_id hv6) (w_id hv1) (fun c70 => ?_) (fun c70 => ?_)
        · have h := zf c70 h
          obtain rfl := Option.some.inj h
          have hx10 := hd10
          rw [← show _ = ex10 from hT] at hx10
          refine j_sub [5] rfl ?_
          exact J_201 v5 hv5 M S hF hx10
        · have h := zt c70 h
          refine j_iload hC 5 dL_areWords_16 rfl ?_
          refine j_if_eq hC dL_areWords_18 rfl (w_id hv5) (fun c71 => ?_) (fun c71 => ?_)
          · have h := zt c71 h
            obtain rfl := Option.some.inj h
            have hx10 := hd10
            rw [← show _ = ex10 from hT] at hx10
            refine j_sub [5] rfl ?_
            exact J_201 v5 hv5 M S hF hx10
          · have h := zf c71 h
            refine j_aload_n hC 0 dL_areWords_21 rfl rfl ?_
            refine j_iload hC 6 dL_areWords_22 rfl ?_
            obtain ⟨cp72, h⟩ := zchk_ex h
            refine j_le hK0 (zFx_cnt hF) (fun hlecp72 => ?_)
            obtain ⟨r75, M73, S74, hy, hx77, hk78⟩ := zbx_ex h
            refine j_callXVv (ci := 7) hC hE hN lk_L_146 dL_areWords_24 (c_X10_takeWord l hlt g v6 hv6 M S hF hy) [.int (zi v6)] [] (zFx_kd hF 1 rfl) ⟨_, rfl, by decide, rfl⟩ rfl rfl rfl (zcat (Nat.le_of_ble_eq_true rfl)) (Nat.le_of_ble_eq_true rfl) (Nat.le_of_ble_eq_true rfl) (by omega) (by omega) (fun e he hp79 => by cases hx77 e he) (fun u76 he hp79 => ?_)
            have h := hk78 u76 he
            subst he
            have hF80 := hp79
            refine j_tight hK0 ?_
            refine j_aload_n hC 0 dL_areWords_27 rfl rfl ?_
            obtain ⟨cp81, h⟩ := zchk_ex h
            refine j_le hK0 (zFx_cnt hF80) (fun hlecp81 => ?_)
            obtain ⟨r82, M83, S84, hy, h⟩ := zb3_ex h
            refine j_callSr hC hE lk_L_149 dL_areWords_28 (c_L_word l hlt g M73 S74 hF80 hy) [zr g 1] [] rfl rfl rfl (zcat (Nat.le_of_ble_eq_true rfl)) (Nat.le_of_ble_eq_true rfl) (Nat.le_of_ble_eq_true rfl) (by omega) (by omega) (fun hp85 => ?_)
            have hF86 := hp85
            refine j_tight hK0 ?_
            refine j_astore hC dL_areWords_31 (Nat.le_of_ble_eq_true rfl) rfl ?_
            refine j_aload_n hC 1 dL_areWords_33 rfl rfl ?_
            obtain ⟨cp87, h⟩ := zchk_ex h
            refine j_le hK0 (zFx_cnt hF86) (fun hlecp87 => ?_)
            obtain ⟨r91, M89, S90, hy, hx92, hk93⟩ := zbx_ex h
            refine j_callXVi (ci := 7) hC hE hN lk_L_153 dL_areWords_34 (c_X10_isGenerated l hlt g M83 S84 hF86 hy) [] [] (zFx_kd hF86 1 rfl) ⟨_, rfl, by decide, rfl⟩ rfl rfl rfl (zcat (Nat.le_of_ble_eq_true rfl)) (Nat.le_of_ble_eq_true rfl) (Nat.le_of_ble_eq_true rfl) (by omega) (by omega) (fun e he hp94 => by cases hx92 e he) (fun r88 he hp94 => ?_)
            have h := hk93 r88 he
            subst he
            dsimp only [zRXi, zRXl] at hp94
            obtain ⟨hr88, hF95⟩ := hp94
            refine j_tight hK0 ?_
            refine j_if_eq hC dL_areWords_37 rfl (w_id hr88) (fun c96 => ?_) (fun c96 => ?_)
            · have h := zt c96 h
              refine j_sub [1, 2, 3, 4, 7, 0] rfl ?_
              exact J_76 v6 r82 hv6 M89 S90 hF95 _ h hT
            · have h := zf c96 h
              refine j_aload_n hC 1 dL_areWords_40 rfl rfl ?_
              obtain ⟨cp97, h⟩ := zchk_ex h
              refine j_le hK0 (zFx_cnt hF95) (fun hlecp97 => ?_)
              obtain ⟨r98, M99, S100, hy, h⟩ := zb3_ex h
              refine j_callTi hC hE lk_L_157 dL_areWords_41 (c_L_rank l hlt g M89 S90 hF95 hy) [zr g 1] [] rfl rfl rfl (Nat.le_of_ble_eq_true rfl) (Nat.le_of_ble_eq_true rfl) (Nat.le_of_ble_eq_true rfl) (by omega) (by omega) (fun hp101 => ?_)
              obtain ⟨hr98, hFr98⟩ := hp101
              refine j_tight hK0 ?_
              refine j_iload hC 7 dL_areWords_44 rfl ?_
              refine j_icmp_ne hC dL_areWords_46 rfl (w_id hr98) (w_id hv6) (fun c102 => ?_) (fun c102 => ?_)
              · have h := zf c102 h
                refine j_sub [1, 2, 3, 4, 7, 0] rfl ?_
                exact J_76 v6 r82 hv6 M99 S100 hFr98 _ h hT
              · have h := zt c102 h
                refine j_aload hC 5 dL_areWords_49 rfl ?_
                refine j_aload hC 0 dL_areWords_51 rfl ?_
                obtain ⟨cp103, h⟩ := zchk_ex h
                refine j_le hK0 (zFx_cnt hFr98) (fun hlecp103 => ?_)
                obtain ⟨r104, hy, h⟩ := zb1_ex h
                refine j_callSi hC hE lk_L_160 dL_areWords_53 (c_L_isOrdered l hlt g v4 r82 M99 S100 hFr98 hy) [zr g v4, zr g r82] [] rfl rfl rfl (zcat (Nat.le_of_ble_eq_true rfl)) (Nat.le_of_ble_eq_true rfl) (Nat.le_of_ble_eq_true rfl) (by omega) (by omega) (fun hp105 => ?_)
                have hr104 := hp105
                refine j_tight hK0 ?_
                refine j_if_eq hC dL_areWords_56 rfl (w_id hr104) (fun c106 => ?_) (fun c106 => ?_)
                · have h := zt c106 h
                  refine j_sub [1, 2, 3, 4, 7, 0] rfl ?_
                  exact J_76 v6 r82 hv6 M99 S100 hFr98 _ h hT
                · have h := zf c106 h
                  refine j_aload hC 0 dL_areWords_59 rfl ?_
                  obtain ⟨cp107, h⟩ := zchk_ex h
                  refine j_le hK0 (zFx_cnt hFr98) (fun hlecp107 => ?_)
                  obtain ⟨r108, hy, h⟩ := zb1_ex h
                  refine j_lenM hC hE hlt hFr98 lk_L_15 dL_areWords_61 hy (Nat.le_of_ble_eq_true rfl) (Nat.le_of_ble_eq_true rfl) (by omega) (by omega) (fun hr108 => ?_)
                  refine j_aload_n hC 1 dL_areWords_64 rfl rfl ?_
                  refine j_iconst hC dL_areWords_65 ?_
                  obtain ⟨cp109, h⟩ := zchk_ex h
                  refine j_le hK0 (zFx_cnt hFr98) (fun hlecp109 => ?_)
                  obtain ⟨r113, M111, S112, hy, hx114, hk115⟩ := zbx_ex h
                  refine j_callXVi (ci := 7) hC hE hN lk_L_90 dL_areWords_66 (c_X10_count l hlt g 3 kR_3 M99 S100 hFr98 hy) [.int (zi 3)] [.int (zi r108)] (zFx_kd hFr98 1 rfl) ⟨_, rfl, by decide, rfl⟩ rfl rfl rfl (zcat (Nat.le_of_ble_eq_true rfl)) (Nat.le_of_ble_eq_true rfl) (Nat.le_of_ble_eq_true rfl) (by omega) (by omega) (fun e he hp116 => by cases hx114 e he) (fun r110 he hp116 => ?_)
                  have h := hk115 r110 he
                  subst he
                  dsimp only [zRXi, zRXl] at hp116
                  obtain ⟨hr110, hF117⟩ := hp116
                  refine j_tight hK0 ?_
                  refine j_icmp_gt hC dL_areWords_69 rfl (w_id hr108) (w_id hr110) (fun c118 => ?_) (fun c118 => ?_)
                  · have h := zt c118 h
                    refine j_sub [1, 2, 3, 4, 7, 0] rfl ?_
                    exact J_76 v6 r82 hv6 M111 S112 hF117 _ h hT
                  · have h := zf c118 h
                    refine j_iconst hC dL_areWords_72 ?_
                    refine j_goto hC dL_areWords_73 rfl ?_
                    refine j_sub [1, 2, 3, 4, 7, 0] rfl ?_
                    exact J_77 v6 r82 1 hv6 kR_1 M111 S112 hF117 _ h hT
    exact main zN v4 v5 v6 hv5 hv6 M S hF hl
  refine j_ldcq hC dL_areWords_0 zss_L_144 (Nat.le_of_ble_eq_true rfl) ?_
  refine j_astore (lv1 := [(4, zr g 68), (0, zr g 1), (1, .int (zi v1)), (2, zr g v2), (3, zr g v3)]) hC dL_areWords_2 (Nat.le_of_ble_eq_true rfl) (by simp only [List.filter_cons, List.filter_nil, zr_cat, zc_i, zc_l, zc_d, zc_r] <;> first | rfl | simp [zr_cat]) ?_
  refine j_iconst hC dL_areWords_4 ?_
  refine j_istore (lv1 := [(5, .int (zi 1)), (4, zr g 68), (0, zr g 1), (1, .int (zi v1)), (2, zr g v2), (3, zr g v3)]) hC dL_areWords_5 (Nat.le_of_ble_eq_true rfl) (by simp only [List.filter_cons, List.filter_nil, zr_cat, zc_i, zc_l, zc_d, zc_r] <;> first | rfl | simp [zr_cat]) ?_
  refine j_iconst hC dL_areWords_7 ?_
  refine j_istore hC dL_areWords_8 (Nat.le_of_ble_eq_true rfl) rfl ?_
  refine j_sub [3, 4, 5, 6, 2, 1, 0] rfl ?_
  exact L_10 v1 v2 v3 68 1 0 hv1 kR_1 kR_0 M S hF h
set_option maxHeartbeats 4000000 in
set_option maxRecDepth 100000 in
theorem c_L_take (l : Launch) (hlt : l.stackTraces = false) (g : zG) (v1 : Int) (hv1 : inR v1) (M : zM) (S : zS) (hF : zFx S) {r : Int} {M' : zM} {S' : zS} (h : F_L_take v1 M S = some (r, M', S')) : zMetH l g yL_take cL_take 3 (some .int) [(0, 6, 7, 170)] 11 (6000 - S.1) (1000 * (6000 - S.1)) [zr g 1, .int (zi v1)] M S (.inl (some (.int (zi r)))) M' S' (inR r ∧ zFx S') := by
  refine zMetH_ofL (by decide) hlt [(0, zr g 1), (1, .int (zi v1))] rfl (Nat.le_of_ble_eq_true rfl) (zFx_cnt hF) (fun K hC hE hTb hK0 => ?_)
  obtain ⟨S0, eS0⟩ : ∃ S0 : zS, S0 = S := ⟨S, rfl⟩
  rw [← eS0] at hK0 hE
  refine j_tight hK0 ?_
  unfold F_L_take at h
  refine j_aload_n hC 0 dL_take_0 rfl rfl ?_
  refine j_iload_n hC 1 dL_take_1 rfl rfl ?_
  obtain ⟨cp1, h⟩ := zchk_ex h
  refine j_le hK0 (zFx_cnt hF) (fun hlecp1 => ?_)
  obtain ⟨r4, M2, S3, hy, hx6, hk7⟩ := zbx_ex h
  refine j_callHVv (ci := 7) hC hE lk_L_146 dL_take_2 (c_X10_takeWord l hlt g v1 hv1 M S hF hy) [.int (zi v1)] [] (zFx_kd hF 1 rfl) ⟨_, rfl, by decide, rfl⟩ rfl rfl rfl (zcat (Nat.le_of_ble_eq_true rfl)) (Nat.le_of_ble_eq_true rfl) (Nat.le_of_ble_eq_true rfl) (by omega) (by omega) (fun e he hp8 => ?_) (fun u5 he hp8 => ?_)
  · have h := hx6 e he
    subst he
    have hF9 := hp8
    by_cases c12 : e = 2
    · subst c12
      have h := zt rfl h
      refine j_catch hC hTb (pre := []) (x := (0, 6, 7, 170)) (suf := []) rfl (fun z hz => by cases hz) (Nat.le_of_ble_eq_true rfl) (Nat.le_of_ble_eq_true rfl) (by decide) cl_L_170 kc_2 (fun qx => ?_)
      refine j_tight hK0 ?_
      refine j_sstore_n hC dL_take_7 rfl (Nat.le_of_ble_eq_true rfl) rfl ?_
      refine j_iconst hC dL_take_8 ?_
      obtain ⟨cp11, h⟩ := zchk_ex h
      refine j_le hK0 (zFx_cnt hF9) (fun hlecp11 => ?_)
      obtain ⟨e1, e2, e3⟩ := zpr3 (Option.some.inj h)
      exact j_iret hC hE dL_take_9 (w_id kR_1) (zn_i _) (by rw [← e1]) e2 e3 ⟨(by rw [← e1]; exact kR_1), (by rw [← e3]; exact hF9)⟩ (by omega) (by omega)
    have h := zf c12 h
    cases h
  · have h := hk7 u5 he
    subst he
    have hF9 := hp8
    refine j_tight hK0 ?_
    refine j_iconst hC dL_take_5 ?_
    obtain ⟨cp13, h⟩ := zchk_ex h
    refine j_le hK0 (zFx_cnt hF9) (fun hlecp13 => ?_)
    obtain ⟨e1, e2, e3⟩ := zpr3 (Option.some.inj h)
    exact j_iret hC hE dL_take_6 (w_id kR_0) (zn_i _) (by rw [← e1]) e2 e3 ⟨(by rw [← e1]; exact kR_0), (by rw [← e3]; exact hF9)⟩ (by omega) (by omega)
set_option maxHeartbeats 4000000 in
set_option maxRecDepth 100000 in
theorem c_L_areSizes (l : Launch) (hlt : l.stackTraces = false) (g : zG) (v1 : Int) (v2 : Nat) (hv1 : inR v1) (M : zM) (S : zS) (hF : zFx S) {r : Int} {M' : zM} {S' : zS} (h : F_L_areSizes v1 v2 M S = some (r, M', S')) : zMet l g yL_areSizes cL_areSizes 10 (some .boolean) 11 (6000 - S.1) (1000 * (6000 - S.1)) [zr g 1, .int (zi v1), zr g v2] M S (.inl (some (.int (zi r)))) M' S' (inR r ∧ zFx S') := by
  refine zMet_ofL (by decide) hlt [(0, zr g 1), (1, .int (zi v1)), (2, zr g v2)] (by simp only [lv_args, zr_cat, zc_i, zc_l, zc_d, zc_r] <;> rfl) (by rw [zsl_len]; simp only [List.map_cons, List.map_nil, zr_cat, zc_i, zc_l, zc_d, zc_r, List.sum_cons, List.sum_nil] <;> decide) (zFx_cnt hF) (fun K hC hE hN hK0 => ?_)
  obtain ⟨S0, eS0⟩ : ∃ S0 : zS, S0 = S := ⟨S, rfl⟩
  rw [← eS0] at hK0 hE
  refine j_tight hK0 ?_
  unfold F_L_areSizes at h
  have J_183 : ∀ (M : zM) (S : zS) (hF : zFx S) (_ : F_L_areSizes_J183 M S = some (r, M', S')), zJ K g (S.1 - S0.1) (1000 * (S.1 - S0.1)) 183 10 [] [] M S := by
    intro M S hF h
    unfold F_L_areSizes_J183 at h
    refine j_iconst hC dL_areSizes_183 ?_
    obtain ⟨cp1, h⟩ := zchk_ex h
    refine j_le hK0 (zFx_cnt hF) (fun hlecp1 => ?_)
    obtain ⟨e1, e2, e3⟩ := zpr3 (Option.some.inj h)
    exact j_iret hC hE dL_areSizes_184 (w_id kR_0) (zn_z zb01_0) (by rw [← e1]) e2 e3 ⟨(by rw [← e1]; exact kR_0), (by rw [← e3]; exact hF)⟩ (by omega) (by omega)
  have J_152 : ∀ (v2 : Nat) (v3 : Int) (t0 : Int) (hv3 : inR v3) (ht0 : inR t0) (M : zM) (S : zS) (hF : zFx S) (_ : F_L_areSizes_J152 v2 v3 t0 M S = some (r, M', S')), zJ K g (S.1 - S0.1) (1000 * (S.1 - S0.1)) 152 10 [(0, zr g 1), (2, zr g v2), (3, .int (zi v3))] [.int (zi t0)] M S := by
    intro v2 v3 t0 hv3 ht0 M S hF h
    unfold F_L_areSizes_J152 at h
    refine j_istore hC dL_areSizes_152 (Nat.le_of_ble_eq_true rfl) rfl ?_
    refine j_aload_n hC 1 dL_areSizes_154 rfl rfl ?_
    refine j_iconst hC dL_areSizes_155 ?_
    refine j_iload_n hC 3 dL_areSizes_156 rfl rfl ?_
    refine j_aload_n hC 2 dL_areSizes_157 rfl rfl ?_
    refine j_iload_n hC 3 dL_areSizes_158 rfl rfl ?_
    obtain ⟨hk, h⟩ := zchk_ex h
    have hk2 := hk
    obtain ⟨c3, h⟩ := zchk_ex h
    refine j_iald (n := (zlen S v2)) hC dL_areSizes_159 (w_id hv3) hk2 rfl c3.1 c3.2 (fun hg4 => ?_)
    refine j_iconst hC dL_areSizes_160 ?_
    refine j_iadd hC dL_areSizes_161 ?_
    obtain ⟨cp5, h⟩ := zchk_ex h
    refine j_le hK0 (zFx_cnt hF) (fun hlecp5 => ?_)
    obtain ⟨r8, M6, S7, hy, hx10, hk11⟩ := zbx_ex h
    refine j_callXVv (ci := 7) hC hE hN lk_L_185 dL_areSizes_162 (c_X10_store l hlt g 0 v3 (w ((M v2 v3) + 1)) kR_0 hv3 (inR_w _) M S hF hy) [.int (zi 0), .int (zi v3), .int (zi ((M v2 v3) + 1))] [] (zFx_kd hF 1 rfl) ⟨_, rfl, by decide, rfl⟩ rfl (by simp only [zi_w, zl_wl]) rfl (zcat (Nat.le_of_ble_eq_true rfl)) (Nat.le_of_ble_eq_true rfl) (Nat.le_of_ble_eq_true rfl) (by omega) (by omega) (fun e he hp12 => by cases hx10 e he) (fun u9 he hp12 => ?_)
    have h := hk11 u9 he
    subst he
    have hF13 := hp12
    refine j_tight hK0 ?_
    refine j_iload hC 0 dL_areSizes_165 rfl ?_
    refine j_if_eq hC dL_areSizes_167 rfl (w_id ht0) (fun c14 => ?_) (fun c14 => ?_)
    · have h := zt c14 h
      refine j_sub [] rfl ?_
      exact J_183 M6 S7 hF13 h
    · have h := zf c14 h
      refine j_aload_n hC 1 dL_areSizes_170 rfl rfl ?_
      refine j_iconst hC dL_areSizes_171 ?_
      obtain ⟨cp15, h⟩ := zchk_ex h
      refine j_le hK0 (zFx_cnt hF13) (fun hlecp15 => ?_)
      obtain ⟨r19, M17, S18, hy, hx20, hk21⟩ := zbx_ex h
      refine j_callXVi (ci := 7) hC hE hN lk_L_188 dL_areSizes_172 (c_X10_compareSizes l hlt g 0 kR_0 M6 S7 hF13 hy) [.int (zi 0)] [] (zFx_kd hF13 1 rfl) ⟨_, rfl, by decide, rfl⟩ rfl rfl rfl (zcat (Nat.le_of_ble_eq_true rfl)) (Nat.le_of_ble_eq_true rfl) (Nat.le_of_ble_eq_true rfl) (by omega) (by omega) (fun e he hp22 => by cases hx20 e he) (fun r16 he hp22 => ?_)
      have h := hk21 r16 he
      subst he
      dsimp only [zRXi, zRXl] at hp22
      obtain ⟨hr16, hF23⟩ := hp22
      refine j_tight hK0 ?_
      refine j_iload_n hC 3 dL_areSizes_175 rfl rfl ?_
      refine j_icmp_ne hC dL_areSizes_176 rfl (w_id hr16) (w_id hv3) (fun c24 => ?_) (fun c24 => ?_)
      · have h := zf c24 h
        refine j_sub [] rfl ?_
        exact J_183 M17 S18 hF23 h
      · have h := zt c24 h
        refine j_iconst hC dL_areSizes_179 ?_
        refine j_goto hC dL_areSizes_180 rfl ?_
        obtain ⟨cp25, h⟩ := zchk_ex h
        refine j_le hK0 (zFx_cnt hF23) (fun hlecp25 => ?_)
        obtain ⟨e1, e2, e3⟩ := zpr3 (Option.some.inj h)
        exact j_iret hC hE dL_areSizes_184 (w_id kR_1) (zn_z zb01_1) (by rw [← e1]) e2 e3 ⟨(by rw [← e1]; exact kR_1), (by rw [← e3]; exact hF23)⟩ (by omega) (by omega)
  have J_151 : ∀ (v2 : Nat) (v3 : Int) (hv3 : inR v3) (M : zM) (S : zS) (hF : zFx S) (_ : F_L_areSizes_J151 v2 v3 M S = some (r, M', S')), zJ K g (S.1 - S0.1) (1000 * (S.1 - S0.1)) 151 10 [(0, zr g 1), (2, zr g v2), (3, .int (zi v3))] [] M S := by
    intro v2 v3 hv3 M S hF h
    unfold F_L_areSizes_J151 at h
    refine j_iconst hC dL_areSizes_151 ?_
    exact J_152 v2 v3 0 hv3 kR_0 M S hF h
  have J_127 : ∀ (v1 : Int) (v2 : Nat) (v3 : Int) (v4 : Int) (v5 : Int) (hv1 : inR v1) (hv3 : inR v3) (hv4 : inR v4) (hv5 : inR v5) (M : zM) (S : zS) (hF : zFx S) (_ : F_L_areSizes_J127 v1 v2 v3 v4 v5 M S = some (r, M', S')), zJ K g (S.1 - S0.1) (1000 * (S.1 - S0.1)) 127 10 [(0, zr g 1), (1, .int (zi v1)), (2, zr g v2), (3, .int (zi v3)), (4, .int (zi v4)), (5, .int (zi v5))] [] M S := by
    intro v1 v2 v3 v4 v5 hv1 hv3 hv4 hv5 M S hF h
    unfold F_L_areSizes_J127 at h
    refine j_iload hC 5 dL_areSizes_127 rfl ?_
    refine j_if_eq hC dL_areSizes_129 rfl (w_id hv5) (fun c26 => ?_) (fun c26 => ?_)
    · have h := zt c26 h
      refine j_sub [0, 2, 3] rfl ?_
      exact J_151 v2 v3 hv3 M S hF h
    · have h := zf c26 h
      refine j_aload_n hC 0 dL_areSizes_132 rfl rfl ?_
      refine j_iconst hC dL_areSizes_133 ?_
      obtain ⟨cp27, h⟩ := zchk_ex h
      refine j_le hK0 (zFx_cnt hF) (fun hlecp27 => ?_)
      obtain ⟨r31, M29, S30, hy, hx32, hk33⟩ := zbx_ex h
      refine j_callXVi (ci := 7) hC hE hN lk_L_188 dL_areSizes_134 (c_X10_compareSizes l hlt g 0 kR_0 M S hF hy) [.int (zi 0)] [] (zFx_kd hF 1 rfl) ⟨_, rfl, by decide, rfl⟩ rfl rfl rfl (zcat (Nat.le_of_ble_eq_true rfl)) (Nat.le_of_ble_eq_true rfl) (Nat.le_of_ble_eq_true rfl) (by omega) (by omega) (fun e he hp34 => by cases hx32 e he) (fun r28 he hp34 => ?_)
      have h := hk33 r28 he
      subst he
      dsimp only [zRXi, zRXl] at hp34
      obtain ⟨hr28, hF35⟩ := hp34
      refine j_tight hK0 ?_
      refine j_iconst hC dL_areSizes_137 ?_
      refine j_icmp_ne hC dL_areSizes_138 rfl (w_id hr28) (w_id kR_m1) (fun c36 => ?_) (fun c36 => ?_)
      · have h := zf c36 h
        refine j_sub [0, 2, 3] rfl ?_
        exact J_151 v2 v3 hv3 M29 S30 hF35 h
      · have h := zt c36 h
        refine j_iload hC 4 dL_areSizes_141 rfl ?_
        refine j_iload_n hC 1 dL_areSizes_143 rfl rfl ?_
        refine j_icmp_ne hC dL_areSizes_144 rfl (w_id hv4) (w_id hv1) (fun c37 => ?_) (fun c37 => ?_)
        · have h := zf c37 h
          refine j_sub [0, 2, 3] rfl ?_
          exact J_151 v2 v3 hv3 M29 S30 hF35 h
        · have h := zt c37 h
          refine j_iconst hC dL_areSizes_147 ?_
          refine j_goto hC dL_areSizes_148 rfl ?_
          refine j_sub [0, 2, 3] rfl ?_
          exact J_152 v2 v3 1 hv3 kR_1 M29 S30 hF35 h
  have L_23 : ∀ (v1 : Int) (v2 : Nat) (v3 : Int) (v4 : Int) (v5 : Int) (v6 : Int) (hv1 : inR v1) (hv3 : inR v3) (hv4 : inR v4) (hv5 : inR v5) (hv6 : inR v6) (M : zM) (S : zS) (hF : zFx S) (_ : F_L_areSizes_L23 v1 v2 v3 v4 v5 v6 M S = some (r, M', S')), zJ K g (S.1 - S0.1) (1000 * (S.1 - S0.1)) 23 10 [(0, zr g 1), (1, .int (zi v1)), (2, zr g v2), (3, .int (zi v3)), (4, .int (zi v4)), (5, .int (zi v5)), (6, .int (zi v6))] [] M S := by
    intro v1 v2 v3 v4 v5 v6 hv1 hv3 hv4 hv5 hv6 M S hF h
    unfold F_L_areSizes_L23 at h
    obtain ⟨ex23, hl, hd23⟩ := zb1_ex h
    obtain ⟨bd23, ebd⟩ : ∃ f, f = (fun (s : Int × Int × Int × zM × zS) => F_L_areSizes_B23 v1 v2 v3 s.1 s.2.1 s.2.2.1 s.2.2.2.1 s.2.2.2.2) := ⟨_, rfl⟩
    rw [← ebd] at hl
    have main : ∀ (n23 : Nat) (v4 : Int) (v5 : Int) (v6 : Int) (hv4 : inR v4) (hv5 : inR v5) (hv6 : inR v6) (M : zM) (S : zS) (hF : zFx S) (_ : zloop bd23 n23 (v4, v5, v6, M, S) = some ex23), zJ K g (S.1 - S0.1) (1000 * (S.1 - S0.1)) 23 10 [(0, zr g 1), (1, .int (zi v1)), (2, zr g v2), (3, .int (zi v3)), (4, .int (zi v4)), (5, .int (zi v5)), (6, .int (zi v6))] [] M S := by
      intro n23
      induction n23 with
      | zero => intro v4 v5 v6 hv4 hv5 hv6 M S hF hl; exact zloop_0 hl
      | succ n23 ih23 =>
        have J_108 : ∀ (v4 : Int) (v6 : Int) (t0 : Int) (hv4 : inR v4) (hv6 : inR v6) (ht0 : inR t0) (M : zM) (S : zS) (hF : zFx S) (o : _) (_ : F_L_areSizes_J108 v1 v2 v3 v4 v6 t0 M S = some o), zAft (bd23) n23 ex23 o → zJ K g (S.1 - S0.1) (1000 * (S.1 - S0.1)) 108 10 [(0, zr g 1), (1, .int (zi v1)), (2, zr g v2), (3, .int (zi v3)), (4, .int (zi v4)), (6, .int (zi v6))] [.int (zi t0)] M S := by
          intro v4 v6 t0 hv4 hv6 ht0 M S hF o h hT
          unfold F_L_areSizes_J108 at h
          refine j_istore hC dL_areSizes_108 (Nat.le_of_ble_eq_true rfl) rfl ?_
          refine j_aload_n hC 1 dL_areSizes_110 rfl rfl ?_
          refine j_iconst hC dL_areSizes_111 ?_
          refine j_iload hC 6 dL_areSizes_112 rfl ?_
          refine j_aload_n hC 3 dL_areSizes_114 rfl rfl ?_
          refine j_iload hC 6 dL_areSizes_115 rfl ?_
          obtain ⟨hk, h⟩ := zchk_ex h
          have hk38 := hk
          obtain ⟨c39, h⟩ := zchk_ex h
          refine j_iald (n := (zlen S v2)) hC dL_areSizes_117 (w_id hv6) hk38 rfl c39.1 c39.2 (fun hg40 => ?_)
          obtain ⟨cp41, h⟩ := zchk_ex h
          refine j_le hK0 (zFx_cnt hF) (fun hlecp41 => ?_)
          obtain ⟨r44, M42, S43, hy, hx46, hk47⟩ := zbx_ex h
          refine j_callXVv (ci := 7) hC hE hN lk_L_185 dL_areSizes_118 (c_X10_store l hlt g 0 v6 (M v2 v6) kR_0 hv6 hg40 M S hF hy) [.int (zi 0), .int (zi v6), .int (zi (M v2 v6))] [] (zFx_kd hF 1 rfl) ⟨_, rfl, by decide, rfl⟩ rfl rfl rfl (zcat (Nat.le_of_ble_eq_true rfl)) (Nat.le_of_ble_eq_true rfl) (Nat.le_of_ble_eq_true rfl) (by omega) (by omega) (fun e he hp48 => by cases hx46 e he) (fun u45 he hp48 => ?_)
          have h := hk47 u45 he
          subst he
          have hF49 := hp48
          refine j_tight hK0 ?_
          obtain ⟨x50, ex50, h⟩ := zlet_ex h
          have hx50 : inR x50 := by rw [ex50]; exact inR_w _
          refine j_iinc hC 6 dL_areSizes_121 rfl ex50 (Nat.le_of_ble_eq_true rfl) rfl ?_
          refine j_goto hC dL_areSizes_124 rfl ?_
          obtain rfl := Option.some.inj h
          refine j_sub [2, 3, 4, 5, 6, 1, 0] rfl ?_
          exact ih23 v4 t0 x50 hv4 ht0 hx50 M42 S43 hF49 hT
        have J_107 : ∀ (v4 : Int) (v6 : Int) (hv4 : inR v4) (hv6 : inR v6) (M : zM) (S : zS) (hF : zFx S) (o : _) (_ : F_L_areSizes_J107 v1 v2 v3 v4 v6 M S = some o), zAft (bd23) n23 ex23 o → zJ K g (S.1 - S0.1) (1000 * (S.1 - S0.1)) 107 10 [(0, zr g 1), (1, .int (zi v1)), (2, zr g v2), (3, .int (zi v3)), (4, .int (zi v4)), (6, .int (zi v6))] [] M S := by
          intro v4 v6 hv4 hv6 M S hF o h hT
          unfold F_L_areSizes_J107 at h
          refine j_iconst hC dL_areSizes_107 ?_
          exact J_108 v4 v6 0 hv4 hv6 kR_0 M S hF _ h hT
        have J_67 : ∀ (v4 : Int) (v5 : Int) (v6 : Int) (v7 : UInt64) (hv4 : inR v4) (hv5 : inR v5) (hv6 : inR v6) (M : zM) (S : zS) (hF : zFx S) (o : _) (_ : F_L_areSizes_J67 v1 v2 v3 v4 v5 v6 v7 M S = some o), zAft (bd23) n23 ex23 o → zJ K g (S.1 - S0.1) (1000 * (S.1 - S0.1)) 67 10 [(0, zr g 1), (1, .int (zi v1)), (2, zr g v2), (3, .int (zi v3)), (4, .int (zi v4)), (5, .int (zi v5)), (6, .int (zi v6)), (7, .double v7)] [] M S := by
          intro v4 v5 v6 v7 hv4 hv5 hv6 M S hF o h hT
          unfold F_L_areSizes_J67 at h
          refine j_iload hC 5 dL_areSizes_67 rfl ?_
          refine j_if_eq hC dL_areSizes_69 rfl (w_id hv5) (fun c51 => ?_) (fun c51 => ?_)
          · have h := zt c51 h
            refine j_sub [0, 1, 2, 3, 4, 6] rfl ?_
            exact J_107 v4 v6 hv4 hv6 M S hF _ h hT
          · have h := zf c51 h
            refine j_aload_n hC 0 dL_areSizes_72 rfl rfl ?_
            refine j_iload hC 6 dL_areSizes_73 rfl ?_
            obtain ⟨cp52, h⟩ := zchk_ex h
            refine j_le hK0 (zFx_cnt hF) (fun hlecp52 => ?_)
            obtain ⟨r56, M54, S55, hy, hx57, hk58⟩ := zbx_ex h
            refine j_callXVi (ci := 7) hC hE hN lk_L_176 dL_areSizes_75 (c_X10_sizeOf l hlt g v6 hv6 M S hF hy) [.int (zi v6)] [] (zFx_kd hF 1 rfl) ⟨_, rfl, by decide, rfl⟩ rfl rfl rfl (zcat (Nat.le_of_ble_eq_true rfl)) (Nat.le_of_ble_eq_true rfl) (Nat.le_of_ble_eq_true rfl) (by omega) (by omega) (fun e he hp59 => by cases hx57 e he) (fun r53 he hp59 => ?_)
            have h := hk58 r53 he
            subst he
            dsimp only [zRXi, zRXl] at hp59
            obtain ⟨hr53, hF60⟩ := hp59
            refine j_tight hK0 ?_
            refine j_aload_n hC 2 dL_areSizes_78 rfl rfl ?_
            refine j_iload hC 6 dL_areSizes_79 rfl ?_
            obtain ⟨hk, h⟩ := zchk_ex h
            have hk61 := hk
            obtain ⟨c62, h⟩ := zchk_ex h
            refine j_iald (n := (zlen S55 v2)) hC dL_areSizes_81 (w_id hv6) hk61 rfl c62.1 c62.2 (fun hg63 => ?_)
            refine j_icmp_ne hC dL_areSizes_82 rfl (w_id hr53) (w_id hg63) (fun c64 => ?_) (fun c64 => ?_)
            · have h := zf c64 h
              refine j_sub [0, 1, 2, 3, 4, 6] rfl ?_
              exact J_107 v4 v6 hv4 hv6 M54 S55 hF60 _ h hT
            · have h := zt c64 h
              refine j_aload_n hC 0 dL_areSizes_85 rfl rfl ?_
              refine j_iload hC 6 dL_areSizes_86 rfl ?_
              obtain ⟨cp65, h⟩ := zchk_ex h
              refine j_le hK0 (zFx_cnt hF60) (fun hlecp65 => ?_)
              obtain ⟨r69, M67, S68, hy, hx70, hk71⟩ := zbx_ex h
              refine j_callXVd (ci := 7) hC hE hN lk_L_181 dL_areSizes_88 (c_X10_density l hlt g v6 hv6 M54 S55 hF60 hy) [.int (zi v6)] [] (zFx_kd hF60 1 rfl) ⟨_, rfl, by decide, rfl⟩ rfl rfl rfl (zcat (Nat.le_of_ble_eq_true rfl)) (Nat.le_of_ble_eq_true rfl) (Nat.le_of_ble_eq_true rfl) (by omega) (by omega) (fun e he hp72 => by cases hx70 e he) (fun r66 he hp72 => ?_)
              have h := hk71 r66 he
              subst he
              have hF73 := hp72
              refine j_tight hK0 ?_
              refine j_aload_n hC 2 dL_areSizes_91 rfl rfl ?_
              refine j_iload hC 6 dL_areSizes_92 rfl ?_
              obtain ⟨hk, h⟩ := zchk_ex h
              have hk74 := hk
              obtain ⟨c75, h⟩ := zchk_ex h
              refine j_iald (n := (zlen S68 v2)) hC dL_areSizes_94 (w_id hv6) hk74 rfl c75.1 c75.2 (fun hg76 => ?_)
              refine j_i2d hC dL_areSizes_95 ?_
              refine j_dload hC 7 dL_areSizes_96 rfl ?_
              obtain ⟨c77, h⟩ := zchkP_ex h
              refine j_ddiv hC dL_areSizes_98 c77 ?_
              refine j_dcmpl hC dL_areSizes_99 ?_
              refine j_if_ne hC dL_areSizes_100 rfl (w_id (cR_zdcl _ _)) (fun c78 => ?_) (fun c78 => ?_)
              · have h := zf c78 h
                refine j_sub [0, 1, 2, 3, 4, 6] rfl ?_
                exact J_107 v4 v6 hv4 hv6 M67 S68 hF73 _ h hT
              · have h := zt c78 h
                refine j_iconst hC dL_areSizes_103 ?_
                refine j_goto hC dL_areSizes_104 rfl ?_
                refine j_sub [0, 1, 2, 3, 4, 6] rfl ?_
                exact J_108 v4 v6 1 hv4 hv6 kR_1 M67 S68 hF73 _ h hT
        have L_46 : ∀ (v4 : Int) (v5 : Int) (v6 : Int) (v7 : UInt64) (v9 : Int) (hv4 : inR v4) (hv5 : inR v5) (hv6 : inR v6) (hv9 : inR v9) (M : zM) (S : zS) (hF : zFx S) (o : _) (_ : F_L_areSizes_L46 v1 v2 v3 v4 v5 v6 v7 v9 M S = some o), zAft (bd23) n23 ex23 o → zJ K g (S.1 - S0.1) (1000 * (S.1 - S0.1)) 46 10 [(0, zr g 1), (1, .int (zi v1)), (2, zr g v2), (3, .int (zi v3)), (4, .int (zi v4)), (5, .int (zi v5)), (6, .int (zi v6)), (7, .double v7), (9, .int (zi v9))] [] M S := by
          intro v4 v5 v6 v7 v9 hv4 hv5 hv6 hv9 M S hF oh46 h hT46
          unfold F_L_areSizes_L46 at h
          obtain ⟨ex46, hl, hd46⟩ := zb1_ex h
          obtain ⟨bd46, ebd⟩ : ∃ f, f = (fun (s : UInt64 × Int) => F_L_areSizes_B46 v1 v2 v3 v4 v5 v6 s.1 s.2 M S) := ⟨_, rfl⟩
          rw [← ebd] at hl
          have main : ∀ (n46 : Nat) (v7 : UInt64) (v9 : Int) (hv9 : inR v9) (_ : zloop bd46 n46 (v7, v9) = some ex46), zJ K g (S.1 - S0.1) (1000 * (S.1 - S0.1)) 46 10 [(0, zr g 1), (1, .int (zi v1)), (2, zr g v2), (3, .int (zi v3)), (4, .int (zi v4)), (5, .int (zi v5)), (6, .int (zi v6)), (7, .double v7), (9, .int (zi v9))] [] M S := by
            intro n46
            induction n46 with
            | zero => intro v7 v9 hv9 hl; exact zloop_0 hl
            | succ n46 ih46 =>
              intro v7 v9 hv9 hl
              obtain ⟨o, h, hT⟩ := zloop_ex hl
              have h : F_L_areSizes_B46 v1 v2 v3 v4 v5 v6 v7 v9 M S = some o := by rw [ebd] at h; exact h
              unfold F_L_areSizes_B46 at h
              refine j_iload hC 8 dL_areSizes_46 rfl ?_
              refine j_iload hC 6 dL_areSizes_48 rfl ?_
              refine j_icmp_ge hC dL_areSizes_50 rfl (w_id hv9) (w_id hv6) (fun c79 => ?_) (fun c79 => ?_)
              · have h := zf c79 h
                obtain rfl := Option.some.inj h
                have hx46 := hd46
                rw [← show _ = ex46 from hT] at hx46
                refine j_sub [0, 1, 2, 3, 4, 5, 6, 7] rfl ?_
                exact J_67 v4 v5 v6 v7 hv4 hv5 hv6 M S hF _ hx46 hT46
              · have h := zt c79 h
                refine j_dload hC 7 dL_areSizes_53 rfl ?_
                refine j_ldc2d hC dL_areSizes_55 k1422 ?_
                obtain ⟨c80, h⟩ := zchkP_ex h
                refine j_dmul hC dL_areSizes_58 c80 ?_
                obtain ⟨x81, ex81, h⟩ := zlet_ex h
                refine j_named ex81 ?_
                refine j_dstore hC dL_areSizes_59 (Nat.le_of_ble_eq_true rfl) rfl ?_
                obtain ⟨x82, ex82, h⟩ := zlet_ex h
                have hx82 : inR x82 := by rw [ex82]; exact inR_w _
                refine j_iinc hC 8 dL_areSizes_61 rfl ex82 (Nat.le_of_ble_eq_true rfl) rfl ?_
                refine j_goto hC dL_areSizes_64 rfl ?_
                obtain rfl := Option.some.inj h
                refine j_sub [2, 3, 4, 5, 6, 7, 8, 1, 0] rfl ?_
                exact ih46 x81 x82 hx82 hT
          exact main zN v7 v9 hv9 hl
        intro v4 v5 v6 hv4 hv5 hv6 M S hF hl
        obtain ⟨o, h, hT⟩ := zloop_ex hl
        have h : F_L_areSizes_B23 v1 v2 v3 v4 v5 v6 M S = some o := by rw [ebd] at h; exact h
        unfold F_L_areSizes_B23 at h
        refine j_iload hC 6 dL_areSizes_23 rfl ?_
        refine j_iload_n hC 3 dL_areSizes_25 rfl rfl ?_
        refine j_icmp_gt hC dL_areSizes_26 rfl (w_id hv6) (w_id hv3) (fun c83 => ?_) (fun c83 => ?_)
        · have h := zt c83 h
          obtain rfl := Option.some.inj h
          have hx23 := hd23
          rw [← show _ = ex23 from hT] at hx23
          refine j_sub [0, 1, 2, 3, 4, 5] rfl ?_
          exact J_127 v1 v2 v3 v4 v5 hv1 hv3 hv4 hv5 M S hF hx23
        · have h := zf c83 h
          refine j_iload hC 4 dL_areSizes_29 rfl ?_
          refine j_aload_n hC 0 dL_areSizes_31 rfl rfl ?_
          refine j_iload hC 6 dL_areSizes_32 rfl ?_
          obtain ⟨cp84, h⟩ := zchk_ex h
          refine j_le hK0 (zFx_cnt hF) (fun hlecp84 => ?_)
          obtain ⟨r88, M86, S87, hy, hx89, hk90⟩ := zbx_ex h
          refine j_callXVi (ci := 7) hC hE hN lk_L_176 dL_areSizes_34 (c_X10_sizeOf l hlt g v6 hv6 M S hF hy) [.int (zi v6)] [.int (zi v4)] (zFx_kd hF 1 rfl) ⟨_, rfl, by decide, rfl⟩ rfl rfl rfl (zcat (Nat.le_of_ble_eq_true rfl)) (Nat.le_of_ble_eq_true rfl) (Nat.le_of_ble_eq_true rfl) (by omega) (by omega) (fun e he hp91 => by cases hx89 e he) (fun r85 he hp91 => ?_)
          have h := hk90 r85 he
          subst he
          dsimp only [zRXi, zRXl] at hp91
          obtain ⟨hr85, hF92⟩ := hp91
          refine j_tight hK0 ?_
          refine j_iadd hC dL_areSizes_37 ?_
          obtain ⟨x93, ex93, h⟩ := zlet_ex h
          have hx93 : inR x93 := by rw [ex93]; exact inR_w _
          refine j_namei ex93 ?_
          refine j_istore hC dL_areSizes_38 (Nat.le_of_ble_eq_true rfl) rfl ?_
          refine j_dconst1 hC dL_areSizes_40 ?_
          refine j_dstore hC dL_areSizes_41 (Nat.le_of_ble_eq_true rfl) rfl ?_
          refine j_iconst hC dL_areSizes_43 ?_
          refine j_istore hC dL_areSizes_44 (Nat.le_of_ble_eq_true rfl) rfl ?_
          refine j_sub [3, 4, 5, 6, 2, 7, 8, 1, 0] rfl ?_
          exact L_46 x93 v5 v6 zd1 0 hx93 hv5 hv6 kR_0 M86 S87 hF92 _ h hT
    exact main zN v4 v5 v6 hv4 hv5 hv6 M S hF hl
  refine j_aload_n hC 0 dL_areSizes_0 rfl rfl ?_
  refine j_iconst hC dL_areSizes_1 ?_
  obtain ⟨cp94, h⟩ := zchk_ex h
  refine j_le hK0 (zFx_cnt hF) (fun hlecp94 => ?_)
  obtain ⟨r98, M96, S97, hy, hx99, hk100⟩ := zbx_ex h
  refine j_callXVi (ci := 7) hC hE hN lk_L_90 dL_areSizes_2 (c_X10_count l hlt g 3 kR_3 M S hF hy) [.int (zi 3)] [] (zFx_kd hF 1 rfl) ⟨_, rfl, by decide, rfl⟩ rfl rfl rfl (zcat (Nat.le_of_ble_eq_true rfl)) (Nat.le_of_ble_eq_true rfl) (Nat.le_of_ble_eq_true rfl) (by omega) (by omega) (fun e he hp101 => by cases hx99 e he) (fun r95 he hp101 => ?_)
  have h := hk100 r95 he
  subst he
  dsimp only [zRXi, zRXl] at hp101
  obtain ⟨hr95, hF102⟩ := hp101
  refine j_tight hK0 ?_
  refine j_istore_n (lv1 := [(3, .int (zi r95)), (0, zr g 1), (1, .int (zi v1)), (2, zr g v2)]) hC dL_areSizes_5 rfl (Nat.le_of_ble_eq_true rfl) (by simp only [List.filter_cons, List.filter_nil, zr_cat, zc_i, zc_l, zc_d, zc_r] <;> first | rfl | simp [zr_cat]) ?_
  refine j_iconst hC dL_areSizes_6 ?_
  refine j_istore hC dL_areSizes_7 (Nat.le_of_ble_eq_true rfl) rfl ?_
  refine j_iconst hC dL_areSizes_9 ?_
  refine j_istore hC dL_areSizes_10 (Nat.le_of_ble_eq_true rfl) rfl ?_
  refine j_aload_n hC 3 dL_areSizes_12 rfl rfl ?_
  refine j_iconst hC dL_areSizes_13 ?_
  refine j_iconst hC dL_areSizes_14 ?_
  refine j_bipush hC dL_areSizes_15 rfl ?_
  obtain ⟨cp103, h⟩ := zchk_ex h
  refine j_le hK0 (zFx_cnt hF102) (fun hlecp103 => ?_)
  obtain ⟨r106, M104, S105, hy, hx108, hk109⟩ := zbx_ex h
  refine j_callXVv (ci := 7) hC hE hN lk_L_172 dL_areSizes_17 (c_X10_allocate l hlt g 0 2 10 kR_0 kR_2 kR_10 M96 S97 hF102 hy) [.int (zi 0), .int (zi 2), .int (zi 10)] [] (zFx_kd hF102 1 rfl) ⟨_, rfl, by decide, rfl⟩ rfl rfl rfl (zcat (Nat.le_of_ble_eq_true rfl)) (Nat.le_of_ble_eq_true rfl) (Nat.le_of_ble_eq_true rfl) (by omega) (by omega) (fun e he hp110 => by cases hx108 e he) (fun u107 he hp110 => ?_)
  have h := hk109 u107 he
  subst he
  have hF111 := hp110
  refine j_tight hK0 ?_
  refine j_iconst hC dL_areSizes_20 ?_
  refine j_istore hC dL_areSizes_21 (Nat.le_of_ble_eq_true rfl) rfl ?_
  refine j_sub [4, 5, 6, 3, 2, 1, 0] rfl ?_
  exact L_23 v1 v2 r95 0 1 0 hv1 hr95 kR_0 kR_1 kR_0 M104 S105 hF111 h
set_option maxHeartbeats 4000000 in
set_option maxRecDepth 100000 in
theorem c_L_areContexts (l : Launch) (hlt : l.stackTraces = false) (g : zG) (v2 : Int) (v3 : Int) (v4 : Nat) (hv2 : inR v2) (hv3 : inR v3) (M : zM) (S : zS) (hF : zFx S) {r : Int} {M' : zM} {S' : zS} (h : F_L_areContexts v2 v3 v4 M S = some (r, M', S')) : zMet l g yL_areContexts cL_areContexts 10 (some .boolean) 12 (6000 - S.1) (1000 * (6000 - S.1)) [zr g 1, .ref (zgb g), .int (zi v2), .int (zi v3), zr g v4] M S (.inl (some (.int (zi r)))) M' S' (inR r ∧ zFx S') := by
  refine zMet_ofL (by decide) hlt [(0, zr g 1), (1, .ref (zgb g)), (2, .int (zi v2)), (3, .int (zi v3)), (4, zr g v4)] (by simp only [lv_args, zr_cat, zc_i, zc_l, zc_d, zc_r] <;> rfl) (by rw [zsl_len]; simp only [List.map_cons, List.map_nil, zr_cat, zc_i, zc_l, zc_d, zc_r, List.sum_cons, List.sum_nil] <;> decide) (zFx_cnt hF) (fun K hC hE hN hK0 => ?_)
  obtain ⟨S0, eS0⟩ : ∃ S0 : zS, S0 = S := ⟨S, rfl⟩
  rw [← eS0] at hK0 hE
  refine j_tight hK0 ?_
  unfold F_L_areContexts at h
  have J_243 : ∀ (t0 : Int) (ht0 : inR t0) (M : zM) (S : zS) (hF : zFx S) (_ : F_L_areContexts_J243 t0 M S = some (r, M', S')), zJ K g (S.1 - S0.1) (1000 * (S.1 - S0.1)) 243 10 [(0, zr g 1)] [.int (zi t0)] M S := by
    intro t0 ht0 M S hF h
    unfold F_L_areContexts_J243 at h
    refine j_istore hC dL_areContexts_243 (Nat.le_of_ble_eq_true rfl) rfl ?_
    refine j_aload_n hC 1 dL_areContexts_245 rfl rfl ?_
    obtain ⟨cp1, h⟩ := zchk_ex h
    refine j_le hK0 (zFx_cnt hF) (fun hlecp1 => ?_)
    obtain ⟨r4, M2, S3, hy, hx6, hk7⟩ := zbx_ex h
    refine j_callXVv (ci := 7) hC hE hN lk_L_211 dL_areContexts_246 (c_X10_restore l hlt g M S hF hy) [] [] (zFx_kd hF 1 rfl) ⟨_, rfl, by decide, rfl⟩ rfl rfl rfl (zcat (Nat.le_of_ble_eq_true rfl)) (Nat.le_of_ble_eq_true rfl) (Nat.le_of_ble_eq_true rfl) (by omega) (by omega) (fun e he hp8 => by cases hx6 e he) (fun u5 he hp8 => ?_)
    have h := hk7 u5 he
    subst he
    have hF9 := hp8
    refine j_tight hK0 ?_
    refine j_iload hC 0 dL_areContexts_249 rfl ?_
    obtain ⟨c10, h⟩ := zchk_ex h
    obtain ⟨cp11, h⟩ := zchk_ex h
    refine j_le hK0 (zFx_cnt hF9) (fun hlecp11 => ?_)
    obtain ⟨e1, e2, e3⟩ := zpr3 (Option.some.inj h)
    exact j_iret hC hE dL_areContexts_251 (w_id ht0) (zn_z c10) (by rw [← e1]) e2 e3 ⟨(by rw [← e1]; exact ht0), (by rw [← e3]; exact hF9)⟩ (by omega) (by omega)
  have J_242 : ∀ (M : zM) (S : zS) (hF : zFx S) (_ : F_L_areContexts_J242 M S = some (r, M', S')), zJ K g (S.1 - S0.1) (1000 * (S.1 - S0.1)) 242 10 [(0, zr g 1)] [] M S := by
    intro M S hF h
    unfold F_L_areContexts_J242 at h
    refine j_iconst hC dL_areContexts_242 ?_
    exact J_243 0 kR_0 M S hF h
  have J_225 : ∀ (v3 : Int) (v6 : Int) (hv3 : inR v3) (hv6 : inR v6) (M : zM) (S : zS) (hF : zFx S) (_ : F_L_areContexts_J225 v3 v6 M S = some (r, M', S')), zJ K g (S.1 - S0.1) (1000 * (S.1 - S0.1)) 225 10 [(0, zr g 1), (3, .int (zi v3)), (6, .int (zi v6))] [] M S := by
    intro v3 v6 hv3 hv6 M S hF h
    unfold F_L_areContexts_J225 at h
    refine j_iload hC 2 dL_areContexts_225 rfl ?_
    refine j_if_eq hC dL_areContexts_227 rfl (w_id hv6) (fun c12 => ?_) (fun c12 => ?_)
    · have h := zt c12 h
      refine j_sub [0] rfl ?_
      exact J_242 M S hF h
    · have h := zf c12 h
      refine j_aload_n hC 0 dL_areContexts_230 rfl rfl ?_
      obtain ⟨cp13, h⟩ := zchk_ex h
      refine j_le hK0 (zFx_cnt hF) (fun hlecp13 => ?_)
      obtain ⟨r14, M15, S16, hy, h⟩ := zb3_ex h
      refine j_callTi hC hE lk_L_209 dL_areContexts_231 (c_L_size l hlt g M S hF hy) [zr g 1] [] rfl rfl rfl (Nat.le_of_ble_eq_true rfl) (Nat.le_of_ble_eq_true rfl) (Nat.le_of_ble_eq_true rfl) (by omega) (by omega) (fun hp17 => ?_)
      obtain ⟨hr14, hFr14⟩ := hp17
      refine j_tight hK0 ?_
      refine j_iload_n hC 1 dL_areContexts_234 rfl rfl ?_
      refine j_icmp_ne hC dL_areContexts_235 rfl (w_id hr14) (w_id hv3) (fun c18 => ?_) (fun c18 => ?_)
      · have h := zf c18 h
        refine j_sub [0] rfl ?_
        exact J_242 M15 S16 hFr14 h
      · have h := zt c18 h
        refine j_iconst hC dL_areContexts_238 ?_
        refine j_goto hC dL_areContexts_239 rfl ?_
        refine j_sub [0] rfl ?_
        exact J_243 1 kR_1 M15 S16 hFr14 h
  have L_198 : ∀ (v3 : Int) (v6 : Int) (v7 : Int) (v8 : Int) (hv3 : inR v3) (hv6 : inR v6) (hv7 : inR v7) (hv8 : inR v8) (M : zM) (S : zS) (hF : zFx S) (_ : F_L_areContexts_L198 v3 v6 v7 v8 M S = some (r, M', S')), zJ K g (S.1 - S0.1) (1000 * (S.1 - S0.1)) 198 10 [(0, zr g 1), (3, .int (zi v3)), (6, .int (zi v6)), (7, .int (zi v7)), (8, .int (zi v8))] [] M S := by
    intro v3 v6 v7 v8 hv3 hv6 hv7 hv8 M S hF h
    unfold F_L_areContexts_L198 at h
    obtain ⟨ex198, hl, hd198⟩ := zb1_ex h
    obtain ⟨bd198, ebd⟩ : ∃ f, f = (fun (s : Int × zM × zS) => F_L_areContexts_B198 v3 v6 v7 s.1 s.2.1 s.2.2) := ⟨_, rfl⟩
    rw [← ebd] at hl
    have main : ∀ (n198 : Nat) (v8 : Int) (hv8 : inR v8) (M : zM) (S : zS) (hF : zFx S) (_ : zloop bd198 n198 (v8, M, S) = some ex198), zJ K g (S.1 - S0.1) (1000 * (S.1 - S0.1)) 198 10 [(0, zr g 1), (3, .int (zi v3)), (6, .int (zi v6)), (7, .int (zi v7)), (8, .int (zi v8))] [] M S := by
      intro n198
      induction n198 with
      | zero => intro v8 hv8 M S hF hl; exact zloop_0 hl
      | succ n198 ih198 =>
        have J_219 : ∀ (v8 : Int) (hv8 : inR v8) (M : zM) (S : zS) (hF : zFx S) (o : _) (_ : F_L_areContexts_J219 v3 v6 v7 v8 M S = some o), zAft (bd198) n198 ex198 o → zJ K g (S.1 - S0.1) (1000 * (S.1 - S0.1)) 219 10 [(0, zr g 1), (3, .int (zi v3)), (6, .int (zi v6)), (7, .int (zi v7)), (8, .int (zi v8))] [] M S := by
          intro v8 hv8 M S hF o h hT
          unfold F_L_areContexts_J219 at h
          obtain ⟨x19, ex19, h⟩ := zlet_ex h
          have hx19 : inR x19 := by rw [ex19]; exact inR_w _
          refine j_iinc hC 4 dL_areContexts_219 rfl ex19 (Nat.le_of_ble_eq_true rfl) rfl ?_
          refine j_goto hC dL_areContexts_222 rfl ?_
          obtain rfl := Option.some.inj h
          refine j_sub [1, 2, 3, 4, 0] rfl ?_
          exact ih198 x19 hx19 M S hF hT
        intro v8 hv8 M S hF hl
        obtain ⟨o, h, hT⟩ := zloop_ex hl
        have h : F_L_areContexts_B198 v3 v6 v7 v8 M S = some o := by rw [ebd] at h; exact h
        unfold F_L_areContexts_B198 at h
        refine j_iload hC 4 dL_areContexts_198 rfl ?_
        refine j_if_lt hC dL_areContexts_200 rfl (w_id hv8) (fun c20 => ?_) (fun c20 => ?_)
        · have h := zt c20 h
          obtain rfl := Option.some.inj h
          have hx198 := hd198
          rw [← show _ = ex198 from hT] at hx198
          refine j_sub [0, 1, 2] rfl ?_
          exact J_225 v3 v6 hv3 hv6 M S hF hx198
        · have h := zf c20 h
          refine j_iload hC 3 dL_areContexts_203 rfl ?_
          refine j_iload hC 4 dL_areContexts_205 rfl ?_
          refine j_ishr hC dL_areContexts_207 ?_
          refine j_iconst hC dL_areContexts_208 ?_
          refine j_iand hC dL_areContexts_209 ?_
          refine j_if_ne hC dL_areContexts_210 rfl (w_id (cR_zand _ _)) (fun c21 => ?_) (fun c21 => ?_)
          · have h := zf c21 h
            exact J_219 v8 hv8 M S hF _ h hT
          · have h := zt c21 h
            refine j_aload_n hC 0 dL_areContexts_213 rfl rfl ?_
            refine j_iload hC 4 dL_areContexts_214 rfl ?_
            obtain ⟨cp22, h⟩ := zchk_ex h
            refine j_le hK0 (zFx_cnt hF) (fun hlecp22 => ?_)
            obtain ⟨r25, M23, S24, hy, hx27, hk28⟩ := zbx_ex h
            refine j_callXVv (ci := 7) hC hE hN lk_L_98 dL_areContexts_216 (c_X10_removeContext l hlt g v8 hv8 M S hF hy) [.int (zi v8)] [] (zFx_kd hF 1 rfl) ⟨_, rfl, by decide, rfl⟩ rfl rfl rfl (zcat (Nat.le_of_ble_eq_true rfl)) (Nat.le_of_ble_eq_true rfl) (Nat.le_of_ble_eq_true rfl) (by omega) (by omega) (fun e he hp29 => by cases hx27 e he) (fun u26 he hp29 => ?_)
            have h := hk28 u26 he
            subst he
            have hF30 := hp29
            refine j_tight hK0 ?_
            exact J_219 v8 hv8 M23 S24 hF30 _ h hT
    exact main zN v8 hv8 M S hF hl
  have J_192 : ∀ (v3 : Int) (v5 : Int) (v6 : Int) (v7 : Int) (hv3 : inR v3) (hv5 : inR v5) (hv6 : inR v6) (hv7 : inR v7) (M : zM) (S : zS) (hF : zFx S) (_ : F_L_areContexts_J192 v3 v5 v6 v7 M S = some (r, M', S')), zJ K g (S.1 - S0.1) (1000 * (S.1 - S0.1)) 192 10 [(0, zr g 1), (3, .int (zi v3)), (5, .int (zi v5)), (6, .int (zi v6)), (7, .int (zi v7))] [] M S := by
    intro v3 v5 v6 v7 hv3 hv5 hv6 hv7 M S hF h
    unfold F_L_areContexts_J192 at h
    refine j_iload hC 2 dL_areContexts_192 rfl ?_
    refine j_iconst hC dL_areContexts_194 ?_
    refine j_isub hC dL_areContexts_195 ?_
    obtain ⟨x31, ex31, h⟩ := zlet_ex h
    have hx31 : inR x31 := by rw [ex31]; exact inR_w _
    refine j_namei ex31 ?_
    refine j_istore hC dL_areContexts_196 (Nat.le_of_ble_eq_true rfl) rfl ?_
    refine j_sub [1, 2, 4, 5, 0] rfl ?_
    exact L_198 v3 v6 v7 x31 hv3 hv6 hv7 hx31 M S hF h
  have L_125 : ∀ (v3 : Int) (v5 : Int) (v6 : Int) (v7 : Int) (v8 : Int) (hv3 : inR v3) (hv5 : inR v5) (hv6 : inR v6) (hv7 : inR v7) (hv8 : inR v8) (M : zM) (S : zS) (hF : zFx S) (_ : F_L_areContexts_L125 v3 v5 v6 v7 v8 M S = some (r, M', S')), zJ K g (S.1 - S0.1) (1000 * (S.1 - S0.1)) 125 10 [(0, zr g 1), (3, .int (zi v3)), (5, .int (zi v5)), (6, .int (zi v6)), (7, .int (zi v7)), (8, .int (zi v8))] [] M S := by
    intro v3 v5 v6 v7 v8 hv3 hv5 hv6 hv7 hv8 M S hF h
    unfold F_L_areContexts_L125 at h
    obtain ⟨ex125, hl, hd125⟩ := zb1_ex h
    obtain ⟨bd125, ebd⟩ : ∃ f, f = (fun (s : Int × Int × zM × zS) => F_L_areContexts_B125 v3 v5 s.1 v7 s.2.1 s.2.2.1 s.2.2.2) := ⟨_, rfl⟩
    rw [← ebd] at hl
    have main : ∀ (n125 : Nat) (v6 : Int) (v8 : Int) (hv6 : inR v6) (hv8 : inR v8) (M : zM) (S : zS) (hF : zFx S) (_ : zloop bd125 n125 (v6, v8, M, S) = some ex125), zJ K g (S.1 - S0.1) (1000 * (S.1 - S0.1)) 125 10 [(0, zr g 1), (3, .int (zi v3)), (5, .int (zi v5)), (6, .int (zi v6)), (7, .int (zi v7)), (8, .int (zi v8))] [] M S := by
      intro n125
      induction n125 with
      | zero => intro v6 v8 hv6 hv8 M S hF hl; exact zloop_0 hl
      | succ n125 ih125 =>
        have J_180 : ∀ (v8 : Int) (t0 : Int) (hv8 : inR v8) (ht0 : inR t0) (M : zM) (S : zS) (hF : zFx S) (o : _) (_ : F_L_areContexts_J180 v3 v5 v7 v8 t0 M S = some o), zAft (bd125) n125 ex125 o → zJ K g (S.1 - S0.1) (1000 * (S.1 - S0.1)) 180 10 [(0, zr g 1), (3, .int (zi v3)), (5, .int (zi v5)), (7, .int (zi v7)), (8, .int (zi v8))] [.int (zi t0)] M S := by
          intro v8 t0 hv8 ht0 M S hF o h hT
          unfold F_L_areContexts_J180 at h
          refine j_istore hC dL_areContexts_180 (Nat.le_of_ble_eq_true rfl) rfl ?_
          refine j_aload_n hC 1 dL_areContexts_182 rfl rfl ?_
          obtain ⟨cp32, h⟩ := zchk_ex h
          refine j_le hK0 (zFx_cnt hF) (fun hlecp32 => ?_)
          obtain ⟨r35, M33, S34, hy, hx37, hk38⟩ := zbx_ex h
          refine j_callXVv (ci := 7) hC hE hN lk_L_211 dL_areContexts_183 (c_X10_restore l hlt g M S hF hy) [] [] (zFx_kd hF 1 rfl) ⟨_, rfl, by decide, rfl⟩ rfl rfl rfl (zcat (Nat.le_of_ble_eq_true rfl)) (Nat.le_of_ble_eq_true rfl) (Nat.le_of_ble_eq_true rfl) (by omega) (by omega) (fun e he hp39 => by cases hx37 e he) (fun u36 he hp39 => ?_)
          have h := hk38 u36 he
          subst he
          have hF40 := hp39
          refine j_tight hK0 ?_
          obtain ⟨x41, ex41, h⟩ := zlet_ex h
          have hx41 : inR x41 := by rw [ex41]; exact inR_w _
          refine j_iinc hC 5 dL_areContexts_186 rfl ex41 (Nat.le_of_ble_eq_true rfl) rfl ?_
          refine j_goto hC dL_areContexts_189 rfl ?_
          obtain rfl := Option.some.inj h
          refine j_sub [2, 3, 4, 1, 5, 0] rfl ?_
          exact ih125 t0 x41 ht0 hx41 M33 S34 hF40 hT
        have J_179 : ∀ (v8 : Int) (hv8 : inR v8) (M : zM) (S : zS) (hF : zFx S) (o : _) (_ : F_L_areContexts_J179 v3 v5 v7 v8 M S = some o), zAft (bd125) n125 ex125 o → zJ K g (S.1 - S0.1) (1000 * (S.1 - S0.1)) 179 10 [(0, zr g 1), (3, .int (zi v3)), (5, .int (zi v5)), (7, .int (zi v7)), (8, .int (zi v8))] [] M S := by
          intro v8 hv8 M S hF o h hT
          unfold F_L_areContexts_J179 at h
          refine j_iconst hC dL_areContexts_179 ?_
          exact J_180 v8 0 hv8 kR_0 M S hF _ h hT
        have J_162 : ∀ (v8 : Int) (v9 : Int) (t0 : Int) (hv8 : inR v8) (hv9 : inR v9) (ht0 : inR t0) (M : zM) (S : zS) (hF : zFx S) (o : _) (_ : F_L_areContexts_J162 v3 v5 v7 v8 v9 t0 M S = some o), zAft (bd125) n125 ex125 o → zJ K g (S.1 - S0.1) (1000 * (S.1 - S0.1)) 162 10 [(0, zr g 1), (3, .int (zi v3)), (5, .int (zi v5)), (7, .int (zi v7)), (8, .int (zi v8)), (9, .int (zi v9))] [.int (zi t0)] M S := by
          intro v8 v9 t0 hv8 hv9 ht0 M S hF o h hT
          unfold F_L_areContexts_J162 at h
          refine j_iload hC 5 dL_areContexts_162 rfl ?_
          refine j_icmp_ne hC dL_areContexts_164 rfl (w_id ht0) (w_id hv9) (fun c42 => ?_) (fun c42 => ?_)
          · have h := zf c42 h
            refine j_sub [0, 1, 2, 3, 4] rfl ?_
            exact J_179 v8 hv8 M S hF _ h hT
          · have h := zt c42 h
            refine j_aload_n hC 0 dL_areContexts_167 rfl rfl ?_
            obtain ⟨cp43, h⟩ := zchk_ex h
            refine j_le hK0 (zFx_cnt hF) (fun hlecp43 => ?_)
            obtain ⟨r44, M45, S46, hy, h⟩ := zb3_ex h
            refine j_callTi hC hE lk_L_209 dL_areContexts_168 (c_L_size l hlt g M S hF hy) [zr g 1] [] rfl rfl rfl (Nat.le_of_ble_eq_true rfl) (Nat.le_of_ble_eq_true rfl) (Nat.le_of_ble_eq_true rfl) (by omega) (by omega) (fun hp47 => ?_)
            obtain ⟨hr44, hFr44⟩ := hp47
            refine j_tight hK0 ?_
            refine j_iload_n hC 1 dL_areContexts_171 rfl rfl ?_
            refine j_icmp_gt hC dL_areContexts_172 rfl (w_id hr44) (w_id hv3) (fun c48 => ?_) (fun c48 => ?_)
            · have h := zt c48 h
              refine j_sub [0, 1, 2, 3, 4] rfl ?_
              exact J_179 v8 hv8 M45 S46 hFr44 _ h hT
            · have h := zf c48 h
              refine j_iconst hC dL_areContexts_175 ?_
              refine j_goto hC dL_areContexts_176 rfl ?_
              refine j_sub [0, 1, 2, 3, 4] rfl ?_
              exact J_180 v8 1 hv8 kR_1 M45 S46 hFr44 _ h hT
        intro v6 v8 hv6 hv8 M S hF hl
        obtain ⟨o, h, hT⟩ := zloop_ex hl
        have h : F_L_areContexts_B125 v3 v5 v6 v7 v8 M S = some o := by rw [ebd] at h; exact h
        unfold F_L_areContexts_B125 at h
        refine j_iload hC 5 dL_areContexts_125 rfl ?_
        refine j_if_lt hC dL_areContexts_127 rfl (w_id hv8) (fun c49 => ?_) (fun c49 => ?_)
        · have h := zt c49 h
          obtain rfl := Option.some.inj h
          have hx125 := hd125
          rw [← show _ = ex125 from hT] at hx125
          refine j_sub [0, 1, 2, 3, 4] rfl ?_
          exact J_192 v3 v5 v6 v7 hv3 hv5 hv6 hv7 M S hF hx125
        · have h := zf c49 h
          refine j_aload_n hC 0 dL_areContexts_130 rfl rfl ?_
          refine j_iload hC 5 dL_areContexts_131 rfl ?_
          obtain ⟨cp50, h⟩ := zchk_ex h
          refine j_le hK0 (zFx_cnt hF) (fun hlecp50 => ?_)
          obtain ⟨r54, M52, S53, hy, hx55, hk56⟩ := zbx_ex h
          refine j_callXVi (ci := 7) hC hE hN lk_L_198 dL_areContexts_133 (c_X10_isRedundant l hlt g v8 hv8 M S hF hy) [.int (zi v8)] [] (zFx_kd hF 1 rfl) ⟨_, rfl, by decide, rfl⟩ rfl rfl rfl (zcat (Nat.le_of_ble_eq_true rfl)) (Nat.le_of_ble_eq_true rfl) (Nat.le_of_ble_eq_true rfl) (by omega) (by omega) (fun e he hp57 => by cases hx55 e he) (fun r51 he hp57 => ?_)
          have h := hk56 r51 he
          subst he
          dsimp only [zRXi, zRXl] at hp57
          obtain ⟨hr51, hF58⟩ := hp57
          refine j_tight hK0 ?_
          refine j_istore hC dL_areContexts_136 (Nat.le_of_ble_eq_true rfl) rfl ?_
          refine j_aload_n hC 1 dL_areContexts_138 rfl rfl ?_
          refine j_iload hC 6 dL_areContexts_139 rfl ?_
          obtain ⟨cp59, h⟩ := zchk_ex h
          refine j_le hK0 (zFx_cnt hF58) (fun hlecp59 => ?_)
          obtain ⟨r62, M60, S61, hy, hx64, hk65⟩ := zbx_ex h
          refine j_callXVv (ci := 7) hC hE hN lk_L_98 dL_areContexts_141 (c_X10_removeContext l hlt g v8 hv8 M52 S53 hF58 hy) [.int (zi v8)] [] (zFx_kd hF58 1 rfl) ⟨_, rfl, by decide, rfl⟩ rfl rfl rfl (zcat (Nat.le_of_ble_eq_true rfl)) (Nat.le_of_ble_eq_true rfl) (Nat.le_of_ble_eq_true rfl) (by omega) (by omega) (fun e he hp66 => by cases hx64 e he) (fun u63 he hp66 => ?_)
          have h := hk65 u63 he
          subst he
          have hF67 := hp66
          refine j_tight hK0 ?_
          refine j_iload hC 4 dL_areContexts_144 rfl ?_
          refine j_if_eq hC dL_areContexts_146 rfl (w_id hv6) (fun c68 => ?_) (fun c68 => ?_)
          · have h := zt c68 h
            refine j_sub [1, 2, 3, 5, 6] rfl ?_
            exact J_179 v8 hv8 M60 S61 hF67 _ h hT
          · have h := zf c68 h
            refine j_aload_n hC 1 dL_areContexts_149 rfl rfl ?_
            obtain ⟨cp69, h⟩ := zchk_ex h
            refine j_le hK0 (zFx_cnt hF67) (fun hlecp69 => ?_)
            obtain ⟨r70, M71, S72, hy, h⟩ := zb3_ex h
            refine j_callTi hC hE lk_L_209 dL_areContexts_150 (c_L_size l hlt g M60 S61 hF67 hy) [zr g 1] [] rfl rfl rfl (Nat.le_of_ble_eq_true rfl) (Nat.le_of_ble_eq_true rfl) (Nat.le_of_ble_eq_true rfl) (by omega) (by omega) (fun hp73 => ?_)
            obtain ⟨hr70, hFr70⟩ := hp73
            refine j_tight hK0 ?_
            refine j_iload_n hC 2 dL_areContexts_153 rfl rfl ?_
            refine j_icmp_ne hC dL_areContexts_154 rfl (w_id hr70) (w_id hv3) (fun c74 => ?_) (fun c74 => ?_)
            · have h := zf c74 h
              refine j_iconst hC dL_areContexts_161 ?_
              refine j_sub [1, 2, 3, 5, 6, 0] rfl ?_
              exact J_162 v8 r51 0 hv8 hr51 kR_0 M71 S72 hFr70 _ h hT
            · have h := zt c74 h
              refine j_iconst hC dL_areContexts_157 ?_
              refine j_goto hC dL_areContexts_158 rfl ?_
              refine j_sub [1, 2, 3, 5, 6, 0] rfl ?_
              exact J_162 v8 r51 1 hv8 hr51 kR_1 M71 S72 hFr70 _ h hT
    exact main zN v6 v8 hv6 hv8 M S hF hl
  have J_115 : ∀ (v3 : Int) (v5 : Int) (v6 : Int) (v7 : Int) (hv3 : inR v3) (hv5 : inR v5) (hv6 : inR v6) (hv7 : inR v7) (M : zM) (S : zS) (hF : zFx S) (_ : F_L_areContexts_J115 v3 v5 v6 v7 M S = some (r, M', S')), zJ K g (S.1 - S0.1) (1000 * (S.1 - S0.1)) 115 10 [(0, zr g 1), (3, .int (zi v3)), (5, .int (zi v5)), (6, .int (zi v6)), (7, .int (zi v7))] [] M S := by
    intro v3 v5 v6 v7 hv3 hv5 hv6 hv7 M S hF h
    unfold F_L_areContexts_J115 at h
    refine j_aload_n hC 0 dL_areContexts_115 rfl rfl ?_
    obtain ⟨cp75, h⟩ := zchk_ex h
    refine j_le hK0 (zFx_cnt hF) (fun hlecp75 => ?_)
    obtain ⟨M76, S77, hy, h⟩ := zb2_ex h
    refine j_callVv (ci := 7) hC hE lk_L_206 dL_areContexts_116 (c_X10_save l hlt g M S hF hy) [] [] (zFx_kd hF 1 rfl) ⟨_, rfl, by decide, rfl⟩ rfl rfl rfl (zcat (Nat.le_of_ble_eq_true rfl)) (Nat.le_of_ble_eq_true rfl) (Nat.le_of_ble_eq_true rfl) (by omega) (by omega) (fun hp78 => ?_)
    have hF79 := hp78
    refine j_tight hK0 ?_
    refine j_iload hC 2 dL_areContexts_119 rfl ?_
    refine j_iconst hC dL_areContexts_121 ?_
    refine j_isub hC dL_areContexts_122 ?_
    obtain ⟨x80, ex80, h⟩ := zlet_ex h
    have hx80 : inR x80 := by rw [ex80]; exact inR_w _
    refine j_namei ex80 ?_
    refine j_istore hC dL_areContexts_123 (Nat.le_of_ble_eq_true rfl) rfl ?_
    refine j_sub [1, 2, 3, 4, 5, 0] rfl ?_
    exact L_125 v3 v5 v6 v7 x80 hv3 hv5 hv6 hv7 hx80 M76 S77 hF79 h
  have L_40 : ∀ (v3 : Int) (v4 : Nat) (v5 : Int) (v6 : Int) (v7 : Int) (v8 : Int) (hv3 : inR v3) (hv5 : inR v5) (hv6 : inR v6) (hv7 : inR v7) (hv8 : inR v8) (M : zM) (S : zS) (hF : zFx S) (_ : F_L_areContexts_L40 v3 v4 v5 v6 v7 v8 M S = some (r, M', S')), zJ K g (S.1 - S0.1) (1000 * (S.1 - S0.1)) 40 10 [(0, zr g 1), (3, .int (zi v3)), (4, zr g v4), (5, .int (zi v5)), (6, .int (zi v6)), (7, .int (zi v7)), (8, .int (zi v8))] [] M S := by
    intro v3 v4 v5 v6 v7 v8 hv3 hv5 hv6 hv7 hv8 M S hF h
    unfold F_L_areContexts_L40 at h
    obtain ⟨ex40, hl, hd40⟩ := zb1_ex h
    obtain ⟨bd40, ebd⟩ : ∃ f, f = (fun (s : Int × Int × zM × zS) => F_L_areContexts_B40 v3 v4 v5 s.1 v7 s.2.1 s.2.2.1 s.2.2.2) := ⟨_, rfl⟩
    rw [← ebd] at hl
    have main : ∀ (n40 : Nat) (v6 : Int) (v8 : Int) (hv6 : inR v6) (hv8 : inR v8) (M : zM) (S : zS) (hF : zFx S) (_ : zloop bd40 n40 (v6, v8, M, S) = some ex40), zJ K g (S.1 - S0.1) (1000 * (S.1 - S0.1)) 40 10 [(0, zr g 1), (3, .int (zi v3)), (4, zr g v4), (5, .int (zi v5)), (6, .int (zi v6)), (7, .int (zi v7)), (8, .int (zi v8))] [] M S := by
      intro n40
      induction n40 with
      | zero => intro v6 v8 hv6 hv8 M S hF hl; exact zloop_0 hl
      | succ n40 ih40 =>
        have J_107 : ∀ (v8 : Int) (t0 : Int) (hv8 : inR v8) (ht0 : inR t0) (M : zM) (S : zS) (hF : zFx S) (o : _) (_ : F_L_areContexts_J107 v3 v4 v5 v7 v8 t0 M S = some o), zAft (bd40) n40 ex40 o → zJ K g (S.1 - S0.1) (1000 * (S.1 - S0.1)) 107 10 [(0, zr g 1), (3, .int (zi v3)), (4, zr g v4), (5, .int (zi v5)), (7, .int (zi v7)), (8, .int (zi v8))] [.int (zi t0)] M S := by
          intro v8 t0 hv8 ht0 M S hF o h hT
          unfold F_L_areContexts_J107 at h
          refine j_istore hC dL_areContexts_107 (Nat.le_of_ble_eq_true rfl) rfl ?_
          obtain ⟨x81, ex81, h⟩ := zlet_ex h
          have hx81 : inR x81 := by rw [ex81]; exact inR_w _
          refine j_iinc hC 6 dL_areContexts_109 rfl ex81 (Nat.le_of_ble_eq_true rfl) rfl ?_
          refine j_goto hC dL_areContexts_112 rfl ?_
          obtain rfl := Option.some.inj h
          refine j_sub [2, 3, 4, 5, 1, 6, 0] rfl ?_
          exact ih40 t0 x81 ht0 hx81 M S hF hT
        have J_106 : ∀ (v8 : Int) (hv8 : inR v8) (M : zM) (S : zS) (hF : zFx S) (o : _) (_ : F_L_areContexts_J106 v3 v4 v5 v7 v8 M S = some o), zAft (bd40) n40 ex40 o → zJ K g (S.1 - S0.1) (1000 * (S.1 - S0.1)) 106 10 [(0, zr g 1), (3, .int (zi v3)), (4, zr g v4), (5, .int (zi v5)), (7, .int (zi v7)), (8, .int (zi v8))] [] M S := by
          intro v8 hv8 M S hF o h hT
          unfold F_L_areContexts_J106 at h
          refine j_iconst hC dL_areContexts_106 ?_
          exact J_107 v8 0 hv8 kR_0 M S hF _ h hT
        have J_102 : ∀ (v8 : Int) (hv8 : inR v8) (M : zM) (S : zS) (hF : zFx S) (o : _) (_ : F_L_areContexts_J102 v3 v4 v5 v7 v8 M S = some o), zAft (bd40) n40 ex40 o → zJ K g (S.1 - S0.1) (1000 * (S.1 - S0.1)) 102 10 [(0, zr g 1), (3, .int (zi v3)), (4, zr g v4), (5, .int (zi v5)), (7, .int (zi v7)), (8, .int (zi v8))] [] M S := by
          intro v8 hv8 M S hF o h hT
          unfold F_L_areContexts_J102 at h
          refine j_iconst hC dL_areContexts_102 ?_
          refine j_goto hC dL_areContexts_103 rfl ?_
          exact J_107 v8 1 hv8 kR_1 M S hF _ h hT
        have J_83 : ∀ (v8 : Int) (hv8 : inR v8) (M : zM) (S : zS) (hF : zFx S) (o : _) (_ : F_L_areContexts_J83 v3 v4 v5 v7 v8 M S = some o), zAft (bd40) n40 ex40 o → zJ K g (S.1 - S0.1) (1000 * (S.1 - S0.1)) 83 10 [(0, zr g 1), (3, .int (zi v3)), (4, zr g v4), (5, .int (zi v5)), (7, .int (zi v7)), (8, .int (zi v8))] [] M S := by
          intro v8 hv8 M S hF o h hT
          unfold F_L_areContexts_J83 at h
          refine j_aload_n hC 0 dL_areContexts_83 rfl rfl ?_
          refine j_iload hC 5 dL_areContexts_84 rfl ?_
          obtain ⟨cp82, h⟩ := zchk_ex h
          refine j_le hK0 (zFx_cnt hF) (fun hlecp82 => ?_)
          obtain ⟨r86, M84, S85, hy, hx87, hk88⟩ := zbx_ex h
          refine j_callXVi (ci := 7) hC hE hN lk_L_198 dL_areContexts_86 (c_X10_isRedundant l hlt g v8 hv8 M S hF hy) [.int (zi v8)] [] (zFx_kd hF 1 rfl) ⟨_, rfl, by decide, rfl⟩ rfl rfl rfl (zcat (Nat.le_of_ble_eq_true rfl)) (Nat.le_of_ble_eq_true rfl) (Nat.le_of_ble_eq_true rfl) (by omega) (by omega) (fun e he hp89 => by cases hx87 e he) (fun r83 he hp89 => ?_)
          have h := hk88 r83 he
          subst he
          dsimp only [zRXi, zRXl] at hp89
          obtain ⟨hr83, hF90⟩ := hp89
          refine j_tight hK0 ?_
          refine j_if_eq hC dL_areContexts_89 rfl (w_id hr83) (fun c91 => ?_) (fun c91 => ?_)
          · have h := zt c91 h
            exact J_102 v8 hv8 M84 S85 hF90 _ h hT
          · have h := zf c91 h
            refine j_iload hC 4 dL_areContexts_92 rfl ?_
            obtain ⟨cp92, h⟩ := zchk_ex h
            refine j_le hK0 (zFx_cnt hF90) (fun hlecp92 => ?_)
            obtain ⟨r93, hy, h⟩ := zb1_ex h
            refine j_callSi hC hE lk_L_201 dL_areContexts_94 (c_J6_bitCount_0f7a4 l hlt g v7 hv7 M84 S85 hy) [.int (zi v7)] [] rfl rfl rfl (zcat (Nat.le_of_ble_eq_true rfl)) (Nat.le_of_ble_eq_true rfl) (Nat.le_of_ble_eq_true rfl) (by omega) (by omega) (fun hp94 => ?_)
            have hr93 := hp94
            refine j_tight hK0 ?_
            refine j_iload hC 3 dL_areContexts_97 rfl ?_
            refine j_icmp_ge hC dL_areContexts_99 rfl (w_id hr93) (w_id hv5) (fun c95 => ?_) (fun c95 => ?_)
            · have h := zf c95 h
              exact J_106 v8 hv8 M84 S85 hF90 _ h hT
            · have h := zt c95 h
              exact J_102 v8 hv8 M84 S85 hF90 _ h hT
        intro v6 v8 hv6 hv8 M S hF hl
        obtain ⟨o, h, hT⟩ := zloop_ex hl
        have h : F_L_areContexts_B40 v3 v4 v5 v6 v7 v8 M S = some o := by rw [ebd] at h; exact h
        unfold F_L_areContexts_B40 at h
        refine j_iload hC 6 dL_areContexts_40 rfl ?_
        refine j_iload hC 3 dL_areContexts_42 rfl ?_
        refine j_icmp_ge hC dL_areContexts_44 rfl (w_id hv8) (w_id hv5) (fun c96 => ?_) (fun c96 => ?_)
        · have h := zf c96 h
          obtain rfl := Option.some.inj h
          have hx40 := hd40
          rw [← show _ = ex40 from hT] at hx40
          refine j_sub [0, 1, 3, 4, 5] rfl ?_
          exact J_115 v3 v5 v6 v7 hv3 hv5 hv6 hv7 M S hF hx40
        · have h := zt c96 h
          refine j_iload hC 4 dL_areContexts_47 rfl ?_
          refine j_if_eq hC dL_areContexts_49 rfl (w_id hv6) (fun c97 => ?_) (fun c97 => ?_)
          · have h := zt c97 h
            refine j_sub [0, 1, 2, 3, 5, 6] rfl ?_
            exact J_106 v8 hv8 M S hF _ h hT
          · have h := zf c97 h
            refine j_aload_n hC 0 dL_areContexts_52 rfl rfl ?_
            refine j_iload hC 6 dL_areContexts_53 rfl ?_
            obtain ⟨cp98, h⟩ := zchk_ex h
            refine j_le hK0 (zFx_cnt hF) (fun hlecp98 => ?_)
            obtain ⟨r102, M100, S101, hy, hx103, hk104⟩ := zbx_ex h
            refine j_callXVi (ci := 7) hC hE hN lk_L_194 dL_areContexts_55 (c_X10_isUsed l hlt g v8 hv8 M S hF hy) [.int (zi v8)] [] (zFx_kd hF 1 rfl) ⟨_, rfl, by decide, rfl⟩ rfl rfl rfl (zcat (Nat.le_of_ble_eq_true rfl)) (Nat.le_of_ble_eq_true rfl) (Nat.le_of_ble_eq_true rfl) (by omega) (by omega) (fun e he hp105 => by cases hx103 e he) (fun r99 he hp105 => ?_)
            have h := hk104 r99 he
            subst he
            dsimp only [zRXi, zRXl] at hp105
            obtain ⟨hr99, hF106⟩ := hp105
            refine j_tight hK0 ?_
            refine j_aload hC 2 dL_areContexts_58 rfl ?_
            refine j_iload hC 6 dL_areContexts_60 rfl ?_
            obtain ⟨hk, h⟩ := zchk_ex h
            have hk107 := hk
            obtain ⟨c108, h⟩ := zchk_ex h
            refine j_zald (n := (zlen S101 v4)) hC dL_areContexts_62 (w_id hv8) hk107 rfl c108.1 c108.2 (fun hg109 => ?_)
            refine j_icmp_ne hC dL_areContexts_63 rfl (w_id hr99) (w_id (inR_b hg109)) (fun c110 => ?_) (fun c110 => ?_)
            · have h := zf c110 h
              refine j_sub [0, 1, 2, 3, 5, 6] rfl ?_
              exact J_106 v8 hv8 M100 S101 hF106 _ h hT
            · have h := zt c110 h
              refine j_aload hC 2 dL_areContexts_66 rfl ?_
              refine j_iload hC 6 dL_areContexts_68 rfl ?_
              obtain ⟨hk, h⟩ := zchk_ex h
              have hk111 := hk
              obtain ⟨c112, h⟩ := zchk_ex h
              refine j_zald (n := (zlen S101 v4)) hC dL_areContexts_70 (w_id hv8) hk111 rfl c112.1 c112.2 (fun hg113 => ?_)
              refine j_if_ne hC dL_areContexts_71 rfl (w_id (inR_b hg113)) (fun c114 => ?_) (fun c114 => ?_)
              · have h := zf c114 h
                refine j_sub [0, 1, 2, 3, 5, 6] rfl ?_
                exact J_83 v8 hv8 M100 S101 hF106 _ h hT
              · have h := zt c114 h
                refine j_aload_n hC 0 dL_areContexts_74 rfl rfl ?_
                refine j_iload hC 6 dL_areContexts_75 rfl ?_
                obtain ⟨cp115, h⟩ := zchk_ex h
                refine j_le hK0 (zFx_cnt hF106) (fun hlecp115 => ?_)
                obtain ⟨r119, M117, S118, hy, hx120, hk121⟩ := zbx_ex h
                refine j_callXVi (ci := 7) hC hE hN lk_L_198 dL_areContexts_77 (c_X10_isRedundant l hlt g v8 hv8 M100 S101 hF106 hy) [.int (zi v8)] [] (zFx_kd hF106 1 rfl) ⟨_, rfl, by decide, rfl⟩ rfl rfl rfl (zcat (Nat.le_of_ble_eq_true rfl)) (Nat.le_of_ble_eq_true rfl) (Nat.le_of_ble_eq_true rfl) (by omega) (by omega) (fun e he hp122 => by cases hx120 e he) (fun r116 he hp122 => ?_)
                have h := hk121 r116 he
                subst he
                dsimp only [zRXi, zRXl] at hp122
                obtain ⟨hr116, hF123⟩ := hp122
                refine j_tight hK0 ?_
                refine j_if_eq hC dL_areContexts_80 rfl (w_id hr116) (fun c124 => ?_) (fun c124 => ?_)
                · have h := zt c124 h
                  refine j_sub [0, 1, 2, 3, 5, 6] rfl ?_
                  exact J_106 v8 hv8 M117 S118 hF123 _ h hT
                · have h := zf c124 h
                  refine j_sub [0, 1, 2, 3, 5, 6] rfl ?_
                  exact J_83 v8 hv8 M117 S118 hF123 _ h hT
    exact main zN v6 v8 hv6 hv8 M S hF hl
  have J_35 : ∀ (v3 : Int) (v4 : Nat) (v5 : Int) (v7 : Int) (t0 : Int) (hv3 : inR v3) (hv5 : inR v5) (hv7 : inR v7) (ht0 : inR t0) (M : zM) (S : zS) (hF : zFx S) (_ : F_L_areContexts_J35 v3 v4 v5 v7 t0 M S = some (r, M', S')), zJ K g (S.1 - S0.1) (1000 * (S.1 - S0.1)) 35 10 [(0, zr g 1), (3, .int (zi v3)), (4, zr g v4), (5, .int (zi v5)), (7, .int (zi v7))] [.int (zi t0)] M S := by
    intro v3 v4 v5 v7 t0 hv3 hv5 hv7 ht0 M S hF h
    unfold F_L_areContexts_J35 at h
    refine j_istore hC dL_areContexts_35 (Nat.le_of_ble_eq_true rfl) rfl ?_
    refine j_iconst hC dL_areContexts_37 ?_
    refine j_istore hC dL_areContexts_38 (Nat.le_of_ble_eq_true rfl) rfl ?_
    refine j_sub [2, 3, 4, 5, 1, 6, 0] rfl ?_
    exact L_40 v3 v4 v5 t0 v7 0 hv3 hv5 ht0 hv7 kR_0 M S hF h
  have J_34 : ∀ (v3 : Int) (v4 : Nat) (v5 : Int) (v7 : Int) (hv3 : inR v3) (hv5 : inR v5) (hv7 : inR v7) (M : zM) (S : zS) (hF : zFx S) (_ : F_L_areContexts_J34 v3 v4 v5 v7 M S = some (r, M', S')), zJ K g (S.1 - S0.1) (1000 * (S.1 - S0.1)) 34 10 [(0, zr g 1), (3, .int (zi v3)), (4, zr g v4), (5, .int (zi v5)), (7, .int (zi v7))] [] M S := by
    intro v3 v4 v5 v7 hv3 hv5 hv7 M S hF h
    unfold F_L_areContexts_J34 at h
    refine j_iconst hC dL_areContexts_34 ?_
    exact J_35 v3 v4 v5 v7 0 hv3 hv5 hv7 kR_0 M S hF h
  refine j_aload_n hC 0 dL_areContexts_0 rfl rfl ?_
  refine j_iconst hC dL_areContexts_1 ?_
  obtain ⟨cp125, h⟩ := zchk_ex h
  refine j_le hK0 (zFx_cnt hF) (fun hlecp125 => ?_)
  obtain ⟨r129, M127, S128, hy, hx130, hk131⟩ := zbx_ex h
  refine j_callXVi (ci := 7) hC hE hN lk_L_90 dL_areContexts_2 (c_X10_count l hlt g 1 kR_1 M S hF hy) [.int (zi 1)] [] (zFx_kd hF 1 rfl) ⟨_, rfl, by decide, rfl⟩ rfl rfl rfl (zcat (Nat.le_of_ble_eq_true rfl)) (Nat.le_of_ble_eq_true rfl) (Nat.le_of_ble_eq_true rfl) (by omega) (by omega) (fun e he hp132 => by cases hx130 e he) (fun r126 he hp132 => ?_)
  have h := hk131 r126 he
  subst he
  dsimp only [zRXi, zRXl] at hp132
  obtain ⟨hr126, hF133⟩ := hp132
  refine j_tight hK0 ?_
  refine j_istore (lv1 := [(5, .int (zi r126)), (0, zr g 1), (1, .ref (zgb g)), (2, .int (zi v2)), (3, .int (zi v3)), (4, zr g v4)]) hC dL_areContexts_5 (Nat.le_of_ble_eq_true rfl) (by simp only [List.filter_cons, List.filter_nil, zr_cat, zc_i, zc_l, zc_d, zc_r] <;> first | rfl | simp [zr_cat]) ?_
  refine j_iconst hC dL_areContexts_7 ?_
  refine j_istore hC dL_areContexts_8 (Nat.le_of_ble_eq_true rfl) rfl ?_
  refine j_aload_n hC 2 dL_areContexts_10 rfl rfl ?_
  obtain ⟨cp134, h⟩ := zchk_ex h
  refine j_le hK0 (zFx_cnt hF133) (fun hlecp134 => ?_)
  obtain ⟨r138, M136, S137, hy, hx139, hk140⟩ := zbx_ex h
  refine j_callXVi (ci := 7) hC hE hN lk_L_191 dL_areContexts_11 (c_X10_minimalContexts l hlt g M127 S128 hF133 hy) [] [] (zFx_kd hF133 1 rfl) ⟨_, rfl, by decide, rfl⟩ rfl rfl rfl (zcat (Nat.le_of_ble_eq_true rfl)) (Nat.le_of_ble_eq_true rfl) (Nat.le_of_ble_eq_true rfl) (by omega) (by omega) (fun e he hp141 => by cases hx139 e he) (fun r135 he hp141 => ?_)
  have h := hk140 r135 he
  subst he
  dsimp only [zRXi, zRXl] at hp141
  obtain ⟨hr135, hF142⟩ := hp141
  refine j_tight hK0 ?_
  refine j_istore hC dL_areContexts_14 (Nat.le_of_ble_eq_true rfl) rfl ?_
  refine j_iload hC 1 dL_areContexts_16 rfl ?_
  refine j_if_eq hC dL_areContexts_18 rfl (w_id kR_1) (fun c143 => ?_) (fun c143 => ?_)
  · have h := zt c143 h
    refine j_sub [3, 6, 7, 2, 0] rfl ?_
    exact J_34 v3 v4 r126 r135 hv3 hr126 hr135 M136 S137 hF142 h
  · have h := zf c143 h
    refine j_iload hC 0 dL_areContexts_21 rfl ?_
    refine j_iconst hC dL_areContexts_23 ?_
    refine j_iload hC 2 dL_areContexts_24 rfl ?_
    refine j_ishl hC dL_areContexts_26 ?_
    refine j_icmp_ge hC dL_areContexts_27 rfl (w_id hr135) (w_id (cR_zshl _ _)) (fun c144 => ?_) (fun c144 => ?_)
    · have h := zf c144 h
      refine j_sub [3, 6, 7, 2, 0] rfl ?_
      exact J_34 v3 v4 r126 r135 hv3 hr126 hr135 M136 S137 hF142 h
    · have h := zt c144 h
      refine j_iconst hC dL_areContexts_30 ?_
      refine j_goto hC dL_areContexts_31 rfl ?_
      refine j_sub [3, 6, 7, 2, 0] rfl ?_
      exact J_35 v3 v4 r126 r135 1 hv3 hr126 hr135 kR_1 M136 S137 hF142 h
set_option maxHeartbeats 4000000 in
set_option maxRecDepth 100000 in
theorem c_L_areFollowing (l : Launch) (hlt : l.stackTraces = false) (g : zG) (v1 : Int) (hv1 : inR v1) (M : zM) (S : zS) (hF : zFx S) {r : Int} {M' : zM} {S' : zS} (h : F_L_areFollowing v1 M S = some (r, M', S')) : zMet l g yL_areFollowing cL_areFollowing 11 (some .boolean) 12 (6000 - S.1) (1000 * (6000 - S.1)) [zr g 1, .int (zi v1)] M S (.inl (some (.int (zi r)))) M' S' (inR r ∧ zFx S') := by
  refine zMet_ofL (by decide) hlt [(0, zr g 1), (1, .int (zi v1))] rfl (Nat.le_of_ble_eq_true rfl) (zFx_cnt hF) (fun K hC hE hN hK0 => ?_)
  obtain ⟨S0, eS0⟩ : ∃ S0 : zS, S0 = S := ⟨S, rfl⟩
  rw [← eS0] at hK0 hE
  refine j_tight hK0 ?_
  unfold F_L_areFollowing at h
  have J_217 : ∀ (v4 : Int) (hv4 : inR v4) (M : zM) (S : zS) (hF : zFx S) (_ : F_L_areFollowing_J217 v4 M S = some (r, M', S')), zJ K g (S.1 - S0.1) (1000 * (S.1 - S0.1)) 217 11 [(4, .int (zi v4))] [] M S := by
    intro v4 hv4 M S hF h
    unfold F_L_areFollowing_J217 at h
    refine j_iload hC 0 dL_areFollowing_217 rfl ?_
    obtain ⟨c1, h⟩ := zchk_ex h
    obtain ⟨cp2, h⟩ := zchk_ex h
    refine j_le hK0 (zFx_cnt hF) (fun hlecp2 => ?_)
    obtain ⟨e1, e2, e3⟩ := zpr3 (Option.some.inj h)
    exact j_iret hC hE dL_areFollowing_219 (w_id hv4) (zn_z c1) (by rw [← e1]) e2 e3 ⟨(by rw [← e1]; exact hv4), (by rw [← e3]; exact hF)⟩ (by omega) (by omega)
  have L_129 : ∀ (v1 : Int) (v2 : Int) (v3 : Nat) (v4 : Int) (v5 : Int) (hv1 : inR v1) (hv2 : inR v2) (hv4 : inR v4) (hv5 : inR v5) (M : zM) (S : zS) (hF : zFx S) (_ : F_L_areFollowing_L129 v1 v2 v3 v4 v5 M S = some (r, M', S')), zJ K g (S.1 - S0.1) (1000 * (S.1 - S0.1)) 129 11 [(0, zr g 1), (1, .int (zi v1)), (2, .int (zi v2)), (3, zr g v3), (4, .int (zi v4)), (5, .int (zi v5))] [] M S := by
    intro v1 v2 v3 v4 v5 hv1 hv2 hv4 hv5 M S hF h
    unfold F_L_areFollowing_L129 at h
    obtain ⟨ex129, hl, hd129⟩ := zb1_ex h
    obtain ⟨bd129, ebd⟩ : ∃ f, f = (fun (s : Int × Int × zM × zS) => F_L_areFollowing_B129 v1 v2 v3 s.1 s.2.1 s.2.2.1 s.2.2.2) := ⟨_, rfl⟩
    rw [← ebd] at hl
    have main : ∀ (n129 : Nat) (v4 : Int) (v5 : Int) (hv4 : inR v4) (hv5 : inR v5) (M : zM) (S : zS) (hF : zFx S) (_ : zloop bd129 n129 (v4, v5, M, S) = some ex129), zJ K g (S.1 - S0.1) (1000 * (S.1 - S0.1)) 129 11 [(0, zr g 1), (1, .int (zi v1)), (2, .int (zi v2)), (3, zr g v3), (4, .int (zi v4)), (5, .int (zi v5))] [] M S := by
      intro n129
      induction n129 with
      | zero => intro v4 v5 hv4 hv5 M S hF hl; exact zloop_0 hl
      | succ n129 ih129 =>
        have J_211 : ∀ (v4 : Int) (v5 : Int) (hv4 : inR v4) (hv5 : inR v5) (M : zM) (S : zS) (hF : zFx S) (o : _) (_ : F_L_areFollowing_J211 v1 v2 v3 v4 v5 M S = some o), zAft (bd129) n129 ex129 o → zJ K g (S.1 - S0.1) (1000 * (S.1 - S0.1)) 211 11 [(0, zr g 1), (1, .int (zi v1)), (2, .int (zi v2)), (3, zr g v3), (4, .int (zi v4)), (5, .int (zi v5))] [] M S := by
          intro v4 v5 hv4 hv5 M S hF o h hT
          unfold F_L_areFollowing_J211 at h
          obtain ⟨x3, ex3, h⟩ := zlet_ex h
          have hx3 : inR x3 := by rw [ex3]; exact inR_w _
          refine j_iinc hC 5 dL_areFollowing_211 rfl ex3 (Nat.le_of_ble_eq_true rfl) rfl ?_
          refine j_goto hC dL_areFollowing_214 rfl ?_
          obtain rfl := Option.some.inj h
          refine j_sub [1, 2, 3, 4, 5, 0] rfl ?_
          exact ih129 v4 x3 hv4 hx3 M S hF hT
        have L_138 : ∀ (v4 : Int) (v5 : Int) (v6 : Int) (hv4 : inR v4) (hv5 : inR v5) (hv6 : inR v6) (M : zM) (S : zS) (hF : zFx S) (o : _) (_ : F_L_areFollowing_L138 v1 v2 v3 v4 v5 v6 M S = some o), zAft (bd129) n129 ex129 o → zJ K g (S.1 - S0.1) (1000 * (S.1 - S0.1)) 138 11 [(0, zr g 1), (1, .int (zi v1)), (2, .int (zi v2)), (3, zr g v3), (4, .int (zi v4)), (5, .int (zi v5)), (6, .int (zi v6))] [] M S := by
          intro v4 v5 v6 hv4 hv5 hv6 M S hF oh138 h hT138
          unfold F_L_areFollowing_L138 at h
          obtain ⟨ex138, hl, hd138⟩ := zb1_ex h
          obtain ⟨bd138, ebd⟩ : ∃ f, f = (fun (s : Int × Int × zM × zS) => F_L_areFollowing_B138 v1 v2 v3 s.1 v5 s.2.1 s.2.2.1 s.2.2.2) := ⟨_, rfl⟩
          rw [← ebd] at hl
          have main : ∀ (n138 : Nat) (v4 : Int) (v6 : Int) (hv4 : inR v4) (hv6 : inR v6) (M : zM) (S : zS) (hF : zFx S) (_ : zloop bd138 n138 (v4, v6, M, S) = some ex138), zJ K g (S.1 - S0.1) (1000 * (S.1 - S0.1)) 138 11 [(0, zr g 1), (1, .int (zi v1)), (2, .int (zi v2)), (3, zr g v3), (4, .int (zi v4)), (5, .int (zi v5)), (6, .int (zi v6))] [] M S := by
            intro n138
            induction n138 with
            | zero => intro v4 v6 hv4 hv6 M S hF hl; exact zloop_0 hl
            | succ n138 ih138 =>
              have J_203 : ∀ (v6 : Int) (t0 : Int) (hv6 : inR v6) (ht0 : inR t0) (M : zM) (S : zS) (hF : zFx S) (o : _) (_ : F_L_areFollowing_J203 v1 v2 v3 v5 v6 t0 M S = some o), zAft (bd138) n138 ex138 o → zJ K g (S.1 - S0.1) (1000 * (S.1 - S0.1)) 203 11 [(0, zr g 1), (1, .int (zi v1)), (2, .int (zi v2)), (3, zr g v3), (5, .int (zi v5)), (6, .int (zi v6))] [.int (zi t0)] M S := by
                intro v6 t0 hv6 ht0 M S hF o h hT
                unfold F_L_areFollowing_J203 at h
                refine j_istore (lv1 := [(4, .int (zi t0)), (0, zr g 1), (1, .int (zi v1)), (2, .int (zi v2)), (3, zr g v3), (5, .int (zi v5)), (6, .int (zi v6))]) hC dL_areFollowing_203 (Nat.le_of_ble_eq_true rfl) (by simp only [List.filter_cons, List.filter_nil, zr_cat, zc_i, zc_l, zc_d, zc_r] <;> first | rfl | simp [zr_cat]) ?_
                obtain ⟨x4, ex4, h⟩ := zlet_ex h
                have hx4 : inR x4 := by rw [ex4]; exact inR_w _
                refine j_iinc hC 6 dL_areFollowing_205 rfl ex4 (Nat.le_of_ble_eq_true rfl) rfl ?_
                refine j_goto hC dL_areFollowing_208 rfl ?_
                obtain rfl := Option.some.inj h
                refine j_sub [2, 3, 4, 5, 1, 6, 0] rfl ?_
                exact ih138 t0 x4 ht0 hx4 M S hF hT
              have J_202 : ∀ (v6 : Int) (hv6 : inR v6) (M : zM) (S : zS) (hF : zFx S) (o : _) (_ : F_L_areFollowing_J202 v1 v2 v3 v5 v6 M S = some o), zAft (bd138) n138 ex138 o → zJ K g (S.1 - S0.1) (1000 * (S.1 - S0.1)) 202 11 [(0, zr g 1), (1, .int (zi v1)), (2, .int (zi v2)), (3, zr g v3), (5, .int (zi v5)), (6, .int (zi v6))] [] M S := by
                intro v6 hv6 M S hF o h hT
                unfold F_L_areFollowing_J202 at h
                refine j_iconst hC dL_areFollowing_202 ?_
                exact J_203 v6 0 hv6 kR_0 M S hF _ h hT
              have J_198 : ∀ (v6 : Int) (hv6 : inR v6) (M : zM) (S : zS) (hF : zFx S) (o : _) (_ : F_L_areFollowing_J198 v1 v2 v3 v5 v6 M S = some o), zAft (bd138) n138 ex138 o → zJ K g (S.1 - S0.1) (1000 * (S.1 - S0.1)) 198 11 [(0, zr g 1), (1, .int (zi v1)), (2, .int (zi v2)), (3, zr g v3), (5, .int (zi v5)), (6, .int (zi v6))] [] M S := by
                intro v6 hv6 M S hF o h hT
                unfold F_L_areFollowing_J198 at h
                refine j_iconst hC dL_areFollowing_198 ?_
                refine j_goto hC dL_areFollowing_199 rfl ?_
                exact J_203 v6 1 hv6 kR_1 M S hF _ h hT
              have J_172 : ∀ (v6 : Int) (hv6 : inR v6) (M : zM) (S : zS) (hF : zFx S) (o : _) (_ : F_L_areFollowing_J172 v1 v2 v3 v5 v6 M S = some o), zAft (bd138) n138 ex138 o → zJ K g (S.1 - S0.1) (1000 * (S.1 - S0.1)) 172 11 [(0, zr g 1), (1, .int (zi v1)), (2, .int (zi v2)), (3, zr g v3), (5, .int (zi v5)), (6, .int (zi v6))] [] M S := by
                intro v6 hv6 M S hF o h hT
                unfold F_L_areFollowing_J172 at h
                refine j_iload_n hC 1 dL_areFollowing_172 rfl rfl ?_
                refine j_bipush hC dL_areFollowing_173 rfl ?_
                refine j_icmp_gt hC dL_areFollowing_175 rfl (w_id hv1) (w_id kR_40) (fun c5 => ?_) (fun c5 => ?_)
                · have h := zt c5 h
                  exact J_198 v6 hv6 M S hF _ h hT
                · have h := zf c5 h
                  refine j_aload_n hC 0 dL_areFollowing_178 rfl rfl ?_
                  refine j_iload hC 4 dL_areFollowing_179 rfl ?_
                  refine j_iload hC 5 dL_areFollowing_181 rfl ?_
                  obtain ⟨cp6, h⟩ := zchk_ex h
                  refine j_le hK0 (zFx_cnt hF) (fun hlecp6 => ?_)
                  obtain ⟨r10, M8, S9, hy, hx11, hk12⟩ := zbx_ex h
                  refine j_callXVi (ci := 7) hC hE hN lk_L_214 dL_areFollowing_183 (c_X10_canFollow l hlt g v5 v6 hv5 hv6 M S hF hy) [.int (zi v5), .int (zi v6)] [] (zFx_kd hF 1 rfl) ⟨_, rfl, by decide, rfl⟩ rfl rfl rfl (zcat (Nat.le_of_ble_eq_true rfl)) (Nat.le_of_ble_eq_true rfl) (Nat.le_of_ble_eq_true rfl) (by omega) (by omega) (fun e he hp13 => by cases hx11 e he) (fun r7 he hp13 => ?_)
                  have h := hk12 r7 he
                  subst he
                  dsimp only [zRXi, zRXl] at hp13
                  obtain ⟨hr7, hF14⟩ := hp13
                  refine j_tight hK0 ?_
                  refine j_aload_n hC 3 dL_areFollowing_186 rfl rfl ?_
                  refine j_iconst hC dL_areFollowing_187 ?_
                  refine j_iload hC 4 dL_areFollowing_188 rfl ?_
                  refine j_imul hC dL_areFollowing_190 ?_
                  refine j_iload hC 5 dL_areFollowing_191 rfl ?_
                  refine j_iadd hC dL_areFollowing_193 ?_
                  obtain ⟨hk, h⟩ := zchk_ex h
                  have hk15 := hk
                  obtain ⟨c16, h⟩ := zchk_ex h
                  refine j_zald (n := (zlen S9 v3)) hC dL_areFollowing_194 rfl hk15 rfl c16.1 c16.2 (fun hg17 => ?_)
                  refine j_icmp_ne hC dL_areFollowing_195 rfl (w_id hr7) (w_id (inR_b hg17)) (fun c18 => ?_) (fun c18 => ?_)
                  · have h := zf c18 h
                    exact J_202 v6 hv6 M8 S9 hF14 _ h hT
                  · have h := zt c18 h
                    exact J_198 v6 hv6 M8 S9 hF14 _ h hT
              intro v4 v6 hv4 hv6 M S hF hl
              obtain ⟨o, h, hT⟩ := zloop_ex hl
              have h : F_L_areFollowing_B138 v1 v2 v3 v4 v5 v6 M S = some o := by rw [ebd] at h; exact h
              unfold F_L_areFollowing_B138 at h
              refine j_iload hC 6 dL_areFollowing_138 rfl ?_
              refine j_iload_n hC 2 dL_areFollowing_140 rfl rfl ?_
              refine j_icmp_ge hC dL_areFollowing_141 rfl (w_id hv6) (w_id hv2) (fun c19 => ?_) (fun c19 => ?_)
              · have h := zf c19 h
                obtain rfl := Option.some.inj h
                have hx138 := hd138
                rw [← show _ = ex138 from hT] at hx138
                refine j_sub [0, 1, 2, 3, 4, 5] rfl ?_
                exact J_211 v4 v5 hv4 hv5 M S hF _ hx138 hT138
              · have h := zt c19 h
                refine j_iload hC 4 dL_areFollowing_144 rfl ?_
                refine j_if_eq hC dL_areFollowing_146 rfl (w_id hv4) (fun c20 => ?_) (fun c20 => ?_)
                · have h := zt c20 h
                  refine j_sub [0, 1, 2, 3, 5, 6] rfl ?_
                  exact J_202 v6 hv6 M S hF _ h hT
                · have h := zf c20 h
                  refine j_aload_n hC 0 dL_areFollowing_149 rfl rfl ?_
                  refine j_iload hC 5 dL_areFollowing_150 rfl ?_
                  refine j_iload hC 6 dL_areFollowing_152 rfl ?_
                  obtain ⟨cp21, h⟩ := zchk_ex h
                  refine j_le hK0 (zFx_cnt hF) (fun hlecp21 => ?_)
                  obtain ⟨r25, M23, S24, hy, hx26, hk27⟩ := zbx_ex h
                  refine j_callXVi (ci := 7) hC hE hN lk_L_214 dL_areFollowing_154 (c_X10_canFollow l hlt g v5 v6 hv5 hv6 M S hF hy) [.int (zi v5), .int (zi v6)] [] (zFx_kd hF 1 rfl) ⟨_, rfl, by decide, rfl⟩ rfl rfl rfl (zcat (Nat.le_of_ble_eq_true rfl)) (Nat.le_of_ble_eq_true rfl) (Nat.le_of_ble_eq_true rfl) (by omega) (by omega) (fun e he hp28 => by cases hx26 e he) (fun r22 he hp28 => ?_)
                  have h := hk27 r22 he
                  subst he
                  dsimp only [zRXi, zRXl] at hp28
                  obtain ⟨hr22, hF29⟩ := hp28
                  refine j_tight hK0 ?_
                  refine j_if_ne hC dL_areFollowing_157 rfl (w_id hr22) (fun c30 => ?_) (fun c30 => ?_)
                  · have h := zf c30 h
                    refine j_sub [0, 1, 2, 3, 5, 6] rfl ?_
                    exact J_172 v6 hv6 M23 S24 hF29 _ h hT
                  · have h := zt c30 h
                    refine j_aload_n hC 3 dL_areFollowing_160 rfl rfl ?_
                    refine j_iconst hC dL_areFollowing_161 ?_
                    refine j_iload hC 5 dL_areFollowing_162 rfl ?_
                    refine j_imul hC dL_areFollowing_164 ?_
                    refine j_iload hC 6 dL_areFollowing_165 rfl ?_
                    refine j_iadd hC dL_areFollowing_167 ?_
                    obtain ⟨hk, h⟩ := zchk_ex h
                    have hk31 := hk
                    obtain ⟨c32, h⟩ := zchk_ex h
                    refine j_zald (n := (zlen S24 v3)) hC dL_areFollowing_168 rfl hk31 rfl c32.1 c32.2 (fun hg33 => ?_)
                    refine j_if_ne hC dL_areFollowing_169 rfl (w_id (inR_b hg33)) (fun c34 => ?_) (fun c34 => ?_)
                    · have h := zf c34 h
                      refine j_sub [0, 1, 2, 3, 5, 6] rfl ?_
                      exact J_202 v6 hv6 M23 S24 hF29 _ h hT
                    · have h := zt c34 h
                      refine j_sub [0, 1, 2, 3, 5, 6] rfl ?_
                      exact J_172 v6 hv6 M23 S24 hF29 _ h hT
          exact main zN v4 v6 hv4 hv6 M S hF hl
        intro v4 v5 hv4 hv5 M S hF hl
        obtain ⟨o, h, hT⟩ := zloop_ex hl
        have h : F_L_areFollowing_B129 v1 v2 v3 v4 v5 M S = some o := by rw [ebd] at h; exact h
        unfold F_L_areFollowing_B129 at h
        refine j_iload hC 5 dL_areFollowing_129 rfl ?_
        refine j_iload_n hC 2 dL_areFollowing_131 rfl rfl ?_
        refine j_icmp_ge hC dL_areFollowing_132 rfl (w_id hv5) (w_id hv2) (fun c35 => ?_) (fun c35 => ?_)
        · have h := zf c35 h
          obtain rfl := Option.some.inj h
          have hx129 := hd129
          rw [← show _ = ex129 from hT] at hx129
          refine j_sub [4] rfl ?_
          exact J_217 v4 hv4 M S hF hx129
        · have h := zt c35 h
          refine j_iconst hC dL_areFollowing_135 ?_
          refine j_istore hC dL_areFollowing_136 (Nat.le_of_ble_eq_true rfl) rfl ?_
          refine j_sub [1, 2, 3, 4, 5, 6, 0] rfl ?_
          exact L_138 v4 v5 0 hv4 hv5 kR_0 M S hF _ h hT
    exact main zN v4 v5 hv4 hv5 M S hF hl
  have J_123 : ∀ (v1 : Int) (v2 : Int) (v3 : Nat) (hv1 : inR v1) (hv2 : inR v2) (M : zM) (S : zS) (hF : zFx S) (_ : F_L_areFollowing_J123 v1 v2 v3 M S = some (r, M', S')), zJ K g (S.1 - S0.1) (1000 * (S.1 - S0.1)) 123 11 [(0, zr g 1), (1, .int (zi v1)), (2, .int (zi v2)), (3, zr g v3)] [] M S := by
    intro v1 v2 v3 hv1 hv2 M S hF h
    unfold F_L_areFollowing_J123 at h
    refine j_iconst hC dL_areFollowing_123 ?_
    refine j_istore (lv1 := [(4, .int (zi 1)), (0, zr g 1), (1, .int (zi v1)), (2, .int (zi v2)), (3, zr g v3)]) hC dL_areFollowing_124 (Nat.le_of_ble_eq_true rfl) (by simp only [List.filter_cons, List.filter_nil, zr_cat, zc_i, zc_l, zc_d, zc_r] <;> first | rfl | simp [zr_cat]) ?_
    refine j_iconst hC dL_areFollowing_126 ?_
    refine j_istore hC dL_areFollowing_127 (Nat.le_of_ble_eq_true rfl) rfl ?_
    refine j_sub [2, 3, 4, 5, 1, 0] rfl ?_
    exact L_129 v1 v2 v3 1 0 hv1 hv2 kR_1 kR_0 M S hF h
  have L_14 : ∀ (v1 : Int) (v2 : Int) (v3 : Nat) (v4 : Int) (hv1 : inR v1) (hv2 : inR v2) (hv4 : inR v4) (M : zM) (S : zS) (hF : zFx S) (_ : F_L_areFollowing_L14 v1 v2 v3 v4 M S = some (r, M', S')), zJ K g (S.1 - S0.1) (1000 * (S.1 - S0.1)) 14 11 [(0, zr g 1), (1, .int (zi v1)), (2, .int (zi v2)), (3, zr g v3), (4, .int (zi v4))] [] M S := by
    intro v1 v2 v3 v4 hv1 hv2 hv4 M S hF h
    unfold F_L_areFollowing_L14 at h
    obtain ⟨ex14, hl, hd14⟩ := zb1_ex h
    obtain ⟨bd14, ebd⟩ : ∃ f, f = (fun (s : Int × zM × zS) => F_L_areFollowing_B14 v1 v2 v3 s.1 s.2.1 s.2.2) := ⟨_, rfl⟩
    rw [← ebd] at hl
    have main : ∀ (n14 : Nat) (v4 : Int) (hv4 : inR v4) (M : zM) (S : zS) (hF : zFx S) (_ : zloop bd14 n14 (v4, M, S) = some ex14), zJ K g (S.1 - S0.1) (1000 * (S.1 - S0.1)) 14 11 [(0, zr g 1), (1, .int (zi v1)), (2, .int (zi v2)), (3, zr g v3), (4, .int (zi v4))] [] M S := by
      intro n14
      induction n14 with
      | zero => intro v4 hv4 M S hF hl; exact zloop_0 hl
      | succ n14 ih14 =>
        have J_117 : ∀ (v4 : Int) (hv4 : inR v4) (M : zM) (S : zS) (hF : zFx S) (o : _) (_ : F_L_areFollowing_J117 v1 v2 v3 v4 M S = some o), zAft (bd14) n14 ex14 o → zJ K g (S.1 - S0.1) (1000 * (S.1 - S0.1)) 117 11 [(0, zr g 1), (1, .int (zi v1)), (2, .int (zi v2)), (3, zr g v3), (4, .int (zi v4))] [] M S := by
          intro v4 hv4 M S hF o h hT
          unfold F_L_areFollowing_J117 at h
          obtain ⟨x36, ex36, h⟩ := zlet_ex h
          have hx36 : inR x36 := by rw [ex36]; exact inR_w _
          refine j_iinc (lv1 := [(4, .int (zi x36)), (0, zr g 1), (1, .int (zi v1)), (2, .int (zi v2)), (3, zr g v3)]) hC 4 dL_areFollowing_117 rfl ex36 (Nat.le_of_ble_eq_true rfl) (by simp only [List.filter_cons, List.filter_nil, zr_cat, zc_i, zc_l, zc_d, zc_r] <;> first | rfl | simp [zr_cat]) ?_
          refine j_goto hC dL_areFollowing_120 rfl ?_
          obtain rfl := Option.some.inj h
          refine j_sub [1, 2, 3, 4, 0] rfl ?_
          exact ih14 x36 hx36 M S hF hT
        have L_42 : ∀ (v4 : Int) (v5 : Int) (v6 : Int) (hv4 : inR v4) (hv5 : inR v5) (hv6 : inR v6) (M : zM) (S : zS) (hF : zFx S) (o : _) (_ : F_L_areFollowing_L42 v1 v2 v3 v4 v5 v6 M S = some o), zAft (bd14) n14 ex14 o → zJ K g (S.1 - S0.1) (1000 * (S.1 - S0.1)) 42 11 [(0, zr g 1), (1, .int (zi v1)), (2, .int (zi v2)), (3, zr g v3), (4, .int (zi v4)), (5, .int (zi v5)), (6, .int (zi v6))] [] M S := by
          intro v4 v5 v6 hv4 hv5 hv6 M S hF oh42 h hT42
          unfold F_L_areFollowing_L42 at h
          obtain ⟨ex42, hl, hd42⟩ := zb1_ex h
          obtain ⟨bd42, ebd⟩ : ∃ f, f = (fun (s : Int × zM × zS) => F_L_areFollowing_B42 v1 v2 v3 v4 v5 s.1 s.2.1 s.2.2) := ⟨_, rfl⟩
          rw [← ebd] at hl
          have main : ∀ (n42 : Nat) (v6 : Int) (hv6 : inR v6) (M : zM) (S : zS) (hF : zFx S) (_ : zloop bd42 n42 (v6, M, S) = some ex42), zJ K g (S.1 - S0.1) (1000 * (S.1 - S0.1)) 42 11 [(0, zr g 1), (1, .int (zi v1)), (2, .int (zi v2)), (3, zr g v3), (4, .int (zi v4)), (5, .int (zi v5)), (6, .int (zi v6))] [] M S := by
            intro n42
            induction n42 with
            | zero => intro v6 hv6 M S hF hl; exact zloop_0 hl
            | succ n42 ih42 =>
              have J_111 : ∀ (v6 : Int) (hv6 : inR v6) (M : zM) (S : zS) (hF : zFx S) (o : _) (_ : F_L_areFollowing_J111 v1 v2 v3 v4 v5 v6 M S = some o), zAft (bd42) n42 ex42 o → zJ K g (S.1 - S0.1) (1000 * (S.1 - S0.1)) 111 11 [(0, zr g 1), (1, .int (zi v1)), (2, .int (zi v2)), (3, zr g v3), (4, .int (zi v4)), (5, .int (zi v5)), (6, .int (zi v6))] [] M S := by
                intro v6 hv6 M S hF o h hT
                unfold F_L_areFollowing_J111 at h
                obtain ⟨x37, ex37, h⟩ := zlet_ex h
                have hx37 : inR x37 := by rw [ex37]; exact inR_w _
                refine j_iinc hC 6 dL_areFollowing_111 rfl ex37 (Nat.le_of_ble_eq_true rfl) rfl ?_
                refine j_goto hC dL_areFollowing_114 rfl ?_
                obtain rfl := Option.some.inj h
                refine j_sub [1, 2, 3, 4, 5, 6, 0] rfl ?_
                exact ih42 x37 hx37 M S hF hT
              have L_78 : ∀ (v6 : Int) (v7 : Int) (v8 : Int) (v9 : Int) (v10 : Int) (hv6 : inR v6) (hv7 : inR v7) (hv8 : inR v8) (hv9 : inR v9) (hv10 : inR v10) (M : zM) (S : zS) (hF : zFx S) (o : _) (_ : F_L_areFollowing_L78 v1 v2 v3 v4 v5 v6 v7 v8 v9 v10 M S = some o), zAft (bd42) n42 ex42 o → zJ K g (S.1 - S0.1) (1000 * (S.1 - S0.1)) 78 11 [(0, zr g 1), (1, .int (zi v1)), (2, .int (zi v2)), (3, zr g v3), (4, .int (zi v4)), (5, .int (zi v5)), (6, .int (zi v6)), (7, .int (zi v7)), (8, .int (zi v8)), (9, .int (zi v9)), (10, .int (zi v10))] [] M S := by
                intro v6 v7 v8 v9 v10 hv6 hv7 hv8 hv9 hv10 M S hF oh78 h hT78
                unfold F_L_areFollowing_L78 at h
                obtain ⟨ex78, hl, hd78⟩ := zb1_ex h
                obtain ⟨bd78, ebd⟩ : ∃ f, f = (fun (s : Int × zM × zS) => F_L_areFollowing_B78 v1 v2 v3 v4 v5 v6 v7 v8 v9 s.1 s.2.1 s.2.2) := ⟨_, rfl⟩
                rw [← ebd] at hl
                have main : ∀ (n78 : Nat) (v10 : Int) (hv10 : inR v10) (M : zM) (S : zS) (hF : zFx S) (_ : zloop bd78 n78 (v10, M, S) = some ex78), zJ K g (S.1 - S0.1) (1000 * (S.1 - S0.1)) 78 11 [(0, zr g 1), (1, .int (zi v1)), (2, .int (zi v2)), (3, zr g v3), (4, .int (zi v4)), (5, .int (zi v5)), (6, .int (zi v6)), (7, .int (zi v7)), (8, .int (zi v8)), (9, .int (zi v9)), (10, .int (zi v10))] [] M S := by
                  intro n78
                  induction n78 with
                  | zero => intro v10 hv10 M S hF hl; exact zloop_0 hl
                  | succ n78 ih78 =>
                    intro v10 hv10 M S hF hl
                    obtain ⟨o, h, hT⟩ := zloop_ex hl
                    have h : F_L_areFollowing_B78 v1 v2 v3 v4 v5 v6 v7 v8 v9 v10 M S = some o := by rw [ebd] at h; exact h
                    unfold F_L_areFollowing_B78 at h
                    refine j_iload hC 10 dL_areFollowing_78 rfl ?_
                    refine j_iload hC 9 dL_areFollowing_80 rfl ?_
                    refine j_icmp_ge hC dL_areFollowing_82 rfl (w_id hv10) (w_id hv9) (fun c38 => ?_) (fun c38 => ?_)
                    · have h := zf c38 h
                      obtain rfl := Option.some.inj h
                      have hx78 := hd78
                      rw [← show _ = ex78 from hT] at hx78
                      refine j_sub [0, 1, 2, 3, 4, 5, 6] rfl ?_
                      exact J_111 v6 hv6 M S hF _ hx78 hT78
                    · have h := zt c38 h
                      refine j_aload_n hC 0 dL_areFollowing_85 rfl rfl ?_
                      refine j_iload hC 8 dL_areFollowing_86 rfl ?_
                      obtain ⟨cp39, h⟩ := zchk_ex h
                      refine j_le hK0 (zFx_cnt hF) (fun hlecp39 => ?_)
                      obtain ⟨r42, M40, S41, hy, hx44, hk45⟩ := zbx_ex h
                      refine j_callXVv (ci := 7) hC hE hN lk_L_146 dL_areFollowing_88 (c_X10_takeWord l hlt g v8 hv8 M S hF hy) [.int (zi v8)] [] (zFx_kd hF 1 rfl) ⟨_, rfl, by decide, rfl⟩ rfl rfl rfl (zcat (Nat.le_of_ble_eq_true rfl)) (Nat.le_of_ble_eq_true rfl) (Nat.le_of_ble_eq_true rfl) (by omega) (by omega) (fun e he hp46 => by cases hx44 e he) (fun u43 he hp46 => ?_)
                      have h := hk45 u43 he
                      subst he
                      have hF47 := hp46
                      refine j_tight hK0 ?_
                      refine j_aload_n hC 3 dL_areFollowing_91 rfl rfl ?_
                      refine j_iconst hC dL_areFollowing_92 ?_
                      refine j_iload hC 7 dL_areFollowing_93 rfl ?_
                      refine j_imul hC dL_areFollowing_95 ?_
                      refine j_aload_n hC 0 dL_areFollowing_96 rfl rfl ?_
                      refine j_iload hC 10 dL_areFollowing_97 rfl ?_
                      obtain ⟨cp48, h⟩ := zchk_ex h
                      refine j_le hK0 (zFx_cnt hF47) (fun hlecp48 => ?_)
                      obtain ⟨r52, M50, S51, hy, hx53, hk54⟩ := zbx_ex h
                      refine j_callXVi (ci := 7) hC hE hN lk_L_167 dL_areFollowing_99 (c_X10_insert l hlt g v10 hv10 M40 S41 hF47 hy) [.int (zi v10)] [.int (zi (5 * v7)), zr g v3] (zFx_kd hF47 1 rfl) ⟨_, rfl, by decide, rfl⟩ rfl rfl rfl (zcat (Nat.le_of_ble_eq_true rfl)) (Nat.le_of_ble_eq_true rfl) (Nat.le_of_ble_eq_true rfl) (by omega) (by omega) (fun e he hp55 => by cases hx53 e he) (fun r49 he hp55 => ?_)
                      have h := hk54 r49 he
                      subst he
                      dsimp only [zRXi, zRXl] at hp55
                      obtain ⟨hr49, hF56⟩ := hp55
                      refine j_tight hK0 ?_
                      refine j_iadd hC dL_areFollowing_102 ?_
                      refine j_iconst hC dL_areFollowing_103 ?_
                      obtain ⟨hk, h⟩ := zchk_ex h
                      have hk57 := hk
                      obtain ⟨c58, h⟩ := zchk_ex h
                      obtain ⟨M59, eM59, h⟩ := zlet_ex h
                      refine j_zast (n := (zlen S51 v3)) hC dL_areFollowing_104 rfl (w_id kR_1) zb01_1 hk57 rfl c58.1 c58.2 eM59 ?_
                      obtain ⟨x60, ex60, h⟩ := zlet_ex h
                      have hx60 : inR x60 := by rw [ex60]; exact inR_w _
                      refine j_iinc hC 10 dL_areFollowing_105 rfl ex60 (Nat.le_of_ble_eq_true rfl) rfl ?_
                      refine j_goto hC dL_areFollowing_108 rfl ?_
                      obtain rfl := Option.some.inj h
                      refine j_sub [1, 2, 3, 4, 5, 6, 7, 8, 9, 10, 0] rfl ?_
                      exact ih78 x60 hx60 M59 S51 hF56 hT
                exact main zN v10 hv10 M S hF hl
              intro v6 hv6 M S hF hl
              obtain ⟨o, h, hT⟩ := zloop_ex hl
              have h : F_L_areFollowing_B42 v1 v2 v3 v4 v5 v6 M S = some o := by rw [ebd] at h; exact h
              unfold F_L_areFollowing_B42 at h
              refine j_iload hC 6 dL_areFollowing_42 rfl ?_
              refine j_iload hC 5 dL_areFollowing_44 rfl ?_
              refine j_icmp_ge hC dL_areFollowing_46 rfl (w_id hv6) (w_id hv5) (fun c61 => ?_) (fun c61 => ?_)
              · have h := zf c61 h
                obtain rfl := Option.some.inj h
                have hx42 := hd42
                rw [← show _ = ex42 from hT] at hx42
                refine j_sub [0, 1, 2, 3, 4] rfl ?_
                exact J_117 v4 hv4 M S hF _ hx42 hT42
              · have h := zt c61 h
                refine j_aload_n hC 0 dL_areFollowing_49 rfl rfl ?_
                refine j_iload hC 4 dL_areFollowing_50 rfl ?_
                obtain ⟨cp62, h⟩ := zchk_ex h
                refine j_le hK0 (zFx_cnt hF) (fun hlecp62 => ?_)
                obtain ⟨r65, M63, S64, hy, hx67, hk68⟩ := zbx_ex h
                refine j_callXVv (ci := 7) hC hE hN lk_L_146 dL_areFollowing_52 (c_X10_takeWord l hlt g v4 hv4 M S hF hy) [.int (zi v4)] [] (zFx_kd hF 1 rfl) ⟨_, rfl, by decide, rfl⟩ rfl rfl rfl (zcat (Nat.le_of_ble_eq_true rfl)) (Nat.le_of_ble_eq_true rfl) (Nat.le_of_ble_eq_true rfl) (by omega) (by omega) (fun e he hp69 => by cases hx67 e he) (fun u66 he hp69 => ?_)
                have h := hk68 u66 he
                subst he
                have hF70 := hp69
                refine j_tight hK0 ?_
                refine j_aload_n hC 0 dL_areFollowing_55 rfl rfl ?_
                refine j_iload hC 6 dL_areFollowing_56 rfl ?_
                obtain ⟨cp71, h⟩ := zchk_ex h
                refine j_le hK0 (zFx_cnt hF70) (fun hlecp71 => ?_)
                obtain ⟨r75, M73, S74, hy, hx76, hk77⟩ := zbx_ex h
                refine j_callXVi (ci := 7) hC hE hN lk_L_167 dL_areFollowing_58 (c_X10_insert l hlt g v6 hv6 M63 S64 hF70 hy) [.int (zi v6)] [] (zFx_kd hF70 1 rfl) ⟨_, rfl, by decide, rfl⟩ rfl rfl rfl (zcat (Nat.le_of_ble_eq_true rfl)) (Nat.le_of_ble_eq_true rfl) (Nat.le_of_ble_eq_true rfl) (by omega) (by omega) (fun e he hp78 => by cases hx76 e he) (fun r72 he hp78 => ?_)
                have h := hk77 r72 he
                subst he
                dsimp only [zRXi, zRXl] at hp78
                obtain ⟨hr72, hF79⟩ := hp78
                refine j_tight hK0 ?_
                refine j_istore hC dL_areFollowing_61 (Nat.le_of_ble_eq_true rfl) rfl ?_
                refine j_aload_n hC 1 dL_areFollowing_63 rfl rfl ?_
                obtain ⟨cp80, h⟩ := zchk_ex h
                refine j_le hK0 (zFx_cnt hF79) (fun hlecp80 => ?_)
                obtain ⟨r81, M82, S83, hy, h⟩ := zb3_ex h
                refine j_callTi hC hE lk_L_157 dL_areFollowing_64 (c_L_rank l hlt g M73 S74 hF79 hy) [zr g 1] [] rfl rfl rfl (Nat.le_of_ble_eq_true rfl) (Nat.le_of_ble_eq_true rfl) (Nat.le_of_ble_eq_true rfl) (by omega) (by omega) (fun hp84 => ?_)
                obtain ⟨hr81, hFr81⟩ := hp84
                refine j_tight hK0 ?_
                refine j_istore hC dL_areFollowing_67 (Nat.le_of_ble_eq_true rfl) rfl ?_
                refine j_aload_n hC 2 dL_areFollowing_69 rfl rfl ?_
                obtain ⟨cp85, h⟩ := zchk_ex h
                refine j_le hK0 (zFx_cnt hFr81) (fun hlecp85 => ?_)
                obtain ⟨r86, M87, hy, h⟩ := zb2_ex h
                refine j_callVi (ci := 7) hC hE lk_L_164 dL_areFollowing_70 (c_X10_insertions l hlt g M82 S83 hFr81 hy) [] [] (zFx_kd hFr81 1 rfl) ⟨_, rfl, by decide, rfl⟩ rfl rfl rfl (zcat (Nat.le_of_ble_eq_true rfl)) (Nat.le_of_ble_eq_true rfl) (Nat.le_of_ble_eq_true rfl) (by omega) (by omega) (fun hp88 => ?_)
                have hr86 := hp88
                refine j_tight hK0 ?_
                refine j_istore hC dL_areFollowing_73 (Nat.le_of_ble_eq_true rfl) rfl ?_
                refine j_iconst hC dL_areFollowing_75 ?_
                refine j_istore hC dL_areFollowing_76 (Nat.le_of_ble_eq_true rfl) rfl ?_
                refine j_sub [4, 5, 6, 7, 8, 9, 10, 3, 2, 1, 0] rfl ?_
                exact L_78 v6 r72 r81 r86 0 hv6 hr72 hr81 hr86 kR_0 M87 S83 hFr81 _ h hT
          exact main zN v6 hv6 M S hF hl
        intro v4 hv4 M S hF hl
        obtain ⟨o, h, hT⟩ := zloop_ex hl
        have h : F_L_areFollowing_B14 v1 v2 v3 v4 M S = some o := by rw [ebd] at h; exact h
        unfold F_L_areFollowing_B14 at h
        refine j_iload hC 4 dL_areFollowing_14 rfl ?_
        refine j_iload_n hC 1 dL_areFollowing_16 rfl rfl ?_
        refine j_icmp_ge hC dL_areFollowing_17 rfl (w_id hv4) (w_id hv1) (fun c89 => ?_) (fun c89 => ?_)
        · have h := zf c89 h
          obtain rfl := Option.some.inj h
          have hx14 := hd14
          rw [← show _ = ex14 from hT] at hx14
          refine j_sub [0, 1, 2, 3] rfl ?_
          exact J_123 v1 v2 v3 hv1 hv2 M S hF hx14
        · have h := zt c89 h
          refine j_iload hC 4 dL_areFollowing_20 rfl ?_
          refine j_bipush hC dL_areFollowing_22 rfl ?_
          refine j_icmp_ge hC dL_areFollowing_24 rfl (w_id hv4) (w_id kR_40) (fun c90 => ?_) (fun c90 => ?_)
          · have h := zf c90 h
            obtain rfl := Option.some.inj h
            have hx14 := hd14
            rw [← show _ = ex14 from hT] at hx14
            refine j_sub [0, 1, 2, 3] rfl ?_
            exact J_123 v1 v2 v3 hv1 hv2 M S hF hx14
          · have h := zt c90 h
            refine j_aload_n hC 0 dL_areFollowing_27 rfl rfl ?_
            refine j_iload hC 4 dL_areFollowing_28 rfl ?_
            obtain ⟨cp91, h⟩ := zchk_ex h
            refine j_le hK0 (zFx_cnt hF) (fun hlecp91 => ?_)
            obtain ⟨r94, M92, S93, hy, hx96, hk97⟩ := zbx_ex h
            refine j_callXVv (ci := 7) hC hE hN lk_L_146 dL_areFollowing_30 (c_X10_takeWord l hlt g v4 hv4 M S hF hy) [.int (zi v4)] [] (zFx_kd hF 1 rfl) ⟨_, rfl, by decide, rfl⟩ rfl rfl rfl (zcat (Nat.le_of_ble_eq_true rfl)) (Nat.le_of_ble_eq_true rfl) (Nat.le_of_ble_eq_true rfl) (by omega) (by omega) (fun e he hp98 => by cases hx96 e he) (fun u95 he hp98 => ?_)
            have h := hk97 u95 he
            subst he
            have hF99 := hp98
            refine j_tight hK0 ?_
            refine j_aload_n hC 0 dL_areFollowing_33 rfl rfl ?_
            obtain ⟨cp100, h⟩ := zchk_ex h
            refine j_le hK0 (zFx_cnt hF99) (fun hlecp100 => ?_)
            obtain ⟨r101, M102, hy, h⟩ := zb2_ex h
            refine j_callVi (ci := 7) hC hE lk_L_164 dL_areFollowing_34 (c_X10_insertions l hlt g M92 S93 hF99 hy) [] [] (zFx_kd hF99 1 rfl) ⟨_, rfl, by decide, rfl⟩ rfl rfl rfl (zcat (Nat.le_of_ble_eq_true rfl)) (Nat.le_of_ble_eq_true rfl) (Nat.le_of_ble_eq_true rfl) (by omega) (by omega) (fun hp103 => ?_)
            have hr101 := hp103
            refine j_tight hK0 ?_
            refine j_istore hC dL_areFollowing_37 (Nat.le_of_ble_eq_true rfl) rfl ?_
            refine j_iconst hC dL_areFollowing_39 ?_
            refine j_istore hC dL_areFollowing_40 (Nat.le_of_ble_eq_true rfl) rfl ?_
            refine j_sub [2, 3, 4, 5, 6, 1, 0] rfl ?_
            exact L_42 v4 r101 0 hv4 hr101 kR_0 M102 S93 hF99 _ h hT
    exact main zN v4 hv4 M S hF hl
  refine j_aload_n hC 0 dL_areFollowing_0 rfl rfl ?_
  refine j_iconst hC dL_areFollowing_1 ?_
  obtain ⟨cp104, h⟩ := zchk_ex h
  refine j_le hK0 (zFx_cnt hF) (fun hlecp104 => ?_)
  obtain ⟨r108, M106, S107, hy, hx109, hk110⟩ := zbx_ex h
  refine j_callXVi (ci := 7) hC hE hN lk_L_90 dL_areFollowing_2 (c_X10_count l hlt g 1 kR_1 M S hF hy) [.int (zi 1)] [] (zFx_kd hF 1 rfl) ⟨_, rfl, by decide, rfl⟩ rfl rfl rfl (zcat (Nat.le_of_ble_eq_true rfl)) (Nat.le_of_ble_eq_true rfl) (Nat.le_of_ble_eq_true rfl) (by omega) (by omega) (fun e he hp111 => by cases hx109 e he) (fun r105 he hp111 => ?_)
  have h := hk110 r105 he
  subst he
  dsimp only [zRXi, zRXl] at hp111
  obtain ⟨hr105, hF112⟩ := hp111
  refine j_tight hK0 ?_
  refine j_istore_n hC dL_areFollowing_5 rfl (Nat.le_of_ble_eq_true rfl) rfl ?_
  refine j_bipush hC dL_areFollowing_6 rfl ?_
  obtain ⟨cp113, h⟩ := zchk_ex h
  refine j_le hK0 (zFx_cnt hF112) (fun hlecp113 => ?_)
  obtain ⟨q114, eq114, h⟩ := zlet_ex h
  obtain ⟨M115, eM115, h⟩ := zlet_ex h
  refine j_fresh1 eq114 eM115 ?_
  obtain ⟨S116, eS116, h⟩ := zlet_ex h
  refine j_newa22 (N := 25) (mx := 25) hC hE ka_22 dL_areFollowing_8 (w_id kR_25) rfl (Nat.le_of_ble_eq_true rfl) (Nat.le_of_ble_eq_true rfl) eq114 eS116 (Or.inr ⟨zFx_cnt hF112, (Nat.le_of_ble_eq_true rfl)⟩) (by omega) (by omega) ?_
  have hF117 : zFx S116 := zFx_zn hF112 eS116
  refine j_tight hK0 ?_
  refine j_astore_n hC dL_areFollowing_10 rfl (Nat.le_of_ble_eq_true rfl) rfl ?_
  refine j_iconst hC dL_areFollowing_11 ?_
  refine j_istore (lv1 := [(4, .int (zi 0)), (3, zr g q114), (2, .int (zi r105)), (0, zr g 1), (1, .int (zi v1))]) hC dL_areFollowing_12 (Nat.le_of_ble_eq_true rfl) (by simp only [List.filter_cons, List.filter_nil, zr_cat, zc_i, zc_l, zc_d, zc_r] <;> first | rfl | simp [zr_cat]) ?_
  refine j_sub [3, 4, 2, 1, 0] rfl ?_
  exact L_14 v1 r105 q114 0 hv1 hr105 kR_0 M115 S116 hF117 h
