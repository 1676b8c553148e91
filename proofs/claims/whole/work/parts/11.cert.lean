/-! CERTIFICATES: a program has written them (wip/whole/gen5.py) -/
set_option maxHeartbeats 4000000 in
set_option maxRecDepth 100000 in
theorem c_J7_copyOf_59c91 (l : Launch) (hlt : l.stackTraces = false) (g : zG) (v0 : Nat) (v1 : Int) (hv1 : inR v1) (M : zM) (S : zS) (hF : zFx S) {r : Nat} {M' : zM} {S' : zS} (h : F_J7_copyOf_59c91 v0 v1 M S = some (r, M', S')) : zMet l g yJ7_copyOf_59c91 cJ7_copyOf_59c91 3 (some (.array .int)) 2 1 60 [zr g v0, .int (zi v1)] M S (.inl (some (zr g r))) M' S' (zFx S') := by
  refine zMet_of (by decide) hlt [(0, zr g v0), (1, .int (zi v1))] (by simp only [lv_args, zr_cat, zc_i, zc_l, zc_d, zc_r] <;> rfl) (by rw [zsl_len]; simp only [List.map_cons, List.map_nil, zr_cat, zc_i, zc_l, zc_d, zc_r, List.sum_cons, List.sum_nil] <;> decide) (fun K hC hE hN => ?_)
  unfold F_J7_copyOf_59c91 at h
  refine j_iload_n hC 1 dJ7_copyOf_59c91_0 rfl rfl ?_
  refine j_aload_n hC 0 dJ7_copyOf_59c91_1 rfl rfl ?_
  obtain ⟨hk, h⟩ := zchk_ex h
  have hk1 := hk
  refine j_alen (k := 20) (n := (zlen S v0)) hC dJ7_copyOf_59c91_2 hk1 (Nat.le_of_ble_eq_true rfl) (Nat.le_of_ble_eq_true rfl) rfl (fun hl2 => ?_)
  refine j_icmp_ne hC dJ7_copyOf_59c91_3 rfl (w_id hv1) (w_id hl2) (fun c3 => ?_) (fun c3 => ?_)
  · have h := zf c3 h
    refine j_iload_n hC 1 dJ7_copyOf_59c91_14 rfl rfl ?_
    obtain ⟨c4, h⟩ := zchk_ex h
    obtain ⟨q5, eq5, h⟩ := zlet_ex h
    obtain ⟨S6, eS6, h⟩ := zlet_ex h
    refine j_newa20 (N := v1.toNat) (mx := 60) hC hE ka_20 dJ7_copyOf_59c91_15 (w_id hv1) (Int.toNat_of_nonneg c4.1) (by omega) (Nat.le_of_ble_eq_true rfl) eq5 eS6 (Nat.le_of_ble_eq_true rfl) (Nat.le_of_ble_eq_true rfl) ?_
    have hF7 : zFx S6 := zFx_zn hF eS6
    refine j_astore_n hC dJ7_copyOf_59c91_17 rfl (Nat.le_of_ble_eq_true rfl) rfl ?_
    refine j_aload_n hC 1 dJ7_copyOf_59c91_18 rfl rfl ?_
    refine j_iconst hC dJ7_copyOf_59c91_19 ?_
    refine j_aload_n hC 0 dJ7_copyOf_59c91_20 rfl rfl ?_
    refine j_iconst hC dJ7_copyOf_59c91_21 ?_
    refine j_aload_n hC 1 dJ7_copyOf_59c91_22 rfl rfl ?_
    obtain ⟨hk, h⟩ := zchk_ex h
    have hk8 := hk
    refine j_alen (k := 20) (n := (zlen S6 v0)) hC dJ7_copyOf_59c91_23 hk8 (Nat.le_of_ble_eq_true rfl) (Nat.le_of_ble_eq_true rfl) rfl (fun hl9 => ?_)
    refine j_iload_n hC 2 dJ7_copyOf_59c91_24 rfl rfl ?_
    refine j_mmin hC hE lk_J7_304 dJ7_copyOf_59c91_25 (w_id hl9) (w_id hv1) (Nat.le_of_ble_eq_true rfl) (Nat.le_of_ble_eq_true rfl) (Nat.le_of_ble_eq_true rfl) (Nat.le_of_ble_eq_true rfl) ?_
    obtain ⟨hk, h⟩ := zchk_ex h
    have hk10 := hk
    obtain ⟨hk, h⟩ := zchk_ex h
    have hk11 := hk
    obtain ⟨c12, h⟩ := zchk_ex h
    obtain ⟨M13, eM13, h⟩ := zlet_ex h
    refine j_copy hC hE lk_J7_150 dJ7_copyOf_59c91_28 hk10 hk11 rfl rfl (w_id kR_0) (w_id kR_0) (w_id (cR_zmin hl9 hv1)) c12 eM13 (Nat.le_of_ble_eq_true rfl) (Nat.le_of_ble_eq_true rfl) ?_
    refine j_aload_n hC 0 dJ7_copyOf_59c91_31 rfl rfl ?_
    obtain ⟨e1, e2, e3⟩ := zpr3 (Option.some.inj h)
    exact j_aret hC hE dJ7_copyOf_59c91_32 (by rw [← e1]) e2 e3 (by rw [← e3]; exact hF7) (Nat.le_of_ble_eq_true rfl) (Nat.le_of_ble_eq_true rfl)
  · have h := zt c3 h
    refine j_aload_n hC 0 dJ7_copyOf_59c91_6 rfl rfl ?_
    obtain ⟨hk, h⟩ := zchk_ex h
    have hk14 := hk
    obtain ⟨c15, h⟩ := zchk_ex h
    obtain ⟨q16, eq16, h⟩ := zlet_ex h
    obtain ⟨S17, eS17, h⟩ := zlet_ex h
    obtain ⟨M18, eM18, h⟩ := zlet_ex h
    refine j_clone hC hE lk_J7_316 dJ7_copyOf_59c91_7 hk14 c15 eq16 eS17 eM18 (Nat.le_of_ble_eq_true rfl) (Nat.le_of_ble_eq_true rfl) ?_
    have hF19 : zFx S17 := zFx_zn hF eS17
    obtain ⟨hk, h⟩ := zchk_ex h
    have hk20 := hk
    refine j_cast hC ca_J7_317 dJ7_copyOf_59c91_10 hk20 ?_
    obtain ⟨e1, e2, e3⟩ := zpr3 (Option.some.inj h)
    exact j_aret hC hE dJ7_copyOf_59c91_13 (by rw [← e1]) e2 e3 (by rw [← e3]; exact hF19) (Nat.le_of_ble_eq_true rfl) (Nat.le_of_ble_eq_true rfl)
set_option maxHeartbeats 4000000 in
set_option maxRecDepth 100000 in
theorem c_X2_copyFrom_a (l : Launch) (hlt : l.stackTraces = false) (g : zG) (M : zM) (S : zS) (hF : zFx S) {M' : zM} {S' : zS} (h : F_X2_copyFrom_a M S = some (M', S')) : zMet l g yX2_copyFrom cX2_copyFrom 3 none 2 0 0 [zr g 5, zr g 8] M S (.inl none) M' S' (zFx S') := by
  refine zMet_of (by decide) hlt [(0, zr g 5), (1, zr g 8)] rfl (Nat.le_of_ble_eq_true rfl) (fun K hC hE hN => ?_)
  unfold F_X2_copyFrom_a at h
  have J_53 : ∀ (M : zM) (S : zS) (hF : zFx S) (_ : F_X2_copyFrom_a_J53 M S = some (M', S')), zJ K g 0 0 53 3 [(0, zr g 5), (1, zr g 8)] [] M S := by
    intro M S hF h
    unfold F_X2_copyFrom_a_J53 at h
    refine j_aload_n hC 0 dX2_copyFrom_53 rfl rfl ?_
    refine j_aload_n hC 1 dX2_copyFrom_54 rfl rfl ?_
    refine j_get hC dX2_copyFrom_55 f_X2_32 (zFx_kd hF 8 rfl) rfl 2 rfl (fun hg1 => ?_)
    obtain ⟨M2, eM2, h⟩ := zlet_ex h
    refine j_put hC dX2_copyFrom_58 f_X2_32 pF_X2 (zFx_kd hF 5 rfl) (Or.inl rfl) rfl 2 rfl (w_id hg1) hg1 eM2 ?_
    refine j_aload_n hC 0 dX2_copyFrom_61 rfl rfl ?_
    refine j_aload_n hC 1 dX2_copyFrom_62 rfl rfl ?_
    refine j_get hC dX2_copyFrom_63 f_X2_35 (zFx_kd hF 8 rfl) rfl 3 rfl (fun hg3 => ?_)
    obtain ⟨M4, eM4, h⟩ := zlet_ex h
    refine j_put hC dX2_copyFrom_66 f_X2_35 pF_X2 (zFx_kd hF 5 rfl) (Or.inl rfl) rfl 3 rfl (w_id hg3) hg3 eM4 ?_
    refine j_aload_n hC 0 dX2_copyFrom_69 rfl rfl ?_
    refine j_aload_n hC 1 dX2_copyFrom_70 rfl rfl ?_
    refine j_get hC dX2_copyFrom_71 f_X2_19 (zFx_kd hF 8 rfl) rfl 4 rfl (fun hg5 => ?_)
    obtain ⟨M6, eM6, h⟩ := zlet_ex h
    refine j_put hC dX2_copyFrom_74 f_X2_19 pF_X2 (zFx_kd hF 5 rfl) (Or.inl rfl) rfl 4 rfl (w_id hg5) hg5 eM6 ?_
    refine j_aload_n hC 0 dX2_copyFrom_77 rfl rfl ?_
    refine j_aload_n hC 1 dX2_copyFrom_78 rfl rfl ?_
    refine j_get hC dX2_copyFrom_79 f_X2_23 (zFx_kd hF 8 rfl) rfl 5 rfl (fun hg7 => ?_)
    obtain ⟨M8, eM8, h⟩ := zlet_ex h
    refine j_put hC dX2_copyFrom_82 f_X2_23 pF_X2 (zFx_kd hF 5 rfl) (Or.inl rfl) rfl 5 rfl (w_id hg7) hg7 eM8 ?_
    obtain ⟨e1, e2⟩ := zpr2 (Option.some.inj h)
    exact j_vret hC hE dX2_copyFrom_85 rfl e1 e2 (by rw [← e2]; exact hF) (Nat.le_of_ble_eq_true rfl) (Nat.le_of_ble_eq_true rfl)
  have L_17 : ∀ (v2 : Int) (hv2 : inR v2) (M : zM) (S : zS) (hF : zFx S) (_ : F_X2_copyFrom_a_L17 v2 M S = some (M', S')), zJ K g 0 0 17 3 [(0, zr g 5), (1, zr g 8), (2, .int (zi v2))] [] M S := by
    intro v2 hv2 M S hF h
    unfold F_X2_copyFrom_a_L17 at h
    obtain ⟨ex17, hl, hd17⟩ := zb1_ex h
    obtain ⟨bd17, ebd⟩ : ∃ f, f = (fun (s : Int × zS) => F_X2_copyFrom_a_B17 s.1 M s.2) := ⟨_, rfl⟩
    rw [← ebd] at hl
    have main : ∀ (n17 : Nat) (v2 : Int) (hv2 : inR v2) (S : zS) (hF : zFx S) (_ : zloop bd17 n17 (v2, S) = some ex17), zJ K g 0 0 17 3 [(0, zr g 5), (1, zr g 8), (2, .int (zi v2))] [] M S := by
      intro n17
      induction n17 with
      | zero => intro v2 hv2 S hF hl; exact zloop_0 hl
      | succ n17 ih17 =>
        intro v2 hv2 S hF hl
        obtain ⟨o, h, hT⟩ := zloop_ex hl
        have h : F_X2_copyFrom_a_B17 v2 M S = some o := by rw [ebd] at h; exact h
        unfold F_X2_copyFrom_a_B17 at h
        refine j_iload_n hC 2 dX2_copyFrom_17 rfl rfl ?_
        refine j_aload_n hC 0 dX2_copyFrom_18 rfl rfl ?_
        refine j_getq (q := 7) hC dX2_copyFrom_19 f_X2_15 (zFx_kd hF 5 rfl) rfl 1 rfl (zFx_rf hF 5 1 rfl) ?_
        refine j_alen (k := 25) (n := 5) hC dX2_copyFrom_22 (zFx_kd hF 7 rfl) (Nat.le_of_ble_eq_true rfl) (Nat.le_of_ble_eq_true rfl) (zFx_ln hF 7 rfl) (fun _ => ?_)
        refine j_icmp_ge hC dX2_copyFrom_23 rfl (w_id hv2) (w_id kR_5) (fun c9 => ?_) (fun c9 => ?_)
        · have h := zf c9 h
          obtain rfl := Option.some.inj h
          have hx17 := hd17
          rw [← show _ = ex17 from hT] at hx17
          refine j_sub [0, 1] rfl ?_
          exact J_53 M S hF hx17
        · have h := zt c9 h
          refine j_iload_n hC 2 dX2_copyFrom_26 rfl rfl ?_
          refine j_aload_n hC 1 dX2_copyFrom_27 rfl rfl ?_
          refine j_getq (q := 10) hC dX2_copyFrom_28 f_X2_15 (zFx_kd hF 8 rfl) rfl 1 rfl (zFx_rf hF 8 1 rfl) ?_
          refine j_alen (k := 25) (n := 5) hC dX2_copyFrom_31 (zFx_kd hF 10 rfl) (Nat.le_of_ble_eq_true rfl) (Nat.le_of_ble_eq_true rfl) (zFx_ln hF 10 rfl) (fun _ => ?_)
          refine j_icmp_ge hC dX2_copyFrom_32 rfl (w_id hv2) (w_id kR_5) (fun c10 => ?_) (fun c10 => ?_)
          · have h := zf c10 h
            obtain rfl := Option.some.inj h
            have hx17 := hd17
            rw [← show _ = ex17 from hT] at hx17
            refine j_sub [0, 1] rfl ?_
            exact J_53 M S hF hx17
          · have h := zt c10 h
            refine j_aload_n hC 0 dX2_copyFrom_35 rfl rfl ?_
            refine j_getq (q := 7) hC dX2_copyFrom_36 f_X2_15 (zFx_kd hF 5 rfl) rfl 1 rfl (zFx_rf hF 5 1 rfl) ?_
            refine j_iload_n hC 2 dX2_copyFrom_39 rfl rfl ?_
            refine j_aload_n hC 1 dX2_copyFrom_40 rfl rfl ?_
            refine j_getq (q := 10) hC dX2_copyFrom_41 f_X2_15 (zFx_kd hF 8 rfl) rfl 1 rfl (zFx_rf hF 8 1 rfl) ?_
            refine j_iload_n hC 2 dX2_copyFrom_44 rfl rfl ?_
            obtain ⟨c11, h⟩ := zchk_ex h
            refine j_aald (k := 25) (n := 5) hC dX2_copyFrom_45 (w_id hv2) (zFx_kd hF 10 rfl) (Nat.le_of_ble_eq_true rfl) (Nat.le_of_ble_eq_true rfl) (zFx_ln hF 10 rfl) c11.1 c11.2 ?_
            obtain ⟨c12, h⟩ := zchk_ex h
            obtain ⟨c13, h⟩ := zchk_ex h
            obtain ⟨S14, eS14, h⟩ := zlet_ex h
            refine j_aast25 (n := 5) hC hE dX2_copyFrom_46 (w_id hv2) (zFx_kd hF 7 rfl) (zFx_ln hF 7 rfl) c12.1 c12.2 c13 eS14 ?_
            have hF15 : zFx S14 := zFx_aq hF eS14 rfl
            obtain ⟨x16, ex16, h⟩ := zlet_ex h
            have hx16 : inR x16 := by rw [ex16]; exact inR_w _
            refine j_iinc hC 2 dX2_copyFrom_47 rfl ex16 (Nat.le_of_ble_eq_true rfl) rfl ?_
            refine j_goto hC dX2_copyFrom_50 rfl ?_
            obtain rfl := Option.some.inj h
            refine j_sub [1, 2, 0] rfl ?_
            exact ih17 x16 hx16 S14 hF15 hT
    exact main zN v2 hv2 S hF hl
  refine j_aload_n hC 1 dX2_copyFrom_0 rfl rfl ?_
  refine j_getq (q := 9) hC dX2_copyFrom_1 f_X2_9 (zFx_kd hF 8 rfl) rfl 0 rfl (zFx_rf hF 8 0 rfl) ?_
  refine j_iconst hC dX2_copyFrom_4 ?_
  refine j_aload_n hC 0 dX2_copyFrom_5 rfl rfl ?_
  refine j_getq (q := 6) hC dX2_copyFrom_6 f_X2_9 (zFx_kd hF 5 rfl) rfl 0 rfl (zFx_rf hF 5 0 rfl) ?_
  refine j_iconst hC dX2_copyFrom_9 ?_
  refine j_bipush hC dX2_copyFrom_10 rfl ?_
  obtain ⟨c17, h⟩ := zchk_ex h
  obtain ⟨M18, eM18, h⟩ := zlet_ex h
  refine j_copy hC hE lk_X2_26 dX2_copyFrom_12 (zFx_kd hF 9 rfl) (zFx_kd hF 6 rfl) (zFx_ln hF 9 rfl) (zFx_ln hF 6 rfl) (w_id kR_0) (w_id kR_0) (w_id kR_6) c17 eM18 (Nat.le_of_ble_eq_true rfl) (Nat.le_of_ble_eq_true rfl) ?_
  refine j_iconst hC dX2_copyFrom_15 ?_
  refine j_istore_n hC dX2_copyFrom_16 rfl (Nat.le_of_ble_eq_true rfl) rfl ?_
  refine j_sub [1, 2, 0] rfl ?_
  exact L_17 0 kR_0 M18 S hF h
set_option maxHeartbeats 4000000 in
set_option maxRecDepth 100000 in
theorem c_X2_copyFrom_b (l : Launch) (hlt : l.stackTraces = false) (g : zG) (M : zM) (S : zS) (hF : zFx S) {M' : zM} {S' : zS} (h : F_X2_copyFrom_b M S = some (M', S')) : zMet l g yX2_copyFrom cX2_copyFrom 3 none 2 0 0 [zr g 8, zr g 5] M S (.inl none) M' S' (zFx S') := by
  refine zMet_of (by decide) hlt [(0, zr g 8), (1, zr g 5)] rfl (Nat.le_of_ble_eq_true rfl) (fun K hC hE hN => ?_)
  unfold F_X2_copyFrom_b at h
  have J_53 : ∀ (M : zM) (S : zS) (hF : zFx S) (_ : F_X2_copyFrom_b_J53 M S = some (M', S')), zJ K g 0 0 53 3 [(0, zr g 8), (1, zr g 5)] [] M S := by
    intro M S hF h
    unfold F_X2_copyFrom_b_J53 at h
    refine j_aload_n hC 0 dX2_copyFrom_53 rfl rfl ?_
    refine j_aload_n hC 1 dX2_copyFrom_54 rfl rfl ?_
    refine j_get hC dX2_copyFrom_55 f_X2_32 (zFx_kd hF 5 rfl) rfl 2 rfl (fun hg1 => ?_)
    obtain ⟨M2, eM2, h⟩ := zlet_ex h
    refine j_put hC dX2_copyFrom_58 f_X2_32 pF_X2 (zFx_kd hF 8 rfl) (Or.inl rfl) rfl 2 rfl (w_id hg1) hg1 eM2 ?_
    refine j_aload_n hC 0 dX2_copyFrom_61 rfl rfl ?_
    refine j_aload_n hC 1 dX2_copyFrom_62 rfl rfl ?_
    refine j_get hC dX2_copyFrom_63 f_X2_35 (zFx_kd hF 5 rfl) rfl 3 rfl (fun hg3 => ?_)
    obtain ⟨M4, eM4, h⟩ := zlet_ex h
    refine j_put hC dX2_copyFrom_66 f_X2_35 pF_X2 (zFx_kd hF 8 rfl) (Or.inl rfl) rfl 3 rfl (w_id hg3) hg3 eM4 ?_
    refine j_aload_n hC 0 dX2_copyFrom_69 rfl rfl ?_
    refine j_aload_n hC 1 dX2_copyFrom_70 rfl rfl ?_
    refine j_get hC dX2_copyFrom_71 f_X2_19 (zFx_kd hF 5 rfl) rfl 4 rfl (fun hg5 => ?_)
    obtain ⟨M6, eM6, h⟩ := zlet_ex h
    refine j_put hC dX2_copyFrom_74 f_X2_19 pF_X2 (zFx_kd hF 8 rfl) (Or.inl rfl) rfl 4 rfl (w_id hg5) hg5 eM6 ?_
    refine j_aload_n hC 0 dX2_copyFrom_77 rfl rfl ?_
    refine j_aload_n hC 1 dX2_copyFrom_78 rfl rfl ?_
    refine j_get hC dX2_copyFrom_79 f_X2_23 (zFx_kd hF 5 rfl) rfl 5 rfl (fun hg7 => ?_)
    obtain ⟨M8, eM8, h⟩ := zlet_ex h
    refine j_put hC dX2_copyFrom_82 f_X2_23 pF_X2 (zFx_kd hF 8 rfl) (Or.inl rfl) rfl 5 rfl (w_id hg7) hg7 eM8 ?_
    obtain ⟨e1, e2⟩ := zpr2 (Option.some.inj h)
    exact j_vret hC hE dX2_copyFrom_85 rfl e1 e2 (by rw [← e2]; exact hF) (Nat.le_of_ble_eq_true rfl) (Nat.le_of_ble_eq_true rfl)
  have L_17 : ∀ (v2 : Int) (hv2 : inR v2) (M : zM) (S : zS) (hF : zFx S) (_ : F_X2_copyFrom_b_L17 v2 M S = some (M', S')), zJ K g 0 0 17 3 [(0, zr g 8), (1, zr g 5), (2, .int (zi v2))] [] M S := by
    intro v2 hv2 M S hF h
    unfold F_X2_copyFrom_b_L17 at h
    obtain ⟨ex17, hl, hd17⟩ := zb1_ex h
    obtain ⟨bd17, ebd⟩ : ∃ f, f = (fun (s : Int × zS) => F_X2_copyFrom_b_B17 s.1 M s.2) := ⟨_, rfl⟩
    rw [← ebd] at hl
    have main : ∀ (n17 : Nat) (v2 : Int) (hv2 : inR v2) (S : zS) (hF : zFx S) (_ : zloop bd17 n17 (v2, S) = some ex17), zJ K g 0 0 17 3 [(0, zr g 8), (1, zr g 5), (2, .int (zi v2))] [] M S := by
      intro n17
      induction n17 with
      | zero => intro v2 hv2 S hF hl; exact zloop_0 hl
      | succ n17 ih17 =>
        intro v2 hv2 S hF hl
        obtain ⟨o, h, hT⟩ := zloop_ex hl
        have h : F_X2_copyFrom_b_B17 v2 M S = some o := by rw [ebd] at h; exact h
        unfold F_X2_copyFrom_b_B17 at h
        refine j_iload_n hC 2 dX2_copyFrom_17 rfl rfl ?_
        refine j_aload_n hC 0 dX2_copyFrom_18 rfl rfl ?_
        refine j_getq (q := 10) hC dX2_copyFrom_19 f_X2_15 (zFx_kd hF 8 rfl) rfl 1 rfl (zFx_rf hF 8 1 rfl) ?_
        refine j_alen (k := 25) (n := 5) hC dX2_copyFrom_22 (zFx_kd hF 10 rfl) (Nat.le_of_ble_eq_true rfl) (Nat.le_of_ble_eq_true rfl) (zFx_ln hF 10 rfl) (fun _ => ?_)
        refine j_icmp_ge hC dX2_copyFrom_23 rfl (w_id hv2) (w_id kR_5) (fun c9 => ?_) (fun c9 => ?_)
        · have h := zf c9 h
          obtain rfl := Option.some.inj h
          have hx17 := hd17
          rw [← show _ = ex17 from hT] at hx17
          refine j_sub [0, 1] rfl ?_
          exact J_53 M S hF hx17
        · have h := zt c9 h
          refine j_iload_n hC 2 dX2_copyFrom_26 rfl rfl ?_
          refine j_aload_n hC 1 dX2_copyFrom_27 rfl rfl ?_
          refine j_getq (q := 7) hC dX2_copyFrom_28 f_X2_15 (zFx_kd hF 5 rfl) rfl 1 rfl (zFx_rf hF 5 1 rfl) ?_
          refine j_alen (k := 25) (n := 5) hC dX2_copyFrom_31 (zFx_kd hF 7 rfl) (Nat.le_of_ble_eq_true rfl) (Nat.le_of_ble_eq_true rfl) (zFx_ln hF 7 rfl) (fun _ => ?_)
          refine j_icmp_ge hC dX2_copyFrom_32 rfl (w_id hv2) (w_id kR_5) (fun c10 => ?_) (fun c10 => ?_)
          · have h := zf c10 h
            obtain rfl := Option.some.inj h
            have hx17 := hd17
            rw [← show _ = ex17 from hT] at hx17
            refine j_sub [0, 1] rfl ?_
            exact J_53 M S hF hx17
          · have h := zt c10 h
            refine j_aload_n hC 0 dX2_copyFrom_35 rfl rfl ?_
            refine j_getq (q := 10) hC dX2_copyFrom_36 f_X2_15 (zFx_kd hF 8 rfl) rfl 1 rfl (zFx_rf hF 8 1 rfl) ?_
            refine j_iload_n hC 2 dX2_copyFrom_39 rfl rfl ?_
            refine j_aload_n hC 1 dX2_copyFrom_40 rfl rfl ?_
            refine j_getq (q := 7) hC dX2_copyFrom_41 f_X2_15 (zFx_kd hF 5 rfl) rfl 1 rfl (zFx_rf hF 5 1 rfl) ?_
            refine j_iload_n hC 2 dX2_copyFrom_44 rfl rfl ?_
            obtain ⟨c11, h⟩ := zchk_ex h
            refine j_aald (k := 25) (n := 5) hC dX2_copyFrom_45 (w_id hv2) (zFx_kd hF 7 rfl) (Nat.le_of_ble_eq_true rfl) (Nat.le_of_ble_eq_true rfl) (zFx_ln hF 7 rfl) c11.1 c11.2 ?_
            obtain ⟨c12, h⟩ := zchk_ex h
            obtain ⟨c13, h⟩ := zchk_ex h
            obtain ⟨S14, eS14, h⟩ := zlet_ex h
            refine j_aast25 (n := 5) hC hE dX2_copyFrom_46 (w_id hv2) (zFx_kd hF 10 rfl) (zFx_ln hF 10 rfl) c12.1 c12.2 c13 eS14 ?_
            have hF15 : zFx S14 := zFx_aq hF eS14 rfl
            obtain ⟨x16, ex16, h⟩ := zlet_ex h
            have hx16 : inR x16 := by rw [ex16]; exact inR_w _
            refine j_iinc hC 2 dX2_copyFrom_47 rfl ex16 (Nat.le_of_ble_eq_true rfl) rfl ?_
            refine j_goto hC dX2_copyFrom_50 rfl ?_
            obtain rfl := Option.some.inj h
            refine j_sub [1, 2, 0] rfl ?_
            exact ih17 x16 hx16 S14 hF15 hT
    exact main zN v2 hv2 S hF hl
  refine j_aload_n hC 1 dX2_copyFrom_0 rfl rfl ?_
  refine j_getq (q := 6) hC dX2_copyFrom_1 f_X2_9 (zFx_kd hF 5 rfl) rfl 0 rfl (zFx_rf hF 5 0 rfl) ?_
  refine j_iconst hC dX2_copyFrom_4 ?_
  refine j_aload_n hC 0 dX2_copyFrom_5 rfl rfl ?_
  refine j_getq (q := 9) hC dX2_copyFrom_6 f_X2_9 (zFx_kd hF 8 rfl) rfl 0 rfl (zFx_rf hF 8 0 rfl) ?_
  refine j_iconst hC dX2_copyFrom_9 ?_
  refine j_bipush hC dX2_copyFrom_10 rfl ?_
  obtain ⟨c17, h⟩ := zchk_ex h
  obtain ⟨M18, eM18, h⟩ := zlet_ex h
  refine j_copy hC hE lk_X2_26 dX2_copyFrom_12 (zFx_kd hF 6 rfl) (zFx_kd hF 9 rfl) (zFx_ln hF 6 rfl) (zFx_ln hF 9 rfl) (w_id kR_0) (w_id kR_0) (w_id kR_6) c17 eM18 (Nat.le_of_ble_eq_true rfl) (Nat.le_of_ble_eq_true rfl) ?_
  refine j_iconst hC dX2_copyFrom_15 ?_
  refine j_istore_n hC dX2_copyFrom_16 rfl (Nat.le_of_ble_eq_true rfl) rfl ?_
  refine j_sub [1, 2, 0] rfl ?_
  exact L_17 0 kR_0 M18 S hF h
set_option maxHeartbeats 4000000 in
set_option maxRecDepth 100000 in
theorem c_X2_findInsertions (l : Launch) (hlt : l.stackTraces = false) (g : zG) (v1 : Int) (v2 : Nat) (hv1 : inR v1) (M : zM) (S : zS) (hF : zFx S) {r : Int} {M' : zM} (h : F_X2_findInsertions v1 v2 M S = some (r, M')) : zMet l g yX2_findInsertions cX2_findInsertions 9 (some .int) 6 0 0 [zr g 5, .int (zi v1), zr g v2] M S (.inl (some (.int (zi r)))) M' S (inR r) := by
  refine zMet_of (by decide) hlt [(0, zr g 5), (1, .int (zi v1)), (2, zr g v2)] (by simp only [lv_args, zr_cat, zc_i, zc_l, zc_d, zc_r] <;> rfl) (by rw [zsl_len]; simp only [List.map_cons, List.map_nil, zr_cat, zc_i, zc_l, zc_d, zc_r, List.sum_cons, List.sum_nil] <;> decide) (fun K hC hE hN => ?_)
  unfold F_X2_findInsertions at h
  have J_134 : ∀ (v4 : Int) (hv4 : inR v4) (M : zM) (_ : F_X2_findInsertions_J134 v4 M S = some (r, M')), zJ K g 0 0 134 9 [(4, .int (zi v4))] [] M S := by
    intro v4 hv4 M h
    unfold F_X2_findInsertions_J134 at h
    refine j_iload hC 0 dX2_findInsertions_134 rfl ?_
    obtain ⟨e1, e2⟩ := zpr2 (Option.some.inj h)
    exact j_iret hC hE dX2_findInsertions_136 (w_id hv4) (zn_i _) (by rw [← e1]) e2 rfl (by rw [← e1]; exact hv4) (Nat.le_of_ble_eq_true rfl) (Nat.le_of_ble_eq_true rfl)
  have L_11 : ∀ (v1 : Int) (v2 : Nat) (v3 : Int) (v4 : Int) (v5 : Int) (hv1 : inR v1) (hv3 : inR v3) (hv4 : inR v4) (hv5 : inR v5) (M : zM) (_ : F_X2_findInsertions_L11 v1 v2 v3 v4 v5 M S = some (r, M')), zJ K g 0 0 11 9 [(0, zr g 5), (1, .int (zi v1)), (2, zr g v2), (3, .int (zi v3)), (4, .int (zi v4)), (5, .int (zi v5))] [] M S := by
    intro v1 v2 v3 v4 v5 hv1 hv3 hv4 hv5 M h
    unfold F_X2_findInsertions_L11 at h
    obtain ⟨ex11, hl, hd11⟩ := zb1_ex h
    obtain ⟨bd11, ebd⟩ : ∃ f, f = (fun (s : Int × Int × zM) => F_X2_findInsertions_B11 v1 v2 v3 s.1 s.2.1 s.2.2 S) := ⟨_, rfl⟩
    rw [← ebd] at hl
    have main : ∀ (n11 : Nat) (v4 : Int) (v5 : Int) (hv4 : inR v4) (hv5 : inR v5) (M : zM) (_ : zloop bd11 n11 (v4, v5, M) = some ex11), zJ K g 0 0 11 9 [(0, zr g 5), (1, .int (zi v1)), (2, zr g v2), (3, .int (zi v3)), (4, .int (zi v4)), (5, .int (zi v5))] [] M S := by
      intro n11
      induction n11 with
      | zero => intro v4 v5 hv4 hv5 M hl; exact zloop_0 hl
      | succ n11 ih11 =>
        have J_128 : ∀ (v4 : Int) (v5 : Int) (hv4 : inR v4) (hv5 : inR v5) (M : zM) (o : _) (_ : F_X2_findInsertions_J128 v1 v2 v3 v4 v5 M S = some o), zAft (bd11) n11 ex11 o → zJ K g 0 0 128 9 [(0, zr g 5), (1, .int (zi v1)), (2, zr g v2), (3, .int (zi v3)), (4, .int (zi v4)), (5, .int (zi v5))] [] M S := by
          intro v4 v5 hv4 hv5 M o h hT
          unfold F_X2_findInsertions_J128 at h
          obtain ⟨x1, ex1, h⟩ := zlet_ex h
          have hx1 : inR x1 := by rw [ex1]; exact inR_w _
          refine j_iinc hC 5 dX2_findInsertions_128 rfl ex1 (Nat.le_of_ble_eq_true rfl) rfl ?_
          refine j_goto hC dX2_findInsertions_131 rfl ?_
          obtain rfl := Option.some.inj h
          refine j_sub [1, 2, 3, 4, 5, 0] rfl ?_
          exact ih11 v4 x1 hv4 hx1 M hT
        have L_53 : ∀ (v4 : Int) (v5 : Int) (v6 : Nat) (v7 : Int) (hv4 : inR v4) (hv5 : inR v5) (hv7 : inR v7) (M : zM) (o : _) (_ : F_X2_findInsertions_L53 v1 v2 v3 v4 v5 v6 v7 M S = some o), zAft (bd11) n11 ex11 o → zJ K g 0 0 53 9 [(0, zr g 5), (1, .int (zi v1)), (2, zr g v2), (3, .int (zi v3)), (4, .int (zi v4)), (5, .int (zi v5)), (6, zr g v6), (7, .int (zi v7))] [] M S := by
          intro v4 v5 v6 v7 hv4 hv5 hv7 M oh53 h hT53
          unfold F_X2_findInsertions_L53 at h
          obtain ⟨ex53, hl, hd53⟩ := zb1_ex h
          obtain ⟨bd53, ebd⟩ : ∃ f, f = (fun (s : Int × Int × zM) => F_X2_findInsertions_B53 v1 v2 v3 s.1 v5 v6 s.2.1 s.2.2 S) := ⟨_, rfl⟩
          rw [← ebd] at hl
          have main : ∀ (n53 : Nat) (v4 : Int) (v7 : Int) (hv4 : inR v4) (hv7 : inR v7) (M : zM) (_ : zloop bd53 n53 (v4, v7, M) = some ex53), zJ K g 0 0 53 9 [(0, zr g 5), (1, .int (zi v1)), (2, zr g v2), (3, .int (zi v3)), (4, .int (zi v4)), (5, .int (zi v5)), (6, zr g v6), (7, .int (zi v7))] [] M S := by
            intro n53
            induction n53 with
            | zero => intro v4 v7 hv4 hv7 M hl; exact zloop_0 hl
            | succ n53 ih53 =>
              have J_122 : ∀ (v4 : Int) (v7 : Int) (hv4 : inR v4) (hv7 : inR v7) (M : zM) (o : _) (_ : F_X2_findInsertions_J122 v1 v2 v3 v4 v5 v6 v7 M S = some o), zAft (bd53) n53 ex53 o → zJ K g 0 0 122 9 [(0, zr g 5), (1, .int (zi v1)), (2, zr g v2), (3, .int (zi v3)), (4, .int (zi v4)), (5, .int (zi v5)), (6, zr g v6), (7, .int (zi v7))] [] M S := by
                intro v4 v7 hv4 hv7 M o h hT
                unfold F_X2_findInsertions_J122 at h
                obtain ⟨x2, ex2, h⟩ := zlet_ex h
                have hx2 : inR x2 := by rw [ex2]; exact inR_w _
                refine j_iinc (lv1 := [(7, .int (zi x2)), (0, zr g 5), (1, .int (zi v1)), (2, zr g v2), (3, .int (zi v3)), (4, .int (zi v4)), (5, .int (zi v5)), (6, zr g v6)]) hC 7 dX2_findInsertions_122 rfl ex2 (Nat.le_of_ble_eq_true rfl) (by simp only [List.filter_cons, List.filter_nil, zr_cat]; rfl) ?_
                refine j_goto hC dX2_findInsertions_125 rfl ?_
                obtain rfl := Option.some.inj h
                refine j_sub [1, 2, 3, 4, 5, 6, 7, 0] rfl ?_
                exact ih53 v4 x2 hv4 hx2 M hT
              have L_63 : ∀ (v4 : Int) (v7 : Int) (v8 : Int) (hv4 : inR v4) (hv7 : inR v7) (hv8 : inR v8) (M : zM) (o : _) (_ : F_X2_findInsertions_L63 v1 v2 v3 v4 v5 v6 v7 v8 M S = some o), zAft (bd53) n53 ex53 o → zJ K g 0 0 63 9 [(0, zr g 5), (1, .int (zi v1)), (2, zr g v2), (3, .int (zi v3)), (4, .int (zi v4)), (5, .int (zi v5)), (6, zr g v6), (7, .int (zi v7)), (8, .int (zi v8))] [] M S := by
                intro v4 v7 v8 hv4 hv7 hv8 M oh63 h hT63
                unfold F_X2_findInsertions_L63 at h
                obtain ⟨ex63, hl, hd63⟩ := zb1_ex h
                obtain ⟨bd63, ebd⟩ : ∃ f, f = (fun (s : Int × Int × zM) => F_X2_findInsertions_B63 v1 v2 v3 s.1 v5 v6 v7 s.2.1 s.2.2 S) := ⟨_, rfl⟩
                rw [← ebd] at hl
                have main : ∀ (n63 : Nat) (v4 : Int) (v8 : Int) (hv4 : inR v4) (hv8 : inR v8) (M : zM) (_ : zloop bd63 n63 (v4, v8, M) = some ex63), zJ K g 0 0 63 9 [(0, zr g 5), (1, .int (zi v1)), (2, zr g v2), (3, .int (zi v3)), (4, .int (zi v4)), (5, .int (zi v5)), (6, zr g v6), (7, .int (zi v7)), (8, .int (zi v8))] [] M S := by
                  intro n63
                  induction n63 with
                  | zero => intro v4 v8 hv4 hv8 M hl; exact zloop_0 hl
                  | succ n63 ih63 =>
                    have J_116 : ∀ (v4 : Int) (v8 : Int) (hv4 : inR v4) (hv8 : inR v8) (M : zM) (o : _) (_ : F_X2_findInsertions_J116 v1 v2 v3 v4 v5 v6 v7 v8 M S = some o), zAft (bd63) n63 ex63 o → zJ K g 0 0 116 9 [(0, zr g 5), (1, .int (zi v1)), (2, zr g v2), (3, .int (zi v3)), (4, .int (zi v4)), (5, .int (zi v5)), (6, zr g v6), (7, .int (zi v7)), (8, .int (zi v8))] [] M S := by
                      intro v4 v8 hv4 hv8 M o h hT
                      unfold F_X2_findInsertions_J116 at h
                      obtain ⟨x3, ex3, h⟩ := zlet_ex h
                      have hx3 : inR x3 := by rw [ex3]; exact inR_w _
                      refine j_iinc hC 8 dX2_findInsertions_116 rfl ex3 (Nat.le_of_ble_eq_true rfl) rfl ?_
                      refine j_goto hC dX2_findInsertions_119 rfl ?_
                      obtain rfl := Option.some.inj h
                      refine j_sub [1, 2, 3, 4, 5, 6, 7, 8, 0] rfl ?_
                      exact ih63 v4 x3 hv4 hx3 M hT
                    intro v4 v8 hv4 hv8 M hl
                    obtain ⟨o, h, hT⟩ := zloop_ex hl
                    have h : F_X2_findInsertions_B63 v1 v2 v3 v4 v5 v6 v7 v8 M S = some o := by rw [ebd] at h; exact h
                    unfold F_X2_findInsertions_B63 at h
                    refine j_iload hC 8 dX2_findInsertions_63 rfl ?_
                    refine j_iload_n hC 3 dX2_findInsertions_65 rfl rfl ?_
                    refine j_icmp_gt hC dX2_findInsertions_66 rfl (w_id hv8) (w_id hv3) (fun c4 => ?_) (fun c4 => ?_)
                    · have h := zt c4 h
                      obtain rfl := Option.some.inj h
                      have hx63 := hd63
                      rw [← show _ = ex63 from hT] at hx63
                      refine j_sub [0, 1, 2, 3, 4, 5, 6, 7] rfl ?_
                      exact J_122 v4 v7 hv4 hv7 M _ hx63 hT63
                    · have h := zf c4 h
                      refine j_aload hC 6 dX2_findInsertions_69 rfl ?_
                      refine j_aload_n hC 0 dX2_findInsertions_71 rfl rfl ?_
                      refine j_get hC dX2_findInsertions_72 f_X2_19 (zFx_kd hF 5 rfl) rfl 4 rfl (fun hg5 => ?_)
                      refine j_iload_n hC 1 dX2_findInsertions_75 rfl rfl ?_
                      refine j_iload_n hC 3 dX2_findInsertions_76 rfl rfl ?_
                      refine j_iload hC 7 dX2_findInsertions_77 rfl ?_
                      refine j_iload hC 8 dX2_findInsertions_79 rfl ?_
                      obtain ⟨hk, h⟩ := zchk_ex h
                      have hk6 := hk
                      obtain ⟨r7, M8, hy, h⟩ := zb2_ex h
                      refine j_callVi (ci := 0) hC hE lk_X2_65 dX2_findInsertions_81 (c_X0_selects l hlt g v6 (M 5 4) v1 v3 v7 v8 hg5 hv1 hv3 hv7 hv8 M S hF hy) [.int (zi (M 5 4)), .int (zi v1), .int (zi v3), .int (zi v7), .int (zi v8)] [] hk6 ⟨_, rfl, by decide, rfl⟩ rfl rfl rfl (Nat.le_of_ble_eq_true rfl) (Nat.le_of_ble_eq_true rfl) (Nat.le_of_ble_eq_true rfl) (Nat.le_of_ble_eq_true rfl) (Nat.le_of_ble_eq_true rfl) (fun hp9 => ?_)
                      have hr7 := hp9
                      refine j_if_eq hC dX2_findInsertions_84 rfl (w_id hr7) (fun c10 => ?_) (fun c10 => ?_)
                      · have h := zt c10 h
                        exact J_116 v4 v8 hv4 hv8 M8 _ h hT
                      · have h := zf c10 h
                        refine j_aload_n hC 2 dX2_findInsertions_87 rfl rfl ?_
                        refine j_iload hC 4 dX2_findInsertions_88 rfl ?_
                        refine j_aload hC 6 dX2_findInsertions_90 rfl ?_
                        refine j_iload_n hC 1 dX2_findInsertions_92 rfl rfl ?_
                        refine j_iload_n hC 3 dX2_findInsertions_93 rfl rfl ?_
                        refine j_iload hC 7 dX2_findInsertions_94 rfl ?_
                        refine j_iload hC 8 dX2_findInsertions_96 rfl ?_
                        obtain ⟨hk, h⟩ := zchk_ex h
                        have hk11 := hk
                        obtain ⟨r12, hy, h⟩ := zb1_ex h
                        refine j_callVi (ci := 0) hC hE lk_X2_69 dX2_findInsertions_98 (c_X0_putAround l hlt g v6 v1 v3 v7 v8 hv1 hv3 hv7 hv8 M8 S hF hy) [.int (zi v1), .int (zi v3), .int (zi v7), .int (zi v8)] [.int (zi v4), zr g v2] hk11 ⟨_, rfl, by decide, rfl⟩ rfl rfl rfl (Nat.le_of_ble_eq_true rfl) (Nat.le_of_ble_eq_true rfl) (Nat.le_of_ble_eq_true rfl) (Nat.le_of_ble_eq_true rfl) (Nat.le_of_ble_eq_true rfl) (fun hp13 => ?_)
                        have hr12 := hp13
                        refine j_iload hC 5 dX2_findInsertions_101 rfl ?_
                        refine j_iload hC 7 dX2_findInsertions_103 rfl ?_
                        refine j_iload hC 8 dX2_findInsertions_105 rfl ?_
                        obtain ⟨r14, hy, h⟩ := zb1_ex h
                        refine j_callSi hC hE lk_X2_73 dX2_findInsertions_107 (c_X4_of l hlt g r12 v5 v7 v8 hr12 hv5 hv7 hv8 M8 S hy) [.int (zi r12), .int (zi v5), .int (zi v7), .int (zi v8)] [.int (zi v4), zr g v2] rfl rfl rfl (Nat.le_of_ble_eq_true rfl) (Nat.le_of_ble_eq_true rfl) (Nat.le_of_ble_eq_true rfl) (Nat.le_of_ble_eq_true rfl) (Nat.le_of_ble_eq_true rfl) (fun hp15 => ?_)
                        have hr14 := hp15
                        obtain ⟨M16, hy, h⟩ := zb1_ex h
                        refine j_callSv hC hE lk_X2_48 dX2_findInsertions_110 (c_X6_put l hlt g v2 v4 r14 hv4 hr14 M8 S hF hy) [zr g v2, .int (zi v4), .int (zi r14)] [] rfl rfl rfl (Nat.le_of_ble_eq_true rfl) (Nat.le_of_ble_eq_true rfl) (Nat.le_of_ble_eq_true rfl) (Nat.le_of_ble_eq_true rfl) (Nat.le_of_ble_eq_true rfl) (fun hp17 => ?_)
                        obtain ⟨x18, ex18, h⟩ := zlet_ex h
                        have hx18 : inR x18 := by rw [ex18]; exact inR_w _
                        refine j_iinc hC 4 dX2_findInsertions_113 rfl ex18 (Nat.le_of_ble_eq_true rfl) rfl ?_
                        refine j_sub [1, 2, 3, 4, 0, 5, 6, 7, 8] rfl ?_
                        exact J_116 x18 v8 hx18 hv8 M16 _ h hT
                exact main zN v4 v8 hv4 hv8 M hl
              intro v4 v7 hv4 hv7 M hl
              obtain ⟨o, h, hT⟩ := zloop_ex hl
              have h : F_X2_findInsertions_B53 v1 v2 v3 v4 v5 v6 v7 M S = some o := by rw [ebd] at h; exact h
              unfold F_X2_findInsertions_B53 at h
              refine j_iload hC 7 dX2_findInsertions_53 rfl ?_
              refine j_iload_n hC 3 dX2_findInsertions_55 rfl rfl ?_
              refine j_icmp_gt hC dX2_findInsertions_56 rfl (w_id hv7) (w_id hv3) (fun c19 => ?_) (fun c19 => ?_)
              · have h := zt c19 h
                obtain rfl := Option.some.inj h
                have hx53 := hd53
                rw [← show _ = ex53 from hT] at hx53
                refine j_sub [0, 1, 2, 3, 4, 5] rfl ?_
                exact J_128 v4 v5 hv4 hv5 M _ hx53 hT53
              · have h := zf c19 h
                refine j_iload hC 7 dX2_findInsertions_59 rfl ?_
                refine j_istore hC dX2_findInsertions_61 (Nat.le_of_ble_eq_true rfl) rfl ?_
                refine j_sub [1, 2, 3, 4, 5, 6, 7, 8, 0] rfl ?_
                exact L_63 v4 v7 v7 hv4 hv7 hv7 M _ h hT
          exact main zN v4 v7 hv4 hv7 M hl
        intro v4 v5 hv4 hv5 M hl
        obtain ⟨o, h, hT⟩ := zloop_ex hl
        have h : F_X2_findInsertions_B11 v1 v2 v3 v4 v5 M S = some o := by rw [ebd] at h; exact h
        unfold F_X2_findInsertions_B11 at h
        refine j_iload hC 5 dX2_findInsertions_11 rfl ?_
        refine j_aload_n hC 0 dX2_findInsertions_13 rfl rfl ?_
        refine j_get hC dX2_findInsertions_14 f_X2_35 (zFx_kd hF 5 rfl) rfl 3 rfl (fun hg20 => ?_)
        refine j_icmp_ge hC dX2_findInsertions_17 rfl (w_id hv5) (w_id hg20) (fun c21 => ?_) (fun c21 => ?_)
        · have h := zf c21 h
          obtain rfl := Option.some.inj h
          have hx11 := hd11
          rw [← show _ = ex11 from hT] at hx11
          refine j_sub [4] rfl ?_
          exact J_134 v4 hv4 M hx11
        · have h := zt c21 h
          refine j_aload_n hC 0 dX2_findInsertions_20 rfl rfl ?_
          refine j_iload hC 5 dX2_findInsertions_21 rfl ?_
          obtain ⟨r22, hy, h⟩ := zb1_ex h
          refine j_callVr (ci := 2) hC hE lk_X2_52 dX2_findInsertions_23 (c_X2_context l hlt g v5 hv5 M S hF hy) [.int (zi v5)] [] (zFx_kd hF 5 rfl) ⟨_, rfl, by decide, rfl⟩ rfl rfl rfl (Nat.le_of_ble_eq_true rfl) (Nat.le_of_ble_eq_true rfl) (Nat.le_of_ble_eq_true rfl) (Nat.le_of_ble_eq_true rfl) (Nat.le_of_ble_eq_true rfl) (fun hp23 => ?_)
          refine j_astore hC dX2_findInsertions_26 (Nat.le_of_ble_eq_true rfl) rfl ?_
          refine j_aload hC 0 dX2_findInsertions_28 rfl ?_
          refine j_ifnull hC dX2_findInsertions_30 rfl (fun c24 => ?_) (fun c24 => ?_)
          · have h := zt c24 h
            refine j_sub [1, 2, 3, 4, 5, 6] rfl ?_
            exact J_128 v4 v5 hv4 hv5 M _ h hT
          · have h := zf c24 h
            refine j_iload_n hC 4 dX2_findInsertions_33 rfl rfl ?_
            refine j_aload hC 0 dX2_findInsertions_34 rfl ?_
            obtain ⟨hk, h⟩ := zchk_ex h
            have hk25 := hk
            obtain ⟨r26, hy, h⟩ := zb1_ex h
            refine j_callVi (ci := 0) hC hE lk_X2_61 dX2_findInsertions_36 (c_X0_growth l hlt g r22 M S hF hy) [] [.int (zi v3)] hk25 ⟨_, rfl, by decide, rfl⟩ rfl rfl rfl (Nat.le_of_ble_eq_true rfl) (Nat.le_of_ble_eq_true rfl) (Nat.le_of_ble_eq_true rfl) (Nat.le_of_ble_eq_true rfl) (Nat.le_of_ble_eq_true rfl) (fun hp27 => ?_)
            have hr26 := hp27
            refine j_iadd hC dX2_findInsertions_39 ?_
            refine j_aload_n hC 1 dX2_findInsertions_40 rfl rfl ?_
            refine j_get hC dX2_findInsertions_41 f_X2_23 (zFx_kd hF 5 rfl) rfl 5 rfl (fun hg28 => ?_)
            refine j_icmp_le hC dX2_findInsertions_44 rfl rfl (w_id hg28) (fun c29 => ?_) (fun c29 => ?_)
            · have h := zf c29 h
              refine j_iconst hC dX2_findInsertions_50 ?_
              refine j_istore (lv1 := [(7, .int (zi 0)), (6, zr g r22), (0, zr g 5), (1, .int (zi v1)), (2, zr g v2), (3, .int (zi v3)), (4, .int (zi v4)), (5, .int (zi v5))]) hC dX2_findInsertions_51 (Nat.le_of_ble_eq_true rfl) (by simp only [List.filter_cons, List.filter_nil, zr_cat]; rfl) ?_
              refine j_sub [2, 3, 4, 5, 6, 7, 1, 0] rfl ?_
              exact L_53 v4 v5 r22 0 hv4 hv5 kR_0 M _ h hT
            · have h := zt c29 h
              refine j_goto hC dX2_findInsertions_47 rfl ?_
              refine j_sub [1, 2, 3, 4, 5, 6] rfl ?_
              exact J_128 v4 v5 hv4 hv5 M _ h hT
    exact main zN v4 v5 hv4 hv5 M hl
  refine j_iload_n hC 1 dX2_findInsertions_0 rfl rfl ?_
  obtain ⟨r30, hy, h⟩ := zb1_ex h
  refine j_callSi hC hE lk_X2_56 dX2_findInsertions_1 (c_X9_length l hlt g v1 hv1 M S hy) [.int (zi v1)] [] rfl rfl rfl (Nat.le_of_ble_eq_true rfl) (Nat.le_of_ble_eq_true rfl) (Nat.le_of_ble_eq_true rfl) (Nat.le_of_ble_eq_true rfl) (Nat.le_of_ble_eq_true rfl) (fun hp31 => ?_)
  have hr30 := hp31
  refine j_istore_n (lv1 := [(3, .int (zi r30)), (0, zr g 5), (1, .int (zi v1)), (2, zr g v2)]) hC dX2_findInsertions_4 rfl (Nat.le_of_ble_eq_true rfl) (by simp only [List.filter_cons, List.filter_nil, zr_cat]; rfl) ?_
  refine j_iconst hC dX2_findInsertions_5 ?_
  refine j_istore hC dX2_findInsertions_6 (Nat.le_of_ble_eq_true rfl) rfl ?_
  refine j_iconst hC dX2_findInsertions_8 ?_
  refine j_istore hC dX2_findInsertions_9 (Nat.le_of_ble_eq_true rfl) rfl ?_
  refine j_sub [3, 4, 5, 2, 1, 0] rfl ?_
  exact L_11 v1 v2 r30 0 0 hv1 hr30 kR_0 kR_0 M h
set_option maxHeartbeats 4000000 in
set_option maxRecDepth 100000 in
theorem c_X2_findReductions (l : Launch) (hlt : l.stackTraces = false) (g : zG) (v1 : Int) (v2 : Nat) (hv1 : inR v1) (M : zM) (S : zS) (hF : zFx S) {r : Int} {M' : zM} (h : F_X2_findReductions v1 v2 M S = some (r, M')) : zMet l g yX2_findReductions cX2_findReductions 11 (some .int) 6 0 0 [zr g 5, .int (zi v1), zr g v2] M S (.inl (some (.int (zi r)))) M' S (inR r) := by
  refine zMet_of (by decide) hlt [(0, zr g 5), (1, .int (zi v1)), (2, zr g v2)] (by simp only [lv_args, zr_cat, zc_i, zc_l, zc_d, zc_r] <;> rfl) (by rw [zsl_len]; simp only [List.map_cons, List.map_nil, zr_cat, zc_i, zc_l, zc_d, zc_r, List.sum_cons, List.sum_nil] <;> decide) (fun K hC hE hN => ?_)
  unfold F_X2_findReductions at h
  have J_165 : ∀ (v4 : Int) (hv4 : inR v4) (M : zM) (_ : F_X2_findReductions_J165 v4 M S = some (r, M')), zJ K g 0 0 165 11 [(4, .int (zi v4))] [] M S := by
    intro v4 hv4 M h
    unfold F_X2_findReductions_J165 at h
    refine j_iload hC 0 dX2_findReductions_165 rfl ?_
    obtain ⟨e1, e2⟩ := zpr2 (Option.some.inj h)
    exact j_iret hC hE dX2_findReductions_167 (w_id hv4) (zn_i _) (by rw [← e1]) e2 rfl (by rw [← e1]; exact hv4) (Nat.le_of_ble_eq_true rfl) (Nat.le_of_ble_eq_true rfl)
  have L_11 : ∀ (v1 : Int) (v2 : Nat) (v3 : Int) (v4 : Int) (v5 : Int) (hv1 : inR v1) (hv3 : inR v3) (hv4 : inR v4) (hv5 : inR v5) (M : zM) (_ : F_X2_findReductions_L11 v1 v2 v3 v4 v5 M S = some (r, M')), zJ K g 0 0 11 11 [(0, zr g 5), (1, .int (zi v1)), (2, zr g v2), (3, .int (zi v3)), (4, .int (zi v4)), (5, .int (zi v5))] [] M S := by
    intro v1 v2 v3 v4 v5 hv1 hv3 hv4 hv5 M h
    unfold F_X2_findReductions_L11 at h
    obtain ⟨ex11, hl, hd11⟩ := zb1_ex h
    obtain ⟨bd11, ebd⟩ : ∃ f, f = (fun (s : Int × Int × zM) => F_X2_findReductions_B11 v1 v2 v3 s.1 s.2.1 s.2.2 S) := ⟨_, rfl⟩
    rw [← ebd] at hl
    have main : ∀ (n11 : Nat) (v4 : Int) (v5 : Int) (hv4 : inR v4) (hv5 : inR v5) (M : zM) (_ : zloop bd11 n11 (v4, v5, M) = some ex11), zJ K g 0 0 11 11 [(0, zr g 5), (1, .int (zi v1)), (2, zr g v2), (3, .int (zi v3)), (4, .int (zi v4)), (5, .int (zi v5))] [] M S := by
      intro n11
      induction n11 with
      | zero => intro v4 v5 hv4 hv5 M hl; exact zloop_0 hl
      | succ n11 ih11 =>
        have J_159 : ∀ (v4 : Int) (v5 : Int) (hv4 : inR v4) (hv5 : inR v5) (M : zM) (o : _) (_ : F_X2_findReductions_J159 v1 v2 v3 v4 v5 M S = some o), zAft (bd11) n11 ex11 o → zJ K g 0 0 159 11 [(0, zr g 5), (1, .int (zi v1)), (2, zr g v2), (3, .int (zi v3)), (4, .int (zi v4)), (5, .int (zi v5))] [] M S := by
          intro v4 v5 hv4 hv5 M o h hT
          unfold F_X2_findReductions_J159 at h
          obtain ⟨x1, ex1, h⟩ := zlet_ex h
          have hx1 : inR x1 := by rw [ex1]; exact inR_w _
          refine j_iinc hC 5 dX2_findReductions_159 rfl ex1 (Nat.le_of_ble_eq_true rfl) rfl ?_
          refine j_goto hC dX2_findReductions_162 rfl ?_
          obtain rfl := Option.some.inj h
          refine j_sub [1, 2, 3, 4, 5, 0] rfl ?_
          exact ih11 v4 x1 hv4 hx1 M hT
        have L_56 : ∀ (v4 : Int) (v5 : Int) (v6 : Nat) (v7 : Int) (v8 : Int) (hv4 : inR v4) (hv5 : inR v5) (hv7 : inR v7) (hv8 : inR v8) (M : zM) (o : _) (_ : F_X2_findReductions_L56 v1 v2 v3 v4 v5 v6 v7 v8 M S = some o), zAft (bd11) n11 ex11 o → zJ K g 0 0 56 11 [(0, zr g 5), (1, .int (zi v1)), (2, zr g v2), (3, .int (zi v3)), (4, .int (zi v4)), (5, .int (zi v5)), (6, zr g v6), (7, .int (zi v7)), (8, .int (zi v8))] [] M S := by
          intro v4 v5 v6 v7 v8 hv4 hv5 hv7 hv8 M oh56 h hT56
          unfold F_X2_findReductions_L56 at h
          obtain ⟨ex56, hl, hd56⟩ := zb1_ex h
          obtain ⟨bd56, ebd⟩ : ∃ f, f = (fun (s : Int × Int × zM) => F_X2_findReductions_B56 v1 v2 v3 s.1 v5 v6 v7 s.2.1 s.2.2 S) := ⟨_, rfl⟩
          rw [← ebd] at hl
          have main : ∀ (n56 : Nat) (v4 : Int) (v8 : Int) (hv4 : inR v4) (hv8 : inR v8) (M : zM) (_ : zloop bd56 n56 (v4, v8, M) = some ex56), zJ K g 0 0 56 11 [(0, zr g 5), (1, .int (zi v1)), (2, zr g v2), (3, .int (zi v3)), (4, .int (zi v4)), (5, .int (zi v5)), (6, zr g v6), (7, .int (zi v7)), (8, .int (zi v8))] [] M S := by
            intro n56
            induction n56 with
            | zero => intro v4 v8 hv4 hv8 M hl; exact zloop_0 hl
            | succ n56 ih56 =>
              have J_153 : ∀ (v4 : Int) (v8 : Int) (hv4 : inR v4) (hv8 : inR v8) (M : zM) (o : _) (_ : F_X2_findReductions_J153 v1 v2 v3 v4 v5 v6 v7 v8 M S = some o), zAft (bd56) n56 ex56 o → zJ K g 0 0 153 11 [(0, zr g 5), (1, .int (zi v1)), (2, zr g v2), (3, .int (zi v3)), (4, .int (zi v4)), (5, .int (zi v5)), (6, zr g v6), (7, .int (zi v7)), (8, .int (zi v8))] [] M S := by
                intro v4 v8 hv4 hv8 M o h hT
                unfold F_X2_findReductions_J153 at h
                obtain ⟨x2, ex2, h⟩ := zlet_ex h
                have hx2 : inR x2 := by rw [ex2]; exact inR_w _
                refine j_iinc hC 8 dX2_findReductions_153 rfl ex2 (Nat.le_of_ble_eq_true rfl) rfl ?_
                refine j_goto hC dX2_findReductions_156 rfl ?_
                obtain rfl := Option.some.inj h
                refine j_sub [1, 2, 3, 4, 5, 6, 7, 8, 0] rfl ?_
                exact ih56 v4 x2 hv4 hx2 M hT
              have L_82 : ∀ (v4 : Int) (v8 : Int) (v9 : Int) (hv4 : inR v4) (hv8 : inR v8) (hv9 : inR v9) (M : zM) (o : _) (_ : F_X2_findReductions_L82 v1 v2 v3 v4 v5 v6 v7 v8 v9 M S = some o), zAft (bd56) n56 ex56 o → zJ K g 0 0 82 11 [(0, zr g 5), (1, .int (zi v1)), (2, zr g v2), (3, .int (zi v3)), (4, .int (zi v4)), (5, .int (zi v5)), (6, zr g v6), (7, .int (zi v7)), (8, .int (zi v8)), (9, .int (zi v9))] [] M S := by
                intro v4 v8 v9 hv4 hv8 hv9 M oh82 h hT82
                unfold F_X2_findReductions_L82 at h
                obtain ⟨ex82, hl, hd82⟩ := zb1_ex h
                obtain ⟨bd82, ebd⟩ : ∃ f, f = (fun (s : Int × Int × zM) => F_X2_findReductions_B82 v1 v2 v3 s.1 v5 v6 v7 v8 s.2.1 s.2.2 S) := ⟨_, rfl⟩
                rw [← ebd] at hl
                have main : ∀ (n82 : Nat) (v4 : Int) (v9 : Int) (hv4 : inR v4) (hv9 : inR v9) (M : zM) (_ : zloop bd82 n82 (v4, v9, M) = some ex82), zJ K g 0 0 82 11 [(0, zr g 5), (1, .int (zi v1)), (2, zr g v2), (3, .int (zi v3)), (4, .int (zi v4)), (5, .int (zi v5)), (6, zr g v6), (7, .int (zi v7)), (8, .int (zi v8)), (9, .int (zi v9))] [] M S := by
                  intro n82
                  induction n82 with
                  | zero => intro v4 v9 hv4 hv9 M hl; exact zloop_0 hl
                  | succ n82 ih82 =>
                    have J_147 : ∀ (v4 : Int) (v9 : Int) (hv4 : inR v4) (hv9 : inR v9) (M : zM) (o : _) (_ : F_X2_findReductions_J147 v1 v2 v3 v4 v5 v6 v7 v8 v9 M S = some o), zAft (bd82) n82 ex82 o → zJ K g 0 0 147 11 [(0, zr g 5), (1, .int (zi v1)), (2, zr g v2), (3, .int (zi v3)), (4, .int (zi v4)), (5, .int (zi v5)), (6, zr g v6), (7, .int (zi v7)), (8, .int (zi v8)), (9, .int (zi v9))] [] M S := by
                      intro v4 v9 hv4 hv9 M o h hT
                      unfold F_X2_findReductions_J147 at h
                      obtain ⟨x3, ex3, h⟩ := zlet_ex h
                      have hx3 : inR x3 := by rw [ex3]; exact inR_w _
                      refine j_iinc hC 9 dX2_findReductions_147 rfl ex3 (Nat.le_of_ble_eq_true rfl) rfl ?_
                      refine j_goto hC dX2_findReductions_150 rfl ?_
                      obtain rfl := Option.some.inj h
                      refine j_sub [1, 2, 3, 4, 5, 6, 7, 8, 9, 0] rfl ?_
                      exact ih82 v4 x3 hv4 hx3 M hT
                    intro v4 v9 hv4 hv9 M hl
                    obtain ⟨o, h, hT⟩ := zloop_ex hl
                    have h : F_X2_findReductions_B82 v1 v2 v3 v4 v5 v6 v7 v8 v9 M S = some o := by rw [ebd] at h; exact h
                    unfold F_X2_findReductions_B82 at h
                    refine j_iload hC 9 dX2_findReductions_82 rfl ?_
                    refine j_iload hC 7 dX2_findReductions_84 rfl ?_
                    refine j_icmp_gt hC dX2_findReductions_86 rfl (w_id hv9) (w_id hv7) (fun c4 => ?_) (fun c4 => ?_)
                    · have h := zt c4 h
                      obtain rfl := Option.some.inj h
                      have hx82 := hd82
                      rw [← show _ = ex82 from hT] at hx82
                      refine j_sub [0, 1, 2, 3, 4, 5, 6, 7, 8] rfl ?_
                      exact J_153 v4 v8 hv4 hv8 M _ hx82 hT82
                    · have h := zf c4 h
                      refine j_aload hC 6 dX2_findReductions_89 rfl ?_
                      refine j_iload_n hC 1 dX2_findReductions_91 rfl rfl ?_
                      refine j_iload_n hC 3 dX2_findReductions_92 rfl rfl ?_
                      refine j_iload hC 8 dX2_findReductions_93 rfl ?_
                      refine j_iload hC 9 dX2_findReductions_95 rfl ?_
                      obtain ⟨hk, h⟩ := zchk_ex h
                      have hk5 := hk
                      obtain ⟨r6, hy, h⟩ := zb1_ex h
                      refine j_callVi (ci := 0) hC hE lk_X2_82 dX2_findReductions_97 (c_X0_takeAway l hlt g v6 v1 v3 v8 v9 hv1 hv3 hv8 hv9 M S hF hy) [.int (zi v1), .int (zi v3), .int (zi v8), .int (zi v9)] [] hk5 ⟨_, rfl, by decide, rfl⟩ rfl rfl rfl (Nat.le_of_ble_eq_true rfl) (Nat.le_of_ble_eq_true rfl) (Nat.le_of_ble_eq_true rfl) (Nat.le_of_ble_eq_true rfl) (Nat.le_of_ble_eq_true rfl) (fun hp7 => ?_)
                      have hr6 := hp7
                      refine j_istore hC dX2_findReductions_100 (Nat.le_of_ble_eq_true rfl) rfl ?_
                      refine j_iload hC 0 dX2_findReductions_102 rfl ?_
                      refine j_if_lt hC dX2_findReductions_104 rfl (w_id hr6) (fun c8 => ?_) (fun c8 => ?_)
                      · have h := zt c8 h
                        refine j_sub [1, 2, 3, 4, 5, 6, 7, 8, 9, 10] rfl ?_
                        exact J_147 v4 v9 hv4 hv9 M _ h hT
                      · have h := zf c8 h
                        refine j_aload hC 7 dX2_findReductions_107 rfl ?_
                        refine j_aload_n hC 1 dX2_findReductions_109 rfl rfl ?_
                        refine j_get hC dX2_findReductions_110 f_X2_19 (zFx_kd hF 5 rfl) rfl 4 rfl (fun hg9 => ?_)
                        refine j_iload hC 0 dX2_findReductions_113 rfl ?_
                        refine j_iload hC 8 dX2_findReductions_115 rfl ?_
                        refine j_iload hC 9 dX2_findReductions_117 rfl ?_
                        refine j_iload hC 10 dX2_findReductions_119 rfl ?_
                        obtain ⟨hk, h⟩ := zchk_ex h
                        have hk10 := hk
                        obtain ⟨r11, M12, hy, h⟩ := zb2_ex h
                        refine j_callVi (ci := 0) hC hE lk_X2_65 dX2_findReductions_121 (c_X0_selects l hlt g v6 (M 5 4) r6 v7 v8 v9 hg9 hr6 hv7 hv8 hv9 M S hF hy) [.int (zi (M 5 4)), .int (zi r6), .int (zi v7), .int (zi v8), .int (zi v9)] [] hk10 ⟨_, rfl, by decide, rfl⟩ rfl rfl rfl (Nat.le_of_ble_eq_true rfl) (Nat.le_of_ble_eq_true rfl) (Nat.le_of_ble_eq_true rfl) (Nat.le_of_ble_eq_true rfl) (Nat.le_of_ble_eq_true rfl) (fun hp13 => ?_)
                        have hr11 := hp13
                        refine j_if_eq hC dX2_findReductions_124 rfl (w_id hr11) (fun c14 => ?_) (fun c14 => ?_)
                        · have h := zt c14 h
                          refine j_sub [1, 2, 3, 4, 5, 6, 7, 8, 9, 10] rfl ?_
                          exact J_147 v4 v9 hv4 hv9 M12 _ h hT
                        · have h := zf c14 h
                          refine j_aload_n hC 3 dX2_findReductions_127 rfl rfl ?_
                          refine j_iload hC 5 dX2_findReductions_128 rfl ?_
                          refine j_iload hC 0 dX2_findReductions_130 rfl ?_
                          refine j_iload hC 6 dX2_findReductions_132 rfl ?_
                          refine j_iload hC 9 dX2_findReductions_134 rfl ?_
                          refine j_iload hC 10 dX2_findReductions_136 rfl ?_
                          obtain ⟨r15, hy, h⟩ := zb1_ex h
                          refine j_callSi hC hE lk_X2_73 dX2_findReductions_138 (c_X4_of l hlt g r6 v5 v8 v9 hr6 hv5 hv8 hv9 M12 S hy) [.int (zi r6), .int (zi v5), .int (zi v8), .int (zi v9)] [.int (zi v4), zr g v2] rfl rfl rfl (Nat.le_of_ble_eq_true rfl) (Nat.le_of_ble_eq_true rfl) (Nat.le_of_ble_eq_true rfl) (Nat.le_of_ble_eq_true rfl) (Nat.le_of_ble_eq_true rfl) (fun hp16 => ?_)
                          have hr15 := hp16
                          obtain ⟨M17, hy, h⟩ := zb1_ex h
                          refine j_callSv hC hE lk_X2_48 dX2_findReductions_141 (c_X6_put l hlt g v2 v4 r15 hv4 hr15 M12 S hF hy) [zr g v2, .int (zi v4), .int (zi r15)] [] rfl rfl rfl (Nat.le_of_ble_eq_true rfl) (Nat.le_of_ble_eq_true rfl) (Nat.le_of_ble_eq_true rfl) (Nat.le_of_ble_eq_true rfl) (Nat.le_of_ble_eq_true rfl) (fun hp18 => ?_)
                          obtain ⟨x19, ex19, h⟩ := zlet_ex h
                          have hx19 : inR x19 := by rw [ex19]; exact inR_w _
                          refine j_iinc hC 5 dX2_findReductions_144 rfl ex19 (Nat.le_of_ble_eq_true rfl) rfl ?_
                          refine j_sub [2, 3, 4, 5, 0, 6, 7, 8, 9, 10] rfl ?_
                          exact J_147 x19 v9 hx19 hv9 M17 _ h hT
                exact main zN v4 v9 hv4 hv9 M hl
              intro v4 v8 hv4 hv8 M hl
              obtain ⟨o, h, hT⟩ := zloop_ex hl
              have h : F_X2_findReductions_B56 v1 v2 v3 v4 v5 v6 v7 v8 M S = some o := by rw [ebd] at h; exact h
              unfold F_X2_findReductions_B56 at h
              refine j_iload hC 8 dX2_findReductions_56 rfl ?_
              refine j_iload hC 7 dX2_findReductions_58 rfl ?_
              refine j_icmp_gt hC dX2_findReductions_60 rfl (w_id hv8) (w_id hv7) (fun c20 => ?_) (fun c20 => ?_)
              · have h := zt c20 h
                obtain rfl := Option.some.inj h
                have hx56 := hd56
                rw [← show _ = ex56 from hT] at hx56
                refine j_sub [0, 1, 2, 3, 4, 5] rfl ?_
                exact J_159 v4 v5 hv4 hv5 M _ hx56 hT56
              · have h := zf c20 h
                refine j_aload hC 6 dX2_findReductions_63 rfl ?_
                refine j_iload_n hC 1 dX2_findReductions_65 rfl rfl ?_
                refine j_iload_n hC 3 dX2_findReductions_66 rfl rfl ?_
                refine j_iload hC 8 dX2_findReductions_67 rfl ?_
                obtain ⟨hk, h⟩ := zchk_ex h
                have hk21 := hk
                obtain ⟨r22, hy, h⟩ := zb1_ex h
                refine j_callVi (ci := 0) hC hE lk_X2_78 dX2_findReductions_69 (c_X0_leftStandsAt l hlt g v6 v1 v3 v8 hv1 hv3 hv8 M S hF hy) [.int (zi v1), .int (zi v3), .int (zi v8)] [] hk21 ⟨_, rfl, by decide, rfl⟩ rfl rfl rfl (Nat.le_of_ble_eq_true rfl) (Nat.le_of_ble_eq_true rfl) (Nat.le_of_ble_eq_true rfl) (Nat.le_of_ble_eq_true rfl) (Nat.le_of_ble_eq_true rfl) (fun hp23 => ?_)
                have hr22 := hp23
                refine j_if_ne hC dX2_findReductions_72 rfl (w_id hr22) (fun c24 => ?_) (fun c24 => ?_)
                · have h := zf c24 h
                  refine j_iload hC 8 dX2_findReductions_78 rfl ?_
                  refine j_istore hC dX2_findReductions_80 (Nat.le_of_ble_eq_true rfl) rfl ?_
                  refine j_sub [1, 2, 3, 4, 5, 6, 7, 8, 9, 0] rfl ?_
                  exact L_82 v4 v8 v8 hv4 hv8 hv8 M _ h hT
                · have h := zt c24 h
                  refine j_goto hC dX2_findReductions_75 rfl ?_
                  exact J_153 v4 v8 hv4 hv8 M _ h hT
          exact main zN v4 v8 hv4 hv8 M hl
        intro v4 v5 hv4 hv5 M hl
        obtain ⟨o, h, hT⟩ := zloop_ex hl
        have h : F_X2_findReductions_B11 v1 v2 v3 v4 v5 M S = some o := by rw [ebd] at h; exact h
        unfold F_X2_findReductions_B11 at h
        refine j_iload hC 5 dX2_findReductions_11 rfl ?_
        refine j_aload_n hC 0 dX2_findReductions_13 rfl rfl ?_
        refine j_get hC dX2_findReductions_14 f_X2_35 (zFx_kd hF 5 rfl) rfl 3 rfl (fun hg25 => ?_)
        refine j_icmp_ge hC dX2_findReductions_17 rfl (w_id hv5) (w_id hg25) (fun c26 => ?_) (fun c26 => ?_)
        · have h := zf c26 h
          obtain rfl := Option.some.inj h
          have hx11 := hd11
          rw [← show _ = ex11 from hT] at hx11
          refine j_sub [4] rfl ?_
          exact J_165 v4 hv4 M hx11
        · have h := zt c26 h
          refine j_iload_n hC 3 dX2_findReductions_20 rfl rfl ?_
          refine j_aload_n hC 0 dX2_findReductions_21 rfl rfl ?_
          refine j_get hC dX2_findReductions_22 f_X2_23 (zFx_kd hF 5 rfl) rfl 5 rfl (fun hg27 => ?_)
          refine j_icmp_gt hC dX2_findReductions_25 rfl (w_id hv3) (w_id hg27) (fun c28 => ?_) (fun c28 => ?_)
          · have h := zt c28 h
            obtain rfl := Option.some.inj h
            have hx11 := hd11
            rw [← show _ = ex11 from hT] at hx11
            refine j_sub [4] rfl ?_
            exact J_165 v4 hv4 M hx11
          · have h := zf c28 h
            refine j_aload_n hC 0 dX2_findReductions_28 rfl rfl ?_
            refine j_iload hC 5 dX2_findReductions_29 rfl ?_
            obtain ⟨r29, hy, h⟩ := zb1_ex h
            refine j_callVr (ci := 2) hC hE lk_X2_52 dX2_findReductions_31 (c_X2_context l hlt g v5 hv5 M S hF hy) [.int (zi v5)] [] (zFx_kd hF 5 rfl) ⟨_, rfl, by decide, rfl⟩ rfl rfl rfl (Nat.le_of_ble_eq_true rfl) (Nat.le_of_ble_eq_true rfl) (Nat.le_of_ble_eq_true rfl) (Nat.le_of_ble_eq_true rfl) (Nat.le_of_ble_eq_true rfl) (fun hp30 => ?_)
            refine j_astore hC dX2_findReductions_34 (Nat.le_of_ble_eq_true rfl) rfl ?_
            refine j_aload hC 0 dX2_findReductions_36 rfl ?_
            refine j_ifnonnull hC dX2_findReductions_38 rfl (fun c31 => ?_) (fun c31 => ?_)
            · have h := zf c31 h
              refine j_iload_n hC 4 dX2_findReductions_44 rfl rfl ?_
              refine j_aload hC 0 dX2_findReductions_45 rfl ?_
              obtain ⟨hk, h⟩ := zchk_ex h
              have hk32 := hk
              obtain ⟨r33, hy, h⟩ := zb1_ex h
              refine j_callVi (ci := 0) hC hE lk_X2_61 dX2_findReductions_47 (c_X0_growth l hlt g r29 M S hF hy) [] [.int (zi v3)] hk32 ⟨_, rfl, by decide, rfl⟩ rfl rfl rfl (Nat.le_of_ble_eq_true rfl) (Nat.le_of_ble_eq_true rfl) (Nat.le_of_ble_eq_true rfl) (Nat.le_of_ble_eq_true rfl) (Nat.le_of_ble_eq_true rfl) (fun hp34 => ?_)
              have hr33 := hp34
              refine j_isub hC dX2_findReductions_50 ?_
              obtain ⟨x35, ex35, h⟩ := zlet_ex h
              have hx35 : inR x35 := by rw [ex35]; exact inR_w _
              refine j_namei ex35 ?_
              refine j_istore (lv1 := [(7, .int (zi x35)), (6, zr g r29), (0, zr g 5), (1, .int (zi v1)), (2, zr g v2), (3, .int (zi v3)), (4, .int (zi v4)), (5, .int (zi v5))]) hC dX2_findReductions_51 (Nat.le_of_ble_eq_true rfl) (by simp only [List.filter_cons, List.filter_nil, zr_cat]; rfl) ?_
              refine j_iconst hC dX2_findReductions_53 ?_
              refine j_istore hC dX2_findReductions_54 (Nat.le_of_ble_eq_true rfl) rfl ?_
              refine j_sub [3, 4, 5, 6, 7, 8, 2, 1, 0] rfl ?_
              exact L_56 v4 v5 r29 x35 0 hv4 hv5 hx35 kR_0 M _ h hT
            · have h := zt c31 h
              refine j_goto hC dX2_findReductions_41 rfl ?_
              refine j_sub [1, 2, 3, 4, 5, 6] rfl ?_
              exact J_159 v4 v5 hv4 hv5 M _ h hT
    exact main zN v4 v5 hv4 hv5 M hl
  refine j_iload_n hC 1 dX2_findReductions_0 rfl rfl ?_
  obtain ⟨r36, hy, h⟩ := zb1_ex h
  refine j_callSi hC hE lk_X2_56 dX2_findReductions_1 (c_X9_length l hlt g v1 hv1 M S hy) [.int (zi v1)] [] rfl rfl rfl (Nat.le_of_ble_eq_true rfl) (Nat.le_of_ble_eq_true rfl) (Nat.le_of_ble_eq_true rfl) (Nat.le_of_ble_eq_true rfl) (Nat.le_of_ble_eq_true rfl) (fun hp37 => ?_)
  have hr36 := hp37
  refine j_istore_n (lv1 := [(3, .int (zi r36)), (0, zr g 5), (1, .int (zi v1)), (2, zr g v2)]) hC dX2_findReductions_4 rfl (Nat.le_of_ble_eq_true rfl) (by simp only [List.filter_cons, List.filter_nil, zr_cat]; rfl) ?_
  refine j_iconst hC dX2_findReductions_5 ?_
  refine j_istore hC dX2_findReductions_6 (Nat.le_of_ble_eq_true rfl) rfl ?_
  refine j_iconst hC dX2_findReductions_8 ?_
  refine j_istore hC dX2_findReductions_9 (Nat.le_of_ble_eq_true rfl) rfl ?_
  refine j_sub [3, 4, 5, 2, 1, 0] rfl ?_
  exact L_11 v1 v2 r36 0 0 hv1 hr36 kR_0 kR_0 M h
set_option maxHeartbeats 4000000 in
set_option maxRecDepth 100000 in
theorem c_X3_forget (l : Launch) (hlt : l.stackTraces = false) (g : zG) (M : zM) (S : zS) (hF : zFx S) {M' : zM} (h : F_X3_forget M S = some M') : zMet l g yX3_forget cX3_forget 2 none 3 0 0 [zr g 11] M S (.inl none) M' S (True) := by
  refine zMet_of (by decide) hlt [(0, zr g 11)] rfl (Nat.le_of_ble_eq_true rfl) (fun K hC hE hN => ?_)
  unfold F_X3_forget at h
  have J_29 : ∀ (M : zM) (_ : F_X3_forget_J29 M S = some M'), zJ K g 0 0 29 2 [(0, zr g 11)] [] M S := by
    intro M h
    unfold F_X3_forget_J29 at h
    refine j_aload_n hC 0 dX3_forget_29 rfl rfl ?_
    refine j_getq (q := 17) hC dX3_forget_30 f_X3_30 (zFx_kd hF 11 rfl) rfl 5 rfl (zFx_rf hF 11 5 rfl) ?_
    refine j_iconst hC dX3_forget_33 ?_
    obtain ⟨M1, hy, h⟩ := zb1_ex h
    refine j_callSv hC hE lk_X3_115 dX3_forget_34 (c_J7_fill_53178 l hlt g 17 0 kR_0 M S hF hy) [zr g 17, .int (zi 0)] [] rfl rfl rfl (Nat.le_of_ble_eq_true rfl) (Nat.le_of_ble_eq_true rfl) (Nat.le_of_ble_eq_true rfl) (Nat.le_of_ble_eq_true rfl) (Nat.le_of_ble_eq_true rfl) (fun hp2 => ?_)
    refine j_aload_n hC 0 dX3_forget_37 rfl rfl ?_
    refine j_getq (q := 24) hC dX3_forget_38 f_X3_52 (zFx_kd hF 11 rfl) rfl 12 rfl (zFx_rf hF 11 12 rfl) ?_
    refine j_iconst hC dX3_forget_41 ?_
    obtain ⟨M3, hy, h⟩ := zb1_ex h
    refine j_callSv hC hE lk_X3_115 dX3_forget_42 (c_J7_fill_53178 l hlt g 24 0 kR_0 M1 S hF hy) [zr g 24, .int (zi 0)] [] rfl rfl rfl (Nat.le_of_ble_eq_true rfl) (Nat.le_of_ble_eq_true rfl) (Nat.le_of_ble_eq_true rfl) (Nat.le_of_ble_eq_true rfl) (Nat.le_of_ble_eq_true rfl) (fun hp4 => ?_)
    refine j_aload_n hC 0 dX3_forget_45 rfl rfl ?_
    refine j_iconst hC dX3_forget_46 ?_
    obtain ⟨M5, eM5, h⟩ := zlet_ex h
    refine j_put hC dX3_forget_47 f_X3_76 pF_X3 (zFx_kd hF 11 rfl) (Or.inl rfl) rfl 13 rfl (w_id kR_0) kR_0 eM5 ?_
    refine j_aload_n hC 0 dX3_forget_50 rfl rfl ?_
    refine j_iconst hC dX3_forget_51 ?_
    obtain ⟨M6, eM6, h⟩ := zlet_ex h
    refine j_put hC dX3_forget_52 f_X3_93 pF_X3 (zFx_kd hF 11 rfl) (Or.inl rfl) rfl 14 rfl (w_id kR_0) kR_0 eM6 ?_
    refine j_aload_n hC 0 dX3_forget_55 rfl rfl ?_
    refine j_iconst hC dX3_forget_56 ?_
    obtain ⟨M7, eM7, h⟩ := zlet_ex h
    refine j_put hC dX3_forget_57 f_X3_79 pF_X3 (zFx_kd hF 11 rfl) (Or.inr rfl) rfl 15 rfl (w_id kR_0) zb01_0 eM7 ?_
    refine j_aload_n hC 0 dX3_forget_60 rfl rfl ?_
    refine j_iconst hC dX3_forget_61 ?_
    obtain ⟨M8, eM8, h⟩ := zlet_ex h
    refine j_put hC dX3_forget_62 f_X3_121 pF_X3 (zFx_kd hF 11 rfl) (Or.inl rfl) rfl 16 rfl (w_id kR_0) kR_0 eM8 ?_
    refine j_aload_n hC 0 dX3_forget_65 rfl rfl ?_
    refine j_iconst hC dX3_forget_66 ?_
    obtain ⟨M9, eM9, h⟩ := zlet_ex h
    refine j_put hC dX3_forget_67 f_X3_124 pF_X3 (zFx_kd hF 11 rfl) (Or.inl rfl) rfl 17 rfl (w_id kR_m1) kR_m1 eM9 ?_
    have e1 := Option.some.inj h
    exact j_vret hC hE dX3_forget_70 rfl e1 rfl trivial (Nat.le_of_ble_eq_true rfl) (Nat.le_of_ble_eq_true rfl)
  have L_2 : ∀ (v1 : Int) (hv1 : inR v1) (M : zM) (_ : F_X3_forget_L2 v1 M S = some M'), zJ K g 0 0 2 2 [(0, zr g 11), (1, .int (zi v1))] [] M S := by
    intro v1 hv1 M h
    unfold F_X3_forget_L2 at h
    obtain ⟨ex2, hl, hd2⟩ := zb1_ex h
    obtain ⟨bd2, ebd⟩ : ∃ f, f = (fun (s : Int × zM) => F_X3_forget_B2 s.1 s.2 S) := ⟨_, rfl⟩
    rw [← ebd] at hl
    have main : ∀ (n2 : Nat) (v1 : Int) (hv1 : inR v1) (M : zM) (_ : zloop bd2 n2 (v1, M) = some ex2), zJ K g 0 0 2 2 [(0, zr g 11), (1, .int (zi v1))] [] M S := by
      intro n2
      induction n2 with
      | zero => intro v1 hv1 M hl; exact zloop_0 hl
      | succ n2 ih2 =>
        intro v1 hv1 M hl
        obtain ⟨o, h, hT⟩ := zloop_ex hl
        have h : F_X3_forget_B2 v1 M S = some o := by rw [ebd] at h; exact h
        unfold F_X3_forget_B2 at h
        refine j_iload_n hC 1 dX3_forget_2 rfl rfl ?_
        refine j_aload_n hC 0 dX3_forget_3 rfl rfl ?_
        refine j_get hC dX3_forget_4 f_X3_76 (zFx_kd hF 11 rfl) rfl 13 rfl (fun hg10 => ?_)
        refine j_icmp_ge hC dX3_forget_7 rfl (w_id hv1) (w_id hg10) (fun c11 => ?_) (fun c11 => ?_)
        · have h := zf c11 h
          obtain rfl := Option.some.inj h
          have hx2 := hd2
          rw [← show _ = ex2 from hT] at hx2
          refine j_sub [0] rfl ?_
          exact J_29 M hx2
        · have h := zt c11 h
          refine j_aload_n hC 0 dX3_forget_10 rfl rfl ?_
          refine j_getq (q := 13) hC dX3_forget_11 f_X3_15 (zFx_kd hF 11 rfl) rfl 1 rfl (zFx_rf hF 11 1 rfl) ?_
          refine j_aload_n hC 0 dX3_forget_14 rfl rfl ?_
          refine j_iload_n hC 1 dX3_forget_15 rfl rfl ?_
          obtain ⟨r12, hy, h⟩ := zb1_ex h
          refine j_callVi (ci := 3) hC hE lk_X3_83 dX3_forget_16 (c_X3_wordAt l hlt g v1 hv1 M S hF hy) [.int (zi v1)] [zr g 13] (zFx_kd hF 11 rfl) ⟨_, rfl, by decide, rfl⟩ rfl rfl rfl (Nat.le_of_ble_eq_true rfl) (Nat.le_of_ble_eq_true rfl) (Nat.le_of_ble_eq_true rfl) (Nat.le_of_ble_eq_true rfl) (Nat.le_of_ble_eq_true rfl) (fun hp13 => ?_)
          have hr12 := hp13
          refine j_iconst hC dX3_forget_19 ?_
          obtain ⟨M14, hy, h⟩ := zb1_ex h
          refine j_callSv hC hE lk_X3_96 dX3_forget_20 (c_X6_put l hlt g 13 r12 0 hr12 kR_0 M S hF hy) [zr g 13, .int (zi r12), .int (zi 0)] [] rfl rfl rfl (Nat.le_of_ble_eq_true rfl) (Nat.le_of_ble_eq_true rfl) (Nat.le_of_ble_eq_true rfl) (Nat.le_of_ble_eq_true rfl) (Nat.le_of_ble_eq_true rfl) (fun hp15 => ?_)
          obtain ⟨x16, ex16, h⟩ := zlet_ex h
          have hx16 : inR x16 := by rw [ex16]; exact inR_w _
          refine j_iinc hC 1 dX3_forget_23 rfl ex16 (Nat.le_of_ble_eq_true rfl) rfl ?_
          refine j_goto hC dX3_forget_26 rfl ?_
          obtain rfl := Option.some.inj h
          refine j_sub [1, 0] rfl ?_
          exact ih2 x16 hx16 M14 hT
    exact main zN v1 hv1 M hl
  refine j_iconst hC dX3_forget_0 ?_
  refine j_istore_n hC dX3_forget_1 rfl (Nat.le_of_ble_eq_true rfl) rfl ?_
  refine j_sub [1, 0] rfl ?_
  exact L_2 0 kR_0 M h
set_option maxHeartbeats 4000000 in
set_option maxRecDepth 100000 in
theorem c_X5_init (l : Launch) (hlt : l.stackTraces = false) (g : zG) (v0 : Nat) (M : zM) (S : zS) {M' : zM} {S' : zS} (h : F_X5_init v0 M S = some (M', S')) : zMet l g yX5_init cX5_init 1 none 2 14 61820 [zr g v0] M S (.inl none) M' S' (True) := by
  refine zMet_of (by decide) hlt [(0, zr g v0)] (by simp only [lv_args, zr_cat, zc_i, zc_l, zc_d, zc_r] <;> rfl) (by rw [zsl_len]; simp only [List.map_cons, List.map_nil, zr_cat, zc_i, zc_l, zc_d, zc_r, List.sum_cons, List.sum_nil] <;> decide) (fun K hC hE hN => ?_)
  unfold F_X5_init at h
  refine j_aload_n hC 0 dX5_init_0 rfl rfl ?_
  obtain ⟨c1, h⟩ := zchk_ex h
  refine j_objI hC hE dX5_init_1 k270 k121 k122 c1 (Nat.le_of_ble_eq_true rfl) (Nat.le_of_ble_eq_true rfl) ?_
  refine j_aload_n hC 0 dX5_init_4 rfl rfl ?_
  refine j_sipush hC dX5_init_5 rfl ?_
  obtain ⟨q2, eq2, h⟩ := zlet_ex h
  obtain ⟨S3, eS3, h⟩ := zlet_ex h
  refine j_newa20 (N := 512) (mx := 512) hC hE ka_20 dX5_init_8 (w_id kR_512) rfl (Nat.le_of_ble_eq_true rfl) (Nat.le_of_ble_eq_true rfl) eq2 eS3 (Nat.le_of_ble_eq_true rfl) (Nat.le_of_ble_eq_true rfl) ?_
  obtain ⟨hk, h⟩ := zchk_ex h
  have hk4 := hk
  obtain ⟨S5, eS5, h⟩ := zlet_ex h
  refine j_putq hC hE dX5_init_10 f_X5_9 pF_X5 hk4 rfl rfl rfl 0 rfl eS5 ?_
  refine j_aload_n hC 0 dX5_init_13 rfl rfl ?_
  refine j_iconst hC dX5_init_14 ?_
  obtain ⟨hk, h⟩ := zchk_ex h
  have hk6 := hk
  obtain ⟨M7, eM7, h⟩ := zlet_ex h
  refine j_put hC dX5_init_15 f_X5_13 pF_X5 hk6 (Or.inl rfl) rfl 2 rfl (w_id kR_m1) kR_m1 eM7 ?_
  refine j_aload_n hC 0 dX5_init_18 rfl rfl ?_
  refine j_sipush hC dX5_init_19 rfl ?_
  obtain ⟨q8, eq8, h⟩ := zlet_ex h
  obtain ⟨S9, eS9, h⟩ := zlet_ex h
  refine j_newa20 (N := 29524) (mx := 29524) hC hE ka_20 dX5_init_22 (w_id kR_29524) rfl (Nat.le_of_ble_eq_true rfl) (Nat.le_of_ble_eq_true rfl) eq8 eS9 (Nat.le_of_ble_eq_true rfl) (Nat.le_of_ble_eq_true rfl) ?_
  obtain ⟨hk, h⟩ := zchk_ex h
  have hk10 := hk
  obtain ⟨S11, eS11, h⟩ := zlet_ex h
  refine j_putq hC hE dX5_init_24 f_X5_19 pF_X5 hk10 rfl rfl rfl 3 rfl eS11 ?_
  refine j_aload_n hC 0 dX5_init_27 rfl rfl ?_
  refine j_sipush hC dX5_init_28 rfl ?_
  obtain ⟨q12, eq12, h⟩ := zlet_ex h
  obtain ⟨S13, eS13, h⟩ := zlet_ex h
  refine j_newa20 (N := 29524) (mx := 29524) hC hE ka_20 dX5_init_31 (w_id kR_29524) rfl (Nat.le_of_ble_eq_true rfl) (Nat.le_of_ble_eq_true rfl) eq12 eS13 (Nat.le_of_ble_eq_true rfl) (Nat.le_of_ble_eq_true rfl) ?_
  obtain ⟨hk, h⟩ := zchk_ex h
  have hk14 := hk
  obtain ⟨S15, eS15, h⟩ := zlet_ex h
  refine j_putq hC hE dX5_init_33 f_X5_22 pF_X5 hk14 rfl rfl rfl 5 rfl eS15 ?_
  refine j_aload_n hC 0 dX5_init_36 rfl rfl ?_
  refine j_iconst hC dX5_init_37 ?_
  obtain ⟨hk, h⟩ := zchk_ex h
  have hk16 := hk
  obtain ⟨M17, eM17, h⟩ := zlet_ex h
  refine j_put hC dX5_init_38 f_X5_25 pF_X5 hk16 (Or.inl rfl) rfl 6 rfl (w_id kR_0) kR_0 eM17 ?_
  refine j_aload_n hC 0 dX5_init_41 rfl rfl ?_
  refine j_bipush hC dX5_init_42 rfl ?_
  refine j_sipush hC dX5_init_44 rfl ?_
  obtain ⟨q18, eq18, h⟩ := zlet_ex h
  obtain ⟨S19, eS19, h⟩ := zlet_ex h
  refine j_multi (n1 := 10) (n2 := 225) hC hE mu_X5_30 dX5_init_47 (Nat.le_of_ble_eq_true rfl) (Nat.le_of_ble_eq_true rfl) eq18 eS19 (Nat.le_of_ble_eq_true rfl) (Nat.le_of_ble_eq_true rfl) ?_
  obtain ⟨hk, h⟩ := zchk_ex h
  have hk20 := hk
  obtain ⟨S21, eS21, h⟩ := zlet_ex h
  refine j_putq hC hE dX5_init_51 f_X5_32 pF_X5 hk20 rfl rfl rfl 7 rfl eS21 ?_
  obtain ⟨e1, e2⟩ := zpr2 (Option.some.inj h)
  exact j_vret hC hE dX5_init_54 rfl e1 e2 trivial (Nat.le_of_ble_eq_true rfl) (Nat.le_of_ble_eq_true rfl)
