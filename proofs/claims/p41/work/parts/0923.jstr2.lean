/-! CERTIFICATES: a program has written them (wip/p41/gen5.py) -/
set_option maxHeartbeats 4000000 in
set_option maxRecDepth 100000 in
theorem c_J5_init_d00df (l : Launch) (hlt : l.stackTraces = false) (g : zG) (v0 : Nat) (v1 : Int) (hv1 : inR v1) (M : zM) (S : zS) (hF : zFx S) {M' : zM} {S' : zS} (h : F_J5_init_d00df v0 v1 M S = some (M', S')) : zMet l g yJ5_init_d00df cJ5_init_d00df 2 none 3 1 100 [zr g v0, .int (zi v1)] M S (.inl none) M' S' (zFx S') := by
  refine zMet_of (by decide) hlt [(0, zr g v0), (1, .int (zi v1))] (by simp only [lv_args, zr_cat, zc_i, zc_l, zc_d, zc_r] <;> rfl) (by rw [zsl_len]; simp only [List.map_cons, List.map_nil, zr_cat, zc_i, zc_l, zc_d, zc_r, List.sum_cons, List.sum_nil] <;> decide) (fun K hC hE hN => ?_)
  unfold F_J5_init_d00df at h
  refine j_aload_n hC 0 dJ5_init_d00df_0 rfl rfl ?_
  obtain ⟨c1, h⟩ := zchk_ex h
  refine j_objI hC hE dJ5_init_d00df_1 k664 k79 k80 c1 (Nat.le_of_ble_eq_true rfl) (Nat.le_of_ble_eq_true rfl) ?_
  refine j_gcs hC dJ5_init_d00df_4 k665 ?_
  refine j_if_eq hC dJ5_init_d00df_7 rfl (w_id kR_1) (fun c2 => ?_) (fun c2 => ?_)
  · have h := zt c2 h
    cases h
  · have h := zf c2 h
    refine j_aload_n hC 0 dJ5_init_d00df_10 rfl rfl ?_
    refine j_iload_n hC 1 dJ5_init_d00df_11 rfl rfl ?_
    obtain ⟨c3, h⟩ := zchk_ex h
    obtain ⟨q4, eq4, h⟩ := zlet_ex h
    obtain ⟨S5, eS5, h⟩ := zlet_ex h
    refine j_newa24 (N := v1.toNat) (mx := 100) hC hE ka_24 dJ5_init_d00df_12 (w_id hv1) (Int.toNat_of_nonneg c3.1) (by omega) (Nat.le_of_ble_eq_true rfl) eq4 eS5 (Or.inr ⟨zFx_cnt hF, (by omega)⟩) (Nat.le_of_ble_eq_true rfl) (Nat.le_of_ble_eq_true rfl) ?_
    have hF6 : zFx S5 := zFx_zn hF eS5
    obtain ⟨hk, h⟩ := zchk_ex h
    have hk7 := hk
    obtain ⟨c8, h⟩ := zchk_ex h
    obtain ⟨S9, eS9, h⟩ := zlet_ex h
    refine j_putqN hC dJ5_init_d00df_14 f_J5_15 pF_J4 hk7 rfl rfl 0 rfl eS9 ?_
    have hF10 : zFx S9 := zFx_aq hF6 eS9 (zRT_big c8)
    refine j_aload_n hC 0 dJ5_init_d00df_17 rfl rfl ?_
    refine j_iconst hC dJ5_init_d00df_18 ?_
    obtain ⟨hk, h⟩ := zchk_ex h
    have hk11 := hk
    obtain ⟨c12, h⟩ := zchk_ex h
    obtain ⟨M13, eM13, h⟩ := zlet_ex h
    refine j_put hC dJ5_init_d00df_19 f_J5_22 pF_J4 hk11 (Or.inr (Or.inr rfl)) rfl 1 rfl (w_id kR_0) c12 eM13 ?_
    refine j_goto hC dJ5_init_d00df_22 rfl ?_
    obtain ⟨e1, e2⟩ := zpr2 (Option.some.inj h)
    exact j_vret hC hE dJ5_init_d00df_38 rfl e1 e2 (by rw [← e2]; exact hF10) (Nat.le_of_ble_eq_true rfl) (Nat.le_of_ble_eq_true rfl)
set_option maxHeartbeats 4000000 in
set_option maxRecDepth 100000 in
theorem c_J5_length_8abf5 (l : Launch) (hlt : l.stackTraces = false) (g : zG) (v0 : Nat) (M : zM) (S : zS) (hF : zFx S) {r : Int} (h : F_J5_length_8abf5 v0 M S = some r) : zMet l g yJ5_length_8abf5 cJ5_length_8abf5 1 (some .int) 1 0 0 [zr g v0] M S (.inl (some (.int (zi r)))) M S (inR r) := by
  refine zMet_of (by decide) hlt [(0, zr g v0)] (by simp only [lv_args, zr_cat, zc_i, zc_l, zc_d, zc_r] <;> rfl) (by rw [zsl_len]; simp only [List.map_cons, List.map_nil, zr_cat, zc_i, zc_l, zc_d, zc_r, List.sum_cons, List.sum_nil] <;> decide) (fun K hC hE hN => ?_)
  unfold F_J5_length_8abf5 at h
  refine j_aload_n hC 0 dJ5_length_8abf5_0 rfl rfl ?_
  obtain ⟨hk, h⟩ := zchk_ex h
  have hk1 := hk
  refine j_get hC dJ5_length_8abf5_1 f_J5_79 hk1 rfl 3 rfl (fun hg2 => ?_)
  have e1 := Option.some.inj h
  exact j_iret hC hE dJ5_length_8abf5_4 (w_id hg2) (zn_i _) (by rw [← e1]) rfl rfl (by rw [← e1]; exact hg2) (Nat.le_of_ble_eq_true rfl) (Nat.le_of_ble_eq_true rfl)
set_option maxHeartbeats 4000000 in
set_option maxRecDepth 100000 in
theorem c_J8_newLength_cabcc (l : Launch) (hlt : l.stackTraces = false) (g : zG) (v0 : Int) (v1 : Int) (v2 : Int) (hv0 : inR v0) (hv1 : inR v1) (hv2 : inR v2) (M : zM) (S : zS) {r : Int} (h : F_J8_newLength_cabcc v0 v1 v2 = some r) : zMet l g yJ8_newLength_cabcc cJ8_newLength_cabcc 4 (some .int) 3 0 0 [.int (zi v0), .int (zi v1), .int (zi v2)] M S (.inl (some (.int (zi r)))) M S (inR r) := by
  refine zMet_of (by decide) hlt [(0, .int (zi v0)), (1, .int (zi v1)), (2, .int (zi v2))] rfl (Nat.le_of_ble_eq_true rfl) (fun K hC hE hN => ?_)
  unfold F_J8_newLength_cabcc at h
  refine j_iload_n hC 0 dJ8_newLength_cabcc_0 rfl rfl ?_
  refine j_iload_n hC 1 dJ8_newLength_cabcc_1 rfl rfl ?_
  refine j_iload_n hC 2 dJ8_newLength_cabcc_2 rfl rfl ?_
  refine j_mmax hC hE lk_J8_194 dJ8_newLength_cabcc_3 (w_id hv1) (w_id hv2) (Nat.le_of_ble_eq_true rfl) (Nat.le_of_ble_eq_true rfl) (Nat.le_of_ble_eq_true rfl) (Nat.le_of_ble_eq_true rfl) ?_
  refine j_iadd hC dJ8_newLength_cabcc_6 ?_
  obtain ⟨x1, ex1, h⟩ := zlet_ex h
  have hx1 : inR x1 := by rw [ex1]; exact inR_w _
  refine j_namei ex1 ?_
  refine j_istore_n hC dJ8_newLength_cabcc_7 rfl (Nat.le_of_ble_eq_true rfl) rfl ?_
  refine j_iconst hC dJ8_newLength_cabcc_8 ?_
  refine j_iload_n hC 0 dJ8_newLength_cabcc_9 rfl rfl ?_
  refine j_icmp_ge hC dJ8_newLength_cabcc_10 rfl (w_id kR_0) (w_id hx1) (fun c2 => ?_) (fun c2 => ?_)
  · have h := zf c2 h
    cases h
  · have h := zt c2 h
    refine j_iload_n hC 0 dJ8_newLength_cabcc_13 rfl rfl ?_
    refine j_ldc (n := 2147483639) hC dJ8_newLength_cabcc_14 k713 rfl ?_
    refine j_icmp_gt hC dJ8_newLength_cabcc_16 rfl (w_id hx1) (w_id kR_2147483639) (fun c3 => ?_) (fun c3 => ?_)
    · have h := zt c3 h
      cases h
    · have h := zf c3 h
      refine j_iload_n hC 0 dJ8_newLength_cabcc_19 rfl rfl ?_
      have e1 := Option.some.inj h
      exact j_iret hC hE dJ8_newLength_cabcc_20 (w_id hx1) (zn_i _) (by rw [← e1]) rfl rfl (by rw [← e1]; exact hx1) (Nat.le_of_ble_eq_true rfl) (Nat.le_of_ble_eq_true rfl)
set_option maxHeartbeats 4000000 in
set_option maxRecDepth 100000 in
theorem c_J5_newCapacity_0f7a4 (l : Launch) (hlt : l.stackTraces = false) (g : zG) (v0 : Nat) (v1 : Int) (hv1 : inR v1) (M : zM) (S : zS) (hF : zFx S) {r : Int} (h : F_J5_newCapacity_0f7a4 v0 v1 M S = some r) : zMet l g yJ5_newCapacity_0f7a4 cJ5_newCapacity_0f7a4 6 (some .int) 4 0 0 [zr g v0, .int (zi v1)] M S (.inl (some (.int (zi r)))) M S (inR r) := by
  refine zMet_of (by decide) hlt [(0, zr g v0), (1, .int (zi v1))] (by simp only [lv_args, zr_cat, zc_i, zc_l, zc_d, zc_r] <;> rfl) (by rw [zsl_len]; simp only [List.map_cons, List.map_nil, zr_cat, zc_i, zc_l, zc_d, zc_r, List.sum_cons, List.sum_nil] <;> decide) (fun K hC hE hN => ?_)
  unfold F_J5_newCapacity_0f7a4 at h
  refine j_aload_n hC 0 dJ5_newCapacity_0f7a4_0 rfl rfl ?_
  obtain ⟨hk, h⟩ := zchk_ex h
  have hk1 := hk
  refine j_getq hC dJ5_newCapacity_0f7a4_1 f_J5_15 hk1 rfl 0 rfl rfl ?_
  obtain ⟨hk, h⟩ := zchk_ex h
  have hk2 := hk
  refine j_alen (k := 24) (n := (zlen S (zrf S v0 0))) hC dJ5_newCapacity_0f7a4_4 hk2 (Nat.le_of_ble_eq_true rfl) (Nat.le_of_ble_eq_true rfl) rfl (fun hl3 => ?_)
  obtain ⟨x4, ex4, h⟩ := zlet_ex h
  have hx4 : inR x4 := by rw [ex4]; exact hl3
  refine j_names ex4 ?_
  refine j_istore_n hC dJ5_newCapacity_0f7a4_5 rfl (Nat.le_of_ble_eq_true rfl) rfl ?_
  refine j_iload_n hC 2 dJ5_newCapacity_0f7a4_6 rfl rfl ?_
  refine j_aload_n hC 1 dJ5_newCapacity_0f7a4_7 rfl rfl ?_
  obtain ⟨hk, h⟩ := zchk_ex h
  have hk5 := hk
  refine j_get hC dJ5_newCapacity_0f7a4_8 f_J5_22 hk5 rfl 1 rfl (fun hg6 => ?_)
  refine j_ishl hC dJ5_newCapacity_0f7a4_11 ?_
  obtain ⟨x7, ex7, h⟩ := zlet_ex h
  have hx7 : inR x7 := by rw [ex7]; exact (cR_zshl _ _)
  refine j_names ex7 ?_
  refine j_istore_n hC dJ5_newCapacity_0f7a4_12 rfl (Nat.le_of_ble_eq_true rfl) rfl ?_
  refine j_iload_n hC 0 dJ5_newCapacity_0f7a4_13 rfl rfl ?_
  refine j_iload_n hC 1 dJ5_newCapacity_0f7a4_14 rfl rfl ?_
  refine j_isub hC dJ5_newCapacity_0f7a4_15 ?_
  obtain ⟨x8, ex8, h⟩ := zlet_ex h
  have hx8 : inR x8 := by rw [ex8]; exact inR_w _
  refine j_namei ex8 ?_
  refine j_istore hC dJ5_newCapacity_0f7a4_16 (Nat.le_of_ble_eq_true rfl) rfl ?_
  refine j_iload_n hC 2 dJ5_newCapacity_0f7a4_18 rfl rfl ?_
  refine j_iload hC 0 dJ5_newCapacity_0f7a4_19 rfl ?_
  refine j_iload_n hC 2 dJ5_newCapacity_0f7a4_21 rfl rfl ?_
  refine j_iconst hC dJ5_newCapacity_0f7a4_22 ?_
  refine j_aload_n hC 3 dJ5_newCapacity_0f7a4_23 rfl rfl ?_
  obtain ⟨hk, h⟩ := zchk_ex h
  have hk9 := hk
  refine j_get hC dJ5_newCapacity_0f7a4_24 f_J5_22 hk9 rfl 1 rfl (fun hg10 => ?_)
  refine j_ishl hC dJ5_newCapacity_0f7a4_27 ?_
  refine j_iadd hC dJ5_newCapacity_0f7a4_28 ?_
  obtain ⟨r11, hy, h⟩ := zb1_ex h
  refine j_callSi hC hE lk_J5_114 dJ5_newCapacity_0f7a4_29 (c_J8_newLength_cabcc l hlt g x4 x8 (w (x4 + (zshl 2 (M v0 1)))) hx4 hx8 (inR_w _) M S hy) [.int (zi x4), .int (zi x8), .int (zi (x4 + (zshl 2 (M v0 1))))] [] rfl (by simp only [zi_w, zl_wl]) rfl (zcat (Nat.le_of_ble_eq_true rfl)) (Nat.le_of_ble_eq_true rfl) (Nat.le_of_ble_eq_true rfl) (Nat.le_of_ble_eq_true rfl) (Nat.le_of_ble_eq_true rfl) (fun hp12 => ?_)
  have hr11 := hp12
  refine j_istore hC dJ5_newCapacity_0f7a4_32 (Nat.le_of_ble_eq_true rfl) rfl ?_
  refine j_iload hC 0 dJ5_newCapacity_0f7a4_34 rfl ?_
  refine j_ldc (n := 2147483647) hC dJ5_newCapacity_0f7a4_36 k717 rfl ?_
  refine j_icmp_ne hC dJ5_newCapacity_0f7a4_38 rfl (w_id hr11) (w_id kR_2147483647) (fun c13 => ?_) (fun c13 => ?_)
  · have h := zf c13 h
    refine j_iload hC 0 dJ5_newCapacity_0f7a4_51 rfl ?_
    refine j_aload_n hC 4 dJ5_newCapacity_0f7a4_53 rfl rfl ?_
    obtain ⟨hk, h⟩ := zchk_ex h
    have hk14 := hk
    refine j_get hC dJ5_newCapacity_0f7a4_54 f_J5_22 hk14 rfl 1 rfl (fun hg15 => ?_)
    refine j_ishr hC dJ5_newCapacity_0f7a4_57 ?_
    have e1 := Option.some.inj h
    exact j_iret hC hE dJ5_newCapacity_0f7a4_58 (w_id (cR_zshr _ _)) (zn_i _) (by rw [← e1]) rfl rfl (by rw [← e1]; exact (cR_zshr _ _)) (Nat.le_of_ble_eq_true rfl) (Nat.le_of_ble_eq_true rfl)
  · have h := zt c13 h
    cases h
set_option maxHeartbeats 4000000 in
set_option maxRecDepth 100000 in
theorem c_J7_copyOf_9075b (l : Launch) (hlt : l.stackTraces = false) (g : zG) (v0 : Nat) (v1 : Int) (hv1 : inR v1) (M : zM) (S : zS) (hF : zFx S) {r : Nat} {M' : zM} {S' : zS} (h : F_J7_copyOf_9075b v0 v1 M S = some (r, M', S')) : zMet l g yJ7_copyOf_9075b cJ7_copyOf_9075b 3 (some (.array .byte)) 3 1 100 [zr g v0, .int (zi v1)] M S (.inl (some (zr g r))) M' S' (zFx S') := by
  refine zMet_of (by decide) hlt [(0, zr g v0), (1, .int (zi v1))] (by simp only [lv_args, zr_cat, zc_i, zc_l, zc_d, zc_r] <;> rfl) (by rw [zsl_len]; simp only [List.map_cons, List.map_nil, zr_cat, zc_i, zc_l, zc_d, zc_r, List.sum_cons, List.sum_nil] <;> decide) (fun K hC hE hN => ?_)
  unfold F_J7_copyOf_9075b at h
  refine j_iload_n hC 1 dJ7_copyOf_9075b_0 rfl rfl ?_
  refine j_aload_n hC 0 dJ7_copyOf_9075b_1 rfl rfl ?_
  obtain ⟨hk, h⟩ := zchk_ex h
  have hk1 := hk
  refine j_alen (k := 24) (n := (zlen S v0)) hC dJ7_copyOf_9075b_2 hk1 (Nat.le_of_ble_eq_true rfl) (Nat.le_of_ble_eq_true rfl) rfl (fun hl2 => ?_)
  refine j_icmp_ne hC dJ7_copyOf_9075b_3 rfl (w_id hv1) (w_id hl2) (fun c3 => ?_) (fun c3 => ?_)
  · have h := zf c3 h
    refine j_iload_n hC 1 dJ7_copyOf_9075b_14 rfl rfl ?_
    obtain ⟨c4, h⟩ := zchk_ex h
    obtain ⟨q5, eq5, h⟩ := zlet_ex h
    obtain ⟨S6, eS6, h⟩ := zlet_ex h
    refine j_newa24 (N := v1.toNat) (mx := 100) hC hE ka_24 dJ7_copyOf_9075b_15 (w_id hv1) (Int.toNat_of_nonneg c4.1) (by omega) (Nat.le_of_ble_eq_true rfl) eq5 eS6 (Or.inr ⟨zFx_cnt hF, (by omega)⟩) (Nat.le_of_ble_eq_true rfl) (Nat.le_of_ble_eq_true rfl) ?_
    have hF7 : zFx S6 := zFx_zn hF eS6
    refine j_astore_n hC dJ7_copyOf_9075b_17 rfl (Nat.le_of_ble_eq_true rfl) rfl ?_
    refine j_aload_n hC 1 dJ7_copyOf_9075b_18 rfl rfl ?_
    refine j_iconst hC dJ7_copyOf_9075b_19 ?_
    refine j_aload_n hC 0 dJ7_copyOf_9075b_20 rfl rfl ?_
    refine j_iconst hC dJ7_copyOf_9075b_21 ?_
    refine j_aload_n hC 1 dJ7_copyOf_9075b_22 rfl rfl ?_
    obtain ⟨hk, h⟩ := zchk_ex h
    have hk8 := hk
    refine j_alen (k := 24) (n := (zlen S6 v0)) hC dJ7_copyOf_9075b_23 hk8 (Nat.le_of_ble_eq_true rfl) (Nat.le_of_ble_eq_true rfl) rfl (fun hl9 => ?_)
    refine j_iload_n hC 2 dJ7_copyOf_9075b_24 rfl rfl ?_
    refine j_mmin hC hE lk_J7_304 dJ7_copyOf_9075b_25 (w_id hl9) (w_id hv1) (Nat.le_of_ble_eq_true rfl) (Nat.le_of_ble_eq_true rfl) (Nat.le_of_ble_eq_true rfl) (Nat.le_of_ble_eq_true rfl) ?_
    obtain ⟨hk, h⟩ := zchk_ex h
    have hk10 := hk
    obtain ⟨hk, h⟩ := zchk_ex h
    have hk11 := hk
    obtain ⟨c12, h⟩ := zchk_ex h
    obtain ⟨M13, eM13, h⟩ := zlet_ex h
    refine j_copyB (l1 := (zlen S6 v0)) (l2 := (zlen S6 q5)) hC hE lk_J7_150 dJ7_copyOf_9075b_28 hk10 hk11 rfl rfl (w_id kR_0) (w_id kR_0) (w_id (cR_zmin hl9 hv1)) c12 eM13 (Nat.le_of_ble_eq_true rfl) (Nat.le_of_ble_eq_true rfl) ?_
    refine j_aload_n hC 0 dJ7_copyOf_9075b_31 rfl rfl ?_
    obtain ⟨e1, e2, e3⟩ := zpr3 (Option.some.inj h)
    exact j_aret hC hE dJ7_copyOf_9075b_32 (by rw [← e1]) e2 e3 (by rw [← e3]; exact hF7) (Nat.le_of_ble_eq_true rfl) (Nat.le_of_ble_eq_true rfl)
  · have h := zt c3 h
    refine j_aload_n hC 0 dJ7_copyOf_9075b_6 rfl rfl ?_
    obtain ⟨hk, h⟩ := zchk_ex h
    have hk14 := hk
    obtain ⟨c15, h⟩ := zchk_ex h
    obtain ⟨q16, eq16, h⟩ := zlet_ex h
    obtain ⟨S17, eS17, h⟩ := zlet_ex h
    obtain ⟨M18, eM18, h⟩ := zlet_ex h
    refine j_cloneB hC hE lk_J7_310 dJ7_copyOf_9075b_7 hk14 c15 eq16 eS17 eM18 (Or.inr ⟨zFx_cnt hF, (by omega)⟩) (Nat.le_of_ble_eq_true rfl) (Nat.le_of_ble_eq_true rfl) (Nat.le_of_ble_eq_true rfl) (Nat.le_of_ble_eq_true rfl) ?_
    have hF19 : zFx S17 := zFx_zn hF eS17
    obtain ⟨hk, h⟩ := zchk_ex h
    have hk20 := hk
    refine j_ckcastB hC ca_J7_311 dJ7_copyOf_9075b_10 hk20 ?_
    obtain ⟨e1, e2, e3⟩ := zpr3 (Option.some.inj h)
    exact j_aret hC hE dJ7_copyOf_9075b_13 (by rw [← e1]) e2 e3 (by rw [← e3]; exact hF19) (Nat.le_of_ble_eq_true rfl) (Nat.le_of_ble_eq_true rfl)
set_option maxHeartbeats 4000000 in
set_option maxRecDepth 100000 in
theorem c_J5_ensureCapacityInternal_d00df (l : Launch) (hlt : l.stackTraces = false) (g : zG) (v0 : Nat) (v1 : Int) (hv1 : inR v1) (M : zM) (S : zS) (hF : zFx S) {M' : zM} {S' : zS} (h : F_J5_ensureCapacityInternal_d00df v0 v1 M S = some (M', S')) : zMet l g yJ5_ensureCapacityInternal_d00df cJ5_ensureCapacityInternal_d00df 3 none 5 1 100 [zr g v0, .int (zi v1)] M S (.inl none) M' S' (zFx S') := by
  refine zMet_of (by decide) hlt [(0, zr g v0), (1, .int (zi v1))] (by simp only [lv_args, zr_cat, zc_i, zc_l, zc_d, zc_r] <;> rfl) (by rw [zsl_len]; simp only [List.map_cons, List.map_nil, zr_cat, zc_i, zc_l, zc_d, zc_r, List.sum_cons, List.sum_nil] <;> decide) (fun K hC hE hN => ?_)
  unfold F_J5_ensureCapacityInternal_d00df at h
  refine j_aload_n hC 0 dJ5_ensureCapacityInternal_d00df_0 rfl rfl ?_
  obtain ⟨hk, h⟩ := zchk_ex h
  have hk1 := hk
  refine j_getq hC dJ5_ensureCapacityInternal_d00df_1 f_J5_15 hk1 rfl 0 rfl rfl ?_
  obtain ⟨hk, h⟩ := zchk_ex h
  have hk2 := hk
  refine j_alen (k := 24) (n := (zlen S (zrf S v0 0))) hC dJ5_ensureCapacityInternal_d00df_4 hk2 (Nat.le_of_ble_eq_true rfl) (Nat.le_of_ble_eq_true rfl) rfl (fun hl3 => ?_)
  refine j_aload_n hC 0 dJ5_ensureCapacityInternal_d00df_5 rfl rfl ?_
  obtain ⟨hk, h⟩ := zchk_ex h
  have hk4 := hk
  refine j_get hC dJ5_ensureCapacityInternal_d00df_6 f_J5_22 hk4 rfl 1 rfl (fun hg5 => ?_)
  refine j_ishr hC dJ5_ensureCapacityInternal_d00df_9 ?_
  obtain ⟨x6, ex6, h⟩ := zlet_ex h
  have hx6 : inR x6 := by rw [ex6]; exact (cR_zshr _ _)
  refine j_names ex6 ?_
  refine j_istore_n hC dJ5_ensureCapacityInternal_d00df_10 rfl (Nat.le_of_ble_eq_true rfl) rfl ?_
  refine j_iload_n hC 2 dJ5_ensureCapacityInternal_d00df_11 rfl rfl ?_
  refine j_iload_n hC 0 dJ5_ensureCapacityInternal_d00df_12 rfl rfl ?_
  refine j_isub hC dJ5_ensureCapacityInternal_d00df_13 ?_
  refine j_if_le hC dJ5_ensureCapacityInternal_d00df_14 rfl rfl (fun c7 => ?_) (fun c7 => ?_)
  · have h := zf c7 h
    obtain ⟨e1, e2⟩ := zpr2 (Option.some.inj h)
    exact j_vret hC hE dJ5_ensureCapacityInternal_d00df_38 rfl e1 e2 (by rw [← e2]; exact hF) (Nat.le_of_ble_eq_true rfl) (Nat.le_of_ble_eq_true rfl)
  · have h := zt c7 h
    refine j_aload_n hC 1 dJ5_ensureCapacityInternal_d00df_17 rfl rfl ?_
    refine j_aload_n hC 1 dJ5_ensureCapacityInternal_d00df_18 rfl rfl ?_
    obtain ⟨hk, h⟩ := zchk_ex h
    have hk8 := hk
    refine j_getq hC dJ5_ensureCapacityInternal_d00df_19 f_J5_15 hk8 rfl 0 rfl rfl ?_
    refine j_aload_n hC 1 dJ5_ensureCapacityInternal_d00df_22 rfl rfl ?_
    refine j_iload_n hC 2 dJ5_ensureCapacityInternal_d00df_23 rfl rfl ?_
    obtain ⟨hk, h⟩ := zchk_ex h
    have hk9 := hk
    obtain ⟨r10, hy, h⟩ := zb1_ex h
    refine j_callUi (ci := 8) hC hE lk_J5_104 dJ5_ensureCapacityInternal_d00df_24 (c_J5_newCapacity_0f7a4 l hlt g v0 v1 hv1 M S hF hy) [.int (zi v1)] [zr g (zrf S v0 0), zr g v0] hk9 ⟨_, rfl, by decide⟩ rfl rfl rfl (zcat (Nat.le_of_ble_eq_true rfl)) (Nat.le_of_ble_eq_true rfl) (Nat.le_of_ble_eq_true rfl) (Nat.le_of_ble_eq_true rfl) (Nat.le_of_ble_eq_true rfl) (fun hp11 => ?_)
    have hr10 := hp11
    refine j_aload_n hC 1 dJ5_ensureCapacityInternal_d00df_27 rfl rfl ?_
    obtain ⟨hk, h⟩ := zchk_ex h
    have hk12 := hk
    refine j_get hC dJ5_ensureCapacityInternal_d00df_28 f_J5_22 hk12 rfl 1 rfl (fun hg13 => ?_)
    refine j_ishl hC dJ5_ensureCapacityInternal_d00df_31 ?_
    obtain ⟨r14, M15, S16, hy, h⟩ := zb3_ex h
    refine j_callSr hC hE lk_J5_108 dJ5_ensureCapacityInternal_d00df_32 (c_J7_copyOf_9075b l hlt g (zrf S v0 0) (zshl r10 (M v0 1)) (cR_zshl _ _) M S hF hy) [zr g (zrf S v0 0), .int (zi (zshl r10 (M v0 1)))] [zr g v0] rfl rfl rfl (zcat (Nat.le_of_ble_eq_true rfl)) (Nat.le_of_ble_eq_true rfl) (Nat.le_of_ble_eq_true rfl) (Nat.le_of_ble_eq_true rfl) (Nat.le_of_ble_eq_true rfl) (fun hp17 => ?_)
    have hF18 := hp17
    obtain ⟨hk, h⟩ := zchk_ex h
    have hk19 := hk
    obtain ⟨c20, h⟩ := zchk_ex h
    obtain ⟨S21, eS21, h⟩ := zlet_ex h
    refine j_putqN hC dJ5_ensureCapacityInternal_d00df_35 f_J5_15 pF_J4 hk19 rfl rfl 0 rfl eS21 ?_
    have hF22 : zFx S21 := zFx_aq hF18 eS21 (zRT_big c20)
    obtain ⟨e1, e2⟩ := zpr2 (Option.some.inj h)
    exact j_vret hC hE dJ5_ensureCapacityInternal_d00df_38 rfl e1 e2 (by rw [← e2]; exact hF22) (Nat.le_of_ble_eq_true rfl) (Nat.le_of_ble_eq_true rfl)
set_option maxHeartbeats 4000000 in
set_option maxRecDepth 100000 in
theorem c_J5_inflateIfNeededFor_a7421 (l : Launch) (hlt : l.stackTraces = false) (g : zG) (v0 : Nat) (v1 : Nat) (M : zM) (S : zS) (hF : zFx S) (h : F_J5_inflateIfNeededFor_a7421 v0 v1 M S = some ()) : zMet l g yJ5_inflateIfNeededFor_a7421 cJ5_inflateIfNeededFor_a7421 2 none 8 0 0 [zr g v0, zr g v1] M S (.inl none) M S (True) := by
  refine zMet_of (by decide) hlt [(0, zr g v0), (1, zr g v1)] (by simp only [lv_args, zr_cat, zc_i, zc_l, zc_d, zc_r] <;> rfl) (by rw [zsl_len]; simp only [List.map_cons, List.map_nil, zr_cat, zc_i, zc_l, zc_d, zc_r, List.sum_cons, List.sum_nil] <;> decide) (fun K hC hE hN => ?_)
  unfold F_J5_inflateIfNeededFor_a7421 at h
  refine j_gcs hC dJ5_inflateIfNeededFor_a7421_0 k665 ?_
  refine j_if_eq hC dJ5_inflateIfNeededFor_a7421_3 rfl (w_id kR_1) (fun c1 => ?_) (fun c1 => ?_)
  · have h := zt c1 h
    exact j_vret hC hE dJ5_inflateIfNeededFor_a7421_21 rfl rfl rfl trivial (Nat.le_of_ble_eq_true rfl) (Nat.le_of_ble_eq_true rfl)
  · have h := zf c1 h
    refine j_aload_n hC 0 dJ5_inflateIfNeededFor_a7421_6 rfl rfl ?_
    obtain ⟨hk, h⟩ := zchk_ex h
    have hk2 := hk
    refine j_get hC dJ5_inflateIfNeededFor_a7421_7 f_J5_22 hk2 rfl 1 rfl (fun hg3 => ?_)
    refine j_aload_n hC 1 dJ5_inflateIfNeededFor_a7421_10 rfl rfl ?_
    obtain ⟨r4, hy, h⟩ := zb1_ex h
    refine j_codM hC hE hlt hF lk_J5_40 dJ5_inflateIfNeededFor_a7421_11 hy (Nat.le_of_ble_eq_true rfl) (Nat.le_of_ble_eq_true rfl) (Nat.le_of_ble_eq_true rfl) (Nat.le_of_ble_eq_true rfl) (fun hr4 => ?_)
    refine j_icmp_eq hC dJ5_inflateIfNeededFor_a7421_14 rfl (w_id hg3) (w_id hr4) (fun c5 => ?_) (fun c5 => ?_)
    · have h := zt c5 h
      exact j_vret hC hE dJ5_inflateIfNeededFor_a7421_21 rfl rfl rfl trivial (Nat.le_of_ble_eq_true rfl) (Nat.le_of_ble_eq_true rfl)
    · have h := zf c5 h
      cases h
set_option maxHeartbeats 4000000 in
set_option maxRecDepth 100000 in
theorem c_J5_putStringAt_47b60 (l : Launch) (hlt : l.stackTraces = false) (g : zG) (v0 : Nat) (v1 : Int) (v2 : Nat) (hv1 : inR v1) (M : zM) (S : zS) (hF : zFx S) {M' : zM} (h : F_J5_putStringAt_47b60 v0 v1 v2 M S = some M') : zMet l g yJ5_putStringAt_47b60 cJ5_putStringAt_47b60 3 none 9 0 0 [zr g v0, .int (zi v1), zr g v2] M S (.inl none) M' S (True) := by
  refine zMet_of (by decide) hlt [(0, zr g v0), (1, .int (zi v1)), (2, zr g v2)] (by simp only [lv_args, zr_cat, zc_i, zc_l, zc_d, zc_r] <;> rfl) (by rw [zsl_len]; simp only [List.map_cons, List.map_nil, zr_cat, zc_i, zc_l, zc_d, zc_r, List.sum_cons, List.sum_nil] <;> decide) (fun K hC hE hN => ?_)
  unfold F_J5_putStringAt_47b60 at h
  refine j_aload_n hC 0 dJ5_putStringAt_47b60_0 rfl rfl ?_
  refine j_aload_n hC 2 dJ5_putStringAt_47b60_1 rfl rfl ?_
  obtain ⟨hk, h⟩ := zchk_ex h
  have hk1 := hk
  obtain ⟨_, hy, h⟩ := zb1_ex h
  refine j_callUv (ci := 8) hC hE lk_J5_397 dJ5_putStringAt_47b60_2 (c_J5_inflateIfNeededFor_a7421 l hlt g v0 v2 M S hF hy) [zr g v2] [] hk1 ⟨_, rfl, by decide⟩ rfl rfl rfl (zcat (Nat.le_of_ble_eq_true rfl)) (Nat.le_of_ble_eq_true rfl) (Nat.le_of_ble_eq_true rfl) (Nat.le_of_ble_eq_true rfl) (Nat.le_of_ble_eq_true rfl) (fun hp2 => ?_)
  refine j_aload_n hC 2 dJ5_putStringAt_47b60_5 rfl rfl ?_
  refine j_aload_n hC 0 dJ5_putStringAt_47b60_6 rfl rfl ?_
  obtain ⟨hk, h⟩ := zchk_ex h
  have hk3 := hk
  refine j_getq hC dJ5_putStringAt_47b60_7 f_J5_15 hk3 rfl 0 rfl rfl ?_
  refine j_iload_n hC 1 dJ5_putStringAt_47b60_10 rfl rfl ?_
  refine j_aload_n hC 0 dJ5_putStringAt_47b60_11 rfl rfl ?_
  obtain ⟨hk, h⟩ := zchk_ex h
  have hk4 := hk
  refine j_get hC dJ5_putStringAt_47b60_12 f_J5_22 hk4 rfl 1 rfl (fun hg5 => ?_)
  obtain ⟨M6, hy, h⟩ := zb1_ex h
  refine j_gbyM hC hE hlt hF lk_J5_399 dJ5_putStringAt_47b60_15 (w_id hv1) (w_id hg5) hy (Nat.le_of_ble_eq_true rfl) (Nat.le_of_ble_eq_true rfl) (Nat.le_of_ble_eq_true rfl) (Nat.le_of_ble_eq_true rfl) ?_
  have e1 := Option.some.inj h
  exact j_vret hC hE dJ5_putStringAt_47b60_18 rfl e1 rfl trivial (Nat.le_of_ble_eq_true rfl) (Nat.le_of_ble_eq_true rfl)
set_option maxHeartbeats 4000000 in
set_option maxRecDepth 100000 in
theorem c_J5_append_cf1ce (l : Launch) (hlt : l.stackTraces = false) (g : zG) (v0 : Nat) (v1 : Nat) (M : zM) (S : zS) (hF : zFx S) {r : Nat} {M' : zM} {S' : zS} (h : F_J5_append_cf1ce v0 v1 M S = some (r, M', S')) : zMet l g yJ5_append_cf1ce cJ5_append_cf1ce 3 (some (.object "java/lang/AbstractStringBuilder")) 10 1 100 [zr g v0, zr g v1] M S (.inl (some (zr g r))) M' S' (zFx S') := by
  refine zMet_of (by decide) hlt [(0, zr g v0), (1, zr g v1)] (by simp only [lv_args, zr_cat, zc_i, zc_l, zc_d, zc_r] <;> rfl) (by rw [zsl_len]; simp only [List.map_cons, List.map_nil, zr_cat, zc_i, zc_l, zc_d, zc_r, List.sum_cons, List.sum_nil] <;> decide) (fun K hC hE hN => ?_)
  unfold F_J5_append_cf1ce at h
  refine j_aload_n hC 1 dJ5_append_cf1ce_0 rfl rfl ?_
  refine j_ifnonnull hC dJ5_append_cf1ce_1 rfl (fun c1 => ?_) (fun c1 => ?_)
  · have h := zf c1 h
    refine j_aload_n hC 1 dJ5_append_cf1ce_9 rfl rfl ?_
    obtain ⟨r2, hy, h⟩ := zb1_ex h
    refine j_lenM hC hE hlt hF lk_J5_32 dJ5_append_cf1ce_10 hy (Nat.le_of_ble_eq_true rfl) (Nat.le_of_ble_eq_true rfl) (Nat.le_of_ble_eq_true rfl) (Nat.le_of_ble_eq_true rfl) (fun hr2 => ?_)
    refine j_istore_n (lv1 := [(2, .int (zi r2)), (0, zr g v0), (1, zr g v1)]) hC dJ5_append_cf1ce_13 rfl (Nat.le_of_ble_eq_true rfl) (by simp only [List.filter_cons, List.filter_nil, zr_cat, zc_i, zc_l, zc_d, zc_r] <;> first | rfl | simp [zr_cat]) ?_
    refine j_aload_n hC 1 dJ5_append_cf1ce_14 rfl rfl ?_
    refine j_aload_n hC 1 dJ5_append_cf1ce_15 rfl rfl ?_
    obtain ⟨hk, h⟩ := zchk_ex h
    have hk3 := hk
    refine j_get hC dJ5_append_cf1ce_16 f_J5_79 hk3 rfl 3 rfl (fun hg4 => ?_)
    refine j_iload_n hC 0 dJ5_append_cf1ce_19 rfl rfl ?_
    refine j_iadd hC dJ5_append_cf1ce_20 ?_
    obtain ⟨hk, h⟩ := zchk_ex h
    have hk5 := hk
    obtain ⟨M6, S7, hy, h⟩ := zb2_ex h
    refine j_callUv (ci := 8) hC hE lk_J5_100 dJ5_append_cf1ce_21 (c_J5_ensureCapacityInternal_d00df l hlt g v0 (w ((M v0 3) + r2)) (inR_w _) M S hF hy) [.int (zi ((M v0 3) + r2))] [] hk5 ⟨_, rfl, by decide⟩ rfl (by simp only [zi_w, zl_wl]) rfl (zcat (Nat.le_of_ble_eq_true rfl)) (Nat.le_of_ble_eq_true rfl) (Nat.le_of_ble_eq_true rfl) (Nat.le_of_ble_eq_true rfl) (Nat.le_of_ble_eq_true rfl) (fun hp8 => ?_)
    have hF9 := hp8
    refine j_aload_n hC 1 dJ5_append_cf1ce_24 rfl rfl ?_
    refine j_aload_n hC 1 dJ5_append_cf1ce_25 rfl rfl ?_
    obtain ⟨hk, h⟩ := zchk_ex h
    have hk10 := hk
    refine j_get hC dJ5_append_cf1ce_26 f_J5_79 hk10 rfl 3 rfl (fun hg11 => ?_)
    refine j_aload_n hC 2 dJ5_append_cf1ce_29 rfl rfl ?_
    obtain ⟨hk, h⟩ := zchk_ex h
    have hk12 := hk
    obtain ⟨M13, hy, h⟩ := zb1_ex h
    refine j_callUv (ci := 8) hC hE lk_J5_208 dJ5_append_cf1ce_30 (c_J5_putStringAt_47b60 l hlt g v0 (M6 v0 3) v1 hg11 M6 S7 hF9 hy) [.int (zi (M6 v0 3)), zr g v1] [] hk12 ⟨_, rfl, by decide⟩ rfl rfl rfl (zcat (Nat.le_of_ble_eq_true rfl)) (Nat.le_of_ble_eq_true rfl) (Nat.le_of_ble_eq_true rfl) (Nat.le_of_ble_eq_true rfl) (Nat.le_of_ble_eq_true rfl) (fun hp14 => ?_)
    refine j_aload_n hC 1 dJ5_append_cf1ce_33 rfl rfl ?_
    refine j_dup hC dJ5_append_cf1ce_34 (zr_cat _ _) ?_
    obtain ⟨hk, h⟩ := zchk_ex h
    have hk15 := hk
    refine j_get hC dJ5_append_cf1ce_35 f_J5_79 hk15 rfl 3 rfl (fun hg16 => ?_)
    refine j_iload_n hC 0 dJ5_append_cf1ce_38 rfl rfl ?_
    refine j_iadd hC dJ5_append_cf1ce_39 ?_
    obtain ⟨hk, h⟩ := zchk_ex h
    have hk17 := hk
    obtain ⟨M18, eM18, h⟩ := zlet_ex h
    refine j_put hC dJ5_append_cf1ce_40 f_J5_79 pF_J4 hk17 (Or.inl rfl) rfl 3 rfl rfl (inR_w _) eM18 ?_
    refine j_aload_n hC 1 dJ5_append_cf1ce_43 rfl rfl ?_
    obtain ⟨e1, e2, e3⟩ := zpr3 (Option.some.inj h)
    exact j_aret hC hE dJ5_append_cf1ce_44 (by rw [← e1]) e2 e3 (by rw [← e3]; exact hF9) (Nat.le_of_ble_eq_true rfl) (Nat.le_of_ble_eq_true rfl)
  · have h := zt c1 h
    cases h
set_option maxHeartbeats 4000000 in
set_option maxRecDepth 100000 in
theorem c_J5_isLatin1_aae02 (l : Launch) (hlt : l.stackTraces = false) (g : zG) (v0 : Nat) (M : zM) (S : zS) (hF : zFx S) {r : Int} (h : F_J5_isLatin1_aae02 v0 M S = some r) : zMet l g yJ5_isLatin1_aae02 cJ5_isLatin1_aae02 1 (some .boolean) 1 0 0 [zr g v0] M S (.inl (some (.int (zi r)))) M S (inR r) := by
  refine zMet_of (by decide) hlt [(0, zr g v0)] (by simp only [lv_args, zr_cat, zc_i, zc_l, zc_d, zc_r] <;> rfl) (by rw [zsl_len]; simp only [List.map_cons, List.map_nil, zr_cat, zc_i, zc_l, zc_d, zc_r, List.sum_cons, List.sum_nil] <;> decide) (fun K hC hE hN => ?_)
  unfold F_J5_isLatin1_aae02 at h
  have J_17 : ∀ (_ : F_J5_isLatin1_aae02_J17 M S = some r), zJ K g 0 0 17 1 [] [] M S := by
    intro h
    unfold F_J5_isLatin1_aae02_J17 at h
    refine j_iconst hC dJ5_isLatin1_aae02_17 ?_
    have e1 := Option.some.inj h
    exact j_iret hC hE dJ5_isLatin1_aae02_18 (w_id kR_0) (zn_z zb01_0) (by rw [← e1]) rfl rfl (by rw [← e1]; exact kR_0) (Nat.le_of_ble_eq_true rfl) (Nat.le_of_ble_eq_true rfl)
  refine j_gcs hC dJ5_isLatin1_aae02_0 k665 ?_
  refine j_if_eq hC dJ5_isLatin1_aae02_3 rfl (w_id kR_1) (fun c1 => ?_) (fun c1 => ?_)
  · have h := zt c1 h
    refine j_sub [] rfl ?_
    exact J_17 h
  · have h := zf c1 h
    refine j_aload_n hC 0 dJ5_isLatin1_aae02_6 rfl rfl ?_
    obtain ⟨hk, h⟩ := zchk_ex h
    have hk2 := hk
    refine j_get hC dJ5_isLatin1_aae02_7 f_J5_22 hk2 rfl 1 rfl (fun hg3 => ?_)
    refine j_if_ne hC dJ5_isLatin1_aae02_10 rfl (w_id hg3) (fun c4 => ?_) (fun c4 => ?_)
    · have h := zf c4 h
      refine j_sub [] rfl ?_
      exact J_17 h
    · have h := zt c4 h
      refine j_iconst hC dJ5_isLatin1_aae02_13 ?_
      refine j_goto hC dJ5_isLatin1_aae02_14 rfl ?_
      have e1 := Option.some.inj h
      exact j_iret hC hE dJ5_isLatin1_aae02_18 (w_id kR_1) (zn_z zb01_1) (by rw [← e1]) rfl rfl (by rw [← e1]; exact kR_1) (Nat.le_of_ble_eq_true rfl) (Nat.le_of_ble_eq_true rfl)
set_option maxHeartbeats 4000000 in
set_option maxRecDepth 100000 in
theorem c_J1_canEncode_fc78d (l : Launch) (hlt : l.stackTraces = false) (g : zG) (v0 : Int) (hv0 : inR v0) (M : zM) (S : zS) {r : Int} (h : F_J1_canEncode_fc78d v0 = some r) : zMet l g yJ1_canEncode_fc78d cJ1_canEncode_fc78d 1 (some .boolean) 1 0 0 [.int (zi v0)] M S (.inl (some (.int (zi r)))) M S (inR r) := by
  refine zMet_of (by decide) hlt [(0, .int (zi v0))] rfl (Nat.le_of_ble_eq_true rfl) (fun K hC hE hN => ?_)
  unfold F_J1_canEncode_fc78d at h
  refine j_iload_n hC 0 dJ1_canEncode_fc78d_0 rfl rfl ?_
  refine j_sipush hC dJ1_canEncode_fc78d_1 rfl ?_
  refine j_icmp_gt hC dJ1_canEncode_fc78d_4 rfl (w_id hv0) (w_id kR_255) (fun c1 => ?_) (fun c1 => ?_)
  · have h := zt c1 h
    refine j_iconst hC dJ1_canEncode_fc78d_11 ?_
    have e1 := Option.some.inj h
    exact j_iret hC hE dJ1_canEncode_fc78d_12 (w_id kR_0) (zn_z zb01_0) (by rw [← e1]) rfl rfl (by rw [← e1]; exact kR_0) (Nat.le_of_ble_eq_true rfl) (Nat.le_of_ble_eq_true rfl)
  · have h := zf c1 h
    refine j_iconst hC dJ1_canEncode_fc78d_7 ?_
    refine j_goto hC dJ1_canEncode_fc78d_8 rfl ?_
    have e1 := Option.some.inj h
    exact j_iret hC hE dJ1_canEncode_fc78d_12 (w_id kR_1) (zn_z zb01_1) (by rw [← e1]) rfl rfl (by rw [← e1]; exact kR_1) (Nat.le_of_ble_eq_true rfl) (Nat.le_of_ble_eq_true rfl)
set_option maxHeartbeats 4000000 in
set_option maxRecDepth 100000 in
theorem c_J5_append_3fe6f (l : Launch) (hlt : l.stackTraces = false) (g : zG) (v0 : Nat) (v1 : Int) (hv1 : inR v1) (M : zM) (S : zS) (hF : zFx S) {r : Nat} {M' : zM} {S' : zS} (h : F_J5_append_3fe6f v0 v1 M S = some (r, M', S')) : zMet l g yJ5_append_3fe6f cJ5_append_3fe6f 2 (some (.object "java/lang/AbstractStringBuilder")) 6 1 100 [zr g v0, .int (zi v1)] M S (.inl (some (zr g r))) M' S' (zFx S') := by
  refine zMet_of (by decide) hlt [(0, zr g v0), (1, .int (zi v1))] (by simp only [lv_args, zr_cat, zc_i, zc_l, zc_d, zc_r] <;> rfl) (by rw [zsl_len]; simp only [List.map_cons, List.map_nil, zr_cat, zc_i, zc_l, zc_d, zc_r, List.sum_cons, List.sum_nil] <;> decide) (fun K hC hE hN => ?_)
  unfold F_J5_append_3fe6f at h
  refine j_aload_n hC 0 dJ5_append_3fe6f_0 rfl rfl ?_
  refine j_aload_n hC 0 dJ5_append_3fe6f_1 rfl rfl ?_
  obtain ⟨hk, h⟩ := zchk_ex h
  have hk1 := hk
  refine j_get hC dJ5_append_3fe6f_2 f_J5_79 hk1 rfl 3 rfl (fun hg2 => ?_)
  refine j_iconst hC dJ5_append_3fe6f_5 ?_
  refine j_iadd hC dJ5_append_3fe6f_6 ?_
  obtain ⟨hk, h⟩ := zchk_ex h
  have hk3 := hk
  obtain ⟨M4, S5, hy, h⟩ := zb2_ex h
  refine j_callUv (ci := 8) hC hE lk_J5_100 dJ5_append_3fe6f_7 (c_J5_ensureCapacityInternal_d00df l hlt g v0 (w ((M v0 3) + 1)) (inR_w _) M S hF hy) [.int (zi ((M v0 3) + 1))] [] hk3 ⟨_, rfl, by decide⟩ rfl (by simp only [zi_w, zl_wl]) rfl (zcat (Nat.le_of_ble_eq_true rfl)) (Nat.le_of_ble_eq_true rfl) (Nat.le_of_ble_eq_true rfl) (Nat.le_of_ble_eq_true rfl) (Nat.le_of_ble_eq_true rfl) (fun hp6 => ?_)
  have hF7 := hp6
  refine j_aload_n hC 0 dJ5_append_3fe6f_10 rfl rfl ?_
  obtain ⟨hk, h⟩ := zchk_ex h
  have hk8 := hk
  obtain ⟨r9, hy, h⟩ := zb1_ex h
  refine j_callUi (ci := 8) hC hE lk_J5_83 dJ5_append_3fe6f_11 (c_J5_isLatin1_aae02 l hlt g v0 M4 S5 hF7 hy) [] [] hk8 ⟨_, rfl, by decide⟩ rfl rfl rfl (zcat (Nat.le_of_ble_eq_true rfl)) (Nat.le_of_ble_eq_true rfl) (Nat.le_of_ble_eq_true rfl) (Nat.le_of_ble_eq_true rfl) (Nat.le_of_ble_eq_true rfl) (fun hp10 => ?_)
  have hr9 := hp10
  refine j_if_eq hC dJ5_append_3fe6f_14 rfl (w_id hr9) (fun c11 => ?_) (fun c11 => ?_)
  · have h := zt c11 h
    cases h
  · have h := zf c11 h
    refine j_iload_n hC 1 dJ5_append_3fe6f_17 rfl rfl ?_
    obtain ⟨r12, hy, h⟩ := zb1_ex h
    refine j_callSi hC hE lk_J5_191 dJ5_append_3fe6f_18 (c_J1_canEncode_fc78d l hlt g v1 hv1 M4 S5 hy) [.int (zi v1)] [] rfl rfl rfl (zcat (Nat.le_of_ble_eq_true rfl)) (Nat.le_of_ble_eq_true rfl) (Nat.le_of_ble_eq_true rfl) (Nat.le_of_ble_eq_true rfl) (Nat.le_of_ble_eq_true rfl) (fun hp13 => ?_)
    have hr12 := hp13
    refine j_if_eq hC dJ5_append_3fe6f_21 rfl (w_id hr12) (fun c14 => ?_) (fun c14 => ?_)
    · have h := zt c14 h
      cases h
    · have h := zf c14 h
      refine j_aload_n hC 0 dJ5_append_3fe6f_24 rfl rfl ?_
      obtain ⟨hk, h⟩ := zchk_ex h
      have hk15 := hk
      refine j_getq hC dJ5_append_3fe6f_25 f_J5_15 hk15 rfl 0 rfl rfl ?_
      refine j_aload_n hC 0 dJ5_append_3fe6f_28 rfl rfl ?_
      refine j_dup hC dJ5_append_3fe6f_29 (zr_cat _ _) ?_
      obtain ⟨hk, h⟩ := zchk_ex h
      have hk16 := hk
      refine j_get hC dJ5_append_3fe6f_30 f_J5_79 hk16 rfl 3 rfl (fun hg17 => ?_)
      refine j_dup_x1 hC dJ5_append_3fe6f_33 rfl (zr_cat _ _) ?_
      refine j_iconst hC dJ5_append_3fe6f_34 ?_
      refine j_iadd hC dJ5_append_3fe6f_35 ?_
      obtain ⟨hk, h⟩ := zchk_ex h
      have hk18 := hk
      obtain ⟨M19, eM19, h⟩ := zlet_ex h
      refine j_put hC dJ5_append_3fe6f_36 f_J5_79 pF_J4 hk18 (Or.inl rfl) rfl 3 rfl rfl (inR_w _) eM19 ?_
      refine j_iload_n hC 1 dJ5_append_3fe6f_39 rfl rfl ?_
      refine j_i2b hC dJ5_append_3fe6f_40 ?_
      obtain ⟨hk, h⟩ := zchk_ex h
      have hk20 := hk
      obtain ⟨c21, h⟩ := zchk_ex h
      obtain ⟨M22, eM22, h⟩ := zlet_ex h
      refine j_bast (n := (zlen S5 (zrf S5 v0 0))) hC dJ5_append_3fe6f_41 (w_id hg17) rfl hk20 rfl c21.1 c21.2 eM22 ?_
      refine j_goto hC dJ5_append_3fe6f_42 rfl ?_
      refine j_aload_n hC 0 dJ5_append_3fe6f_75 rfl rfl ?_
      obtain ⟨e1, e2, e3⟩ := zpr3 (Option.some.inj h)
      exact j_aret hC hE dJ5_append_3fe6f_76 (by rw [← e1]) e2 e3 (by rw [← e3]; exact hF7) (Nat.le_of_ble_eq_true rfl) (Nat.le_of_ble_eq_true rfl)
set_option maxHeartbeats 4000000 in
set_option maxRecDepth 100000 in
theorem c_J6_stringSize_0f7a4 (l : Launch) (hlt : l.stackTraces = false) (g : zG) (v0 : Int) (hv0 : inR v0) (M : zM) (S : zS) {r : Int} (h : F_J6_stringSize_0f7a4 v0 = some r) : zMet l g yJ6_stringSize_0f7a4 cJ6_stringSize_0f7a4 4 (some .int) 1 0 0 [.int (zi v0)] M S (.inl (some (.int (zi r)))) M S (inR r) := by
  refine zMet_of (by decide) hlt [(0, .int (zi v0))] rfl (Nat.le_of_ble_eq_true rfl) (fun K hC hE hN => ?_)
  unfold F_J6_stringSize_0f7a4 at h
  have J_42 : ∀ (v1 : Int) (hv1 : inR v1) (_ : F_J6_stringSize_0f7a4_J42 v1 = some r), zJ K g 0 0 42 4 [(1, .int (zi v1))] [] M S := by
    intro v1 hv1 h
    unfold F_J6_stringSize_0f7a4_J42 at h
    refine j_bipush hC dJ6_stringSize_0f7a4_42 rfl ?_
    refine j_iload_n hC 0 dJ6_stringSize_0f7a4_44 rfl rfl ?_
    refine j_iadd hC dJ6_stringSize_0f7a4_45 ?_
    have e1 := Option.some.inj h
    exact j_iret hC hE dJ6_stringSize_0f7a4_46 rfl (zn_i _) (by rw [← e1]) rfl rfl (by rw [← e1]; exact (inR_w _)) (Nat.le_of_ble_eq_true rfl) (Nat.le_of_ble_eq_true rfl)
  have J_27 : ∀ (v1 : Int) (v3 : Int) (hv1 : inR v1) (hv3 : inR v3) (_ : F_J6_stringSize_0f7a4_J27 v1 v3 = some r), zJ K g 0 0 27 4 [(1, .int (zi v1)), (3, .int (zi v3))] [] M S := by
    intro v1 v3 hv1 hv3 h
    unfold F_J6_stringSize_0f7a4_J27 at h
    refine j_iload_n hC 1 dJ6_stringSize_0f7a4_27 rfl rfl ?_
    refine j_iload_n hC 0 dJ6_stringSize_0f7a4_28 rfl rfl ?_
    refine j_iadd hC dJ6_stringSize_0f7a4_29 ?_
    have e1 := Option.some.inj h
    exact j_iret hC hE dJ6_stringSize_0f7a4_30 rfl (zn_i _) (by rw [← e1]) rfl rfl (by rw [← e1]; exact (inR_w _)) (Nat.le_of_ble_eq_true rfl) (Nat.le_of_ble_eq_true rfl)
  have L_16 : ∀ (v0 : Int) (v1 : Int) (v2 : Int) (v3 : Int) (hv0 : inR v0) (hv1 : inR v1) (hv2 : inR v2) (hv3 : inR v3) (_ : F_J6_stringSize_0f7a4_L16 v0 v1 v2 v3 = some r), zJ K g 0 0 16 4 [(0, .int (zi v0)), (1, .int (zi v1)), (2, .int (zi v2)), (3, .int (zi v3))] [] M S := by
    intro v0 v1 v2 v3 hv0 hv1 hv2 hv3 h
    unfold F_J6_stringSize_0f7a4_L16 at h
    obtain ⟨ex16, hl, hd16⟩ := zb1_ex h
    obtain ⟨bd16, ebd⟩ : ∃ f, f = (fun (s : Int × Int) => F_J6_stringSize_0f7a4_B16 v0 v1 s.1 s.2) := ⟨_, rfl⟩
    rw [← ebd] at hl
    have main : ∀ (n16 : Nat) (v2 : Int) (v3 : Int) (hv2 : inR v2) (hv3 : inR v3) (_ : zloop bd16 n16 (v2, v3) = some ex16), zJ K g 0 0 16 4 [(0, .int (zi v0)), (1, .int (zi v1)), (2, .int (zi v2)), (3, .int (zi v3))] [] M S := by
      intro n16
      induction n16 with
      | zero => intro v2 v3 hv2 hv3 hl; exact zloop_0 hl
      | succ n16 ih16 =>
        intro v2 v3 hv2 hv3 hl
        obtain ⟨o, h, hT⟩ := zloop_ex hl
        have h : F_J6_stringSize_0f7a4_B16 v0 v1 v2 v3 = some o := by rw [ebd] at h; exact h
        unfold F_J6_stringSize_0f7a4_B16 at h
        refine j_iload_n hC 3 dJ6_stringSize_0f7a4_16 rfl rfl ?_
        refine j_bipush hC dJ6_stringSize_0f7a4_17 rfl ?_
        refine j_icmp_ge hC dJ6_stringSize_0f7a4_19 rfl (w_id hv3) (w_id kR_10) (fun c1 => ?_) (fun c1 => ?_)
        · have h := zf c1 h
          obtain rfl := Option.some.inj h
          have hx16 := hd16
          rw [← show _ = ex16 from hT] at hx16
          dsimp only [Sum.elim] at hx16
          refine j_sub [1] rfl ?_
          exact J_42 v1 hv1 hx16
        · have h := zt c1 h
          refine j_iload_n hC 0 dJ6_stringSize_0f7a4_22 rfl rfl ?_
          refine j_iload_n hC 2 dJ6_stringSize_0f7a4_23 rfl rfl ?_
          refine j_icmp_le hC dJ6_stringSize_0f7a4_24 rfl (w_id hv0) (w_id hv2) (fun c2 => ?_) (fun c2 => ?_)
          · have h := zf c2 h
            refine j_bipush hC dJ6_stringSize_0f7a4_31 rfl ?_
            refine j_iload_n hC 2 dJ6_stringSize_0f7a4_33 rfl rfl ?_
            refine j_imul hC dJ6_stringSize_0f7a4_34 ?_
            obtain ⟨x3, ex3, h⟩ := zlet_ex h
            have hx3 : inR x3 := by rw [ex3]; exact inR_w _
            refine j_namei ex3 ?_
            refine j_istore_n hC dJ6_stringSize_0f7a4_35 rfl (Nat.le_of_ble_eq_true rfl) rfl ?_
            obtain ⟨x4, ex4, h⟩ := zlet_ex h
            have hx4 : inR x4 := by rw [ex4]; exact inR_w _
            refine j_iinc hC 3 dJ6_stringSize_0f7a4_36 rfl ex4 (Nat.le_of_ble_eq_true rfl) rfl ?_
            refine j_goto hC dJ6_stringSize_0f7a4_39 rfl ?_
            obtain rfl := Option.some.inj h
            refine j_sub [2, 3, 1, 0] rfl ?_
            exact ih16 x3 x4 hx3 hx4 hT
          · have h := zt c2 h
            obtain rfl := Option.some.inj h
            have hx16 := hd16
            rw [← show _ = ex16 from hT] at hx16
            dsimp only [Sum.elim] at hx16
            refine j_sub [1, 3] rfl ?_
            exact J_27 v1 v3 hv1 hv3 hx16
    exact main zN v2 v3 hv2 hv3 hl
  have J_11 : ∀ (v0 : Int) (v1 : Int) (hv0 : inR v0) (hv1 : inR v1) (_ : F_J6_stringSize_0f7a4_J11 v0 v1 = some r), zJ K g 0 0 11 4 [(0, .int (zi v0)), (1, .int (zi v1))] [] M S := by
    intro v0 v1 hv0 hv1 h
    unfold F_J6_stringSize_0f7a4_J11 at h
    refine j_bipush hC dJ6_stringSize_0f7a4_11 rfl ?_
    refine j_istore_n hC dJ6_stringSize_0f7a4_13 rfl (Nat.le_of_ble_eq_true rfl) rfl ?_
    refine j_iconst hC dJ6_stringSize_0f7a4_14 ?_
    refine j_istore_n hC dJ6_stringSize_0f7a4_15 rfl (Nat.le_of_ble_eq_true rfl) rfl ?_
    refine j_sub [2, 3, 1, 0] rfl ?_
    exact L_16 v0 v1 (-10) 1 hv0 hv1 kR_m10 kR_1 h
  refine j_iconst hC dJ6_stringSize_0f7a4_0 ?_
  refine j_istore_n hC dJ6_stringSize_0f7a4_1 rfl (Nat.le_of_ble_eq_true rfl) rfl ?_
  refine j_iload_n hC 1 dJ6_stringSize_0f7a4_2 rfl rfl ?_
  refine j_if_lt hC dJ6_stringSize_0f7a4_3 rfl (w_id hv0) (fun c5 => ?_) (fun c5 => ?_)
  · have h := zt c5 h
    refine j_sub [1, 0] rfl ?_
    exact J_11 v0 1 hv0 kR_1 h
  · have h := zf c5 h
    refine j_iconst hC dJ6_stringSize_0f7a4_6 ?_
    refine j_istore_n hC dJ6_stringSize_0f7a4_7 rfl (Nat.le_of_ble_eq_true rfl) rfl ?_
    refine j_iload_n hC 1 dJ6_stringSize_0f7a4_8 rfl rfl ?_
    refine j_ineg hC dJ6_stringSize_0f7a4_9 ?_
    obtain ⟨x6, ex6, h⟩ := zlet_ex h
    have hx6 : inR x6 := by rw [ex6]; exact inR_w _
    refine j_namei ex6 ?_
    refine j_istore_n hC dJ6_stringSize_0f7a4_10 rfl (Nat.le_of_ble_eq_true rfl) rfl ?_
    exact J_11 x6 0 hx6 kR_0 h
set_option maxHeartbeats 4000000 in
set_option maxRecDepth 100000 in
theorem c_J6_getChars_ba4f3 (l : Launch) (hlt : l.stackTraces = false) (g : zG) (v0 : Int) (v1 : Int) (v2 : Nat) (hv0 : inR v0) (hv1 : inR v1) (M : zM) (S : zS) (hF : zFx S) {r : Int} {M' : zM} (h : F_J6_getChars_ba4f3 v0 v1 v2 M S = some (r, M')) : zMet l g yJ6_getChars_ba4f3 cJ6_getChars_ba4f3 7 (some .int) 1 0 0 [.int (zi v0), .int (zi v1), zr g v2] M S (.inl (some (.int (zi r)))) M' S (inR r) := by
  refine zMet_of (by decide) hlt [(0, .int (zi v0)), (1, .int (zi v1)), (2, zr g v2)] (by simp only [lv_args, zr_cat, zc_i, zc_l, zc_d, zc_r] <;> rfl) (by rw [zsl_len]; simp only [List.map_cons, List.map_nil, zr_cat, zc_i, zc_l, zc_d, zc_r, List.sum_cons, List.sum_nil] <;> decide) (fun K hC hE hN => ?_)
  unfold F_J6_getChars_ba4f3 at h
  have J_22 : ∀ (v0 : Int) (v2 : Nat) (v5 : Int) (v6 : Int) (hv0 : inR v0) (hv5 : inR v5) (hv6 : inR v6) (M : zM) (_ : F_J6_getChars_ba4f3_J22 v0 v2 v5 v6 M S = some (r, M')), zJ K g 0 0 22 7 [(0, .int (zi v0)), (2, zr g v2), (5, .int (zi v5)), (6, .int (zi v6))] [] M S := by
    intro v0 v2 v5 v6 hv0 hv5 hv6 M h
    unfold F_J6_getChars_ba4f3_J22 at h
    refine j_iload_n hC 0 dJ6_getChars_ba4f3_22 rfl rfl ?_
    refine j_bipush hC dJ6_getChars_ba4f3_23 rfl ?_
    refine j_icmp_gt hC dJ6_getChars_ba4f3_25 rfl (w_id hv0) (w_id kR_m100) (fun c1 => ?_) (fun c1 => ?_)
    · have h := zt c1 h
      refine j_aload_n hC 1 dJ6_getChars_ba4f3_72 rfl rfl ?_
      obtain ⟨x2, ex2, h⟩ := zlet_ex h
      have hx2 : inR x2 := by rw [ex2]; exact inR_w _
      refine j_iinc hC 2 dJ6_getChars_ba4f3_73 rfl ex2 (Nat.le_of_ble_eq_true rfl) rfl ?_
      refine j_iload hC 0 dJ6_getChars_ba4f3_76 rfl ?_
      refine j_gdo hC dJ6_getChars_ba4f3_78 k872 ?_
      refine j_iload_n hC 1 dJ6_getChars_ba4f3_81 rfl rfl ?_
      refine j_ineg hC dJ6_getChars_ba4f3_82 ?_
      obtain ⟨c3, h⟩ := zchk_ex h
      refine j_dold hC dJ6_getChars_ba4f3_83 rfl c3.1 c3.2 ?_
      obtain ⟨hk, h⟩ := zchk_ex h
      have hk4 := hk
      obtain ⟨c5, h⟩ := zchk_ex h
      obtain ⟨M6, eM6, h⟩ := zlet_ex h
      refine j_bast (n := (zlen S v2)) hC dJ6_getChars_ba4f3_84 (w_id hx2) rfl hk4 rfl c5.1 c5.2 eM6 ?_
      refine j_iload_n hC 1 dJ6_getChars_ba4f3_85 rfl rfl ?_
      refine j_bipush hC dJ6_getChars_ba4f3_86 rfl ?_
      refine j_icmp_ge hC dJ6_getChars_ba4f3_88 rfl (w_id hv0) (w_id kR_m9) (fun c7 => ?_) (fun c7 => ?_)
      · have h := zf c7 h
        refine j_iload hC 3 dJ6_getChars_ba4f3_104 rfl ?_
        refine j_if_eq hC dJ6_getChars_ba4f3_106 rfl (w_id hv6) (fun c8 => ?_) (fun c8 => ?_)
        · have h := zt c8 h
          refine j_iload hC 0 dJ6_getChars_ba4f3_118 rfl ?_
          obtain ⟨e1, e2⟩ := zpr2 (Option.some.inj h)
          exact j_iret hC hE dJ6_getChars_ba4f3_120 (w_id hx2) (zn_i _) (by rw [← e1]) e2 rfl (by rw [← e1]; exact hx2) (Nat.le_of_ble_eq_true rfl) (Nat.le_of_ble_eq_true rfl)
        · have h := zf c8 h
          cases h
      · have h := zt c7 h
        cases h
    · have h := zf c1 h
      cases h
  refine j_iload_n hC 1 dJ6_getChars_ba4f3_0 rfl rfl ?_
  refine j_istore hC dJ6_getChars_ba4f3_1 (Nat.le_of_ble_eq_true rfl) rfl ?_
  refine j_iload_n hC 1 dJ6_getChars_ba4f3_3 rfl rfl ?_
  refine j_if_ge hC dJ6_getChars_ba4f3_4 rfl (w_id hv0) (fun c9 => ?_) (fun c9 => ?_)
  · have h := zf c9 h
    refine j_iconst hC dJ6_getChars_ba4f3_11 ?_
    refine j_istore hC dJ6_getChars_ba4f3_12 (Nat.le_of_ble_eq_true rfl) rfl ?_
    refine j_iload hC 0 dJ6_getChars_ba4f3_14 rfl ?_
    refine j_if_ne hC dJ6_getChars_ba4f3_16 rfl (w_id kR_0) (fun c10 => ?_) (fun c10 => ?_)
    · have h := zf c10 h
      refine j_sub [2, 4, 1, 0] rfl ?_
      exact J_22 v0 v2 v1 0 hv0 hv1 kR_0 M h
    · have h := zt c10 h
      refine j_iload_n hC 2 dJ6_getChars_ba4f3_19 rfl rfl ?_
      refine j_ineg hC dJ6_getChars_ba4f3_20 ?_
      obtain ⟨x11, ex11, h⟩ := zlet_ex h
      have hx11 : inR x11 := by rw [ex11]; exact inR_w _
      refine j_namei ex11 ?_
      refine j_istore_n hC dJ6_getChars_ba4f3_21 rfl (Nat.le_of_ble_eq_true rfl) rfl ?_
      refine j_sub [0, 4, 2, 1] rfl ?_
      exact J_22 x11 v2 v1 0 hx11 hv1 kR_0 M h
  · have h := zt c9 h
    cases h
set_option maxHeartbeats 4000000 in
set_option maxRecDepth 100000 in
theorem c_J5_append_c97b9 (l : Launch) (hlt : l.stackTraces = false) (g : zG) (v0 : Nat) (v1 : Int) (hv1 : inR v1) (M : zM) (S : zS) (hF : zFx S) {r : Nat} {M' : zM} {S' : zS} (h : F_J5_append_c97b9 v0 v1 M S = some (r, M', S')) : zMet l g yJ5_append_c97b9 cJ5_append_c97b9 4 (some (.object "java/lang/AbstractStringBuilder")) 6 1 100 [zr g v0, .int (zi v1)] M S (.inl (some (zr g r))) M' S' (zFx S') := by
  refine zMet_of (by decide) hlt [(0, zr g v0), (1, .int (zi v1))] (by simp only [lv_args, zr_cat, zc_i, zc_l, zc_d, zc_r] <;> rfl) (by rw [zsl_len]; simp only [List.map_cons, List.map_nil, zr_cat, zc_i, zc_l, zc_d, zc_r, List.sum_cons, List.sum_nil] <;> decide) (fun K hC hE hN => ?_)
  unfold F_J5_append_c97b9 at h
  refine j_aload_n hC 0 dJ5_append_c97b9_0 rfl rfl ?_
  obtain ⟨hk, h⟩ := zchk_ex h
  have hk1 := hk
  refine j_get hC dJ5_append_c97b9_1 f_J5_79 hk1 rfl 3 rfl (fun hg2 => ?_)
  obtain ⟨x3, ex3, h⟩ := zlet_ex h
  have hx3 : inR x3 := by rw [ex3]; exact hg2
  refine j_names ex3 ?_
  refine j_istore_n hC dJ5_append_c97b9_4 rfl (Nat.le_of_ble_eq_true rfl) rfl ?_
  refine j_iload_n hC 0 dJ5_append_c97b9_5 rfl rfl ?_
  refine j_iload_n hC 2 dJ5_append_c97b9_6 rfl rfl ?_
  obtain ⟨r4, hy, h⟩ := zb1_ex h
  refine j_callSi hC hE lk_J5_245 dJ5_append_c97b9_7 (c_J6_stringSize_0f7a4 l hlt g v1 hv1 M S hy) [.int (zi v1)] [.int (zi x3)] rfl rfl rfl (zcat (Nat.le_of_ble_eq_true rfl)) (Nat.le_of_ble_eq_true rfl) (Nat.le_of_ble_eq_true rfl) (Nat.le_of_ble_eq_true rfl) (Nat.le_of_ble_eq_true rfl) (fun hp5 => ?_)
  have hr4 := hp5
  refine j_iadd hC dJ5_append_c97b9_10 ?_
  obtain ⟨x6, ex6, h⟩ := zlet_ex h
  have hx6 : inR x6 := by rw [ex6]; exact inR_w _
  refine j_namei ex6 ?_
  refine j_istore_n hC dJ5_append_c97b9_11 rfl (Nat.le_of_ble_eq_true rfl) rfl ?_
  refine j_aload_n hC 2 dJ5_append_c97b9_12 rfl rfl ?_
  refine j_iload_n hC 0 dJ5_append_c97b9_13 rfl rfl ?_
  obtain ⟨hk, h⟩ := zchk_ex h
  have hk7 := hk
  obtain ⟨M8, S9, hy, h⟩ := zb2_ex h
  refine j_callUv (ci := 8) hC hE lk_J5_100 dJ5_append_c97b9_14 (c_J5_ensureCapacityInternal_d00df l hlt g v0 x6 hx6 M S hF hy) [.int (zi x6)] [] hk7 ⟨_, rfl, by decide⟩ rfl rfl rfl (zcat (Nat.le_of_ble_eq_true rfl)) (Nat.le_of_ble_eq_true rfl) (Nat.le_of_ble_eq_true rfl) (Nat.le_of_ble_eq_true rfl) (Nat.le_of_ble_eq_true rfl) (fun hp10 => ?_)
  have hF11 := hp10
  refine j_aload_n hC 2 dJ5_append_c97b9_17 rfl rfl ?_
  obtain ⟨hk, h⟩ := zchk_ex h
  have hk12 := hk
  obtain ⟨r13, hy, h⟩ := zb1_ex h
  refine j_callUi (ci := 8) hC hE lk_J5_83 dJ5_append_c97b9_18 (c_J5_isLatin1_aae02 l hlt g v0 M8 S9 hF11 hy) [] [] hk12 ⟨_, rfl, by decide⟩ rfl rfl rfl (zcat (Nat.le_of_ble_eq_true rfl)) (Nat.le_of_ble_eq_true rfl) (Nat.le_of_ble_eq_true rfl) (Nat.le_of_ble_eq_true rfl) (Nat.le_of_ble_eq_true rfl) (fun hp14 => ?_)
  have hr13 := hp14
  refine j_if_eq hC dJ5_append_c97b9_21 rfl (w_id hr13) (fun c15 => ?_) (fun c15 => ?_)
  · have h := zt c15 h
    cases h
  · have h := zf c15 h
    refine j_iload_n hC 3 dJ5_append_c97b9_24 rfl rfl ?_
    refine j_iload_n hC 0 dJ5_append_c97b9_25 rfl rfl ?_
    refine j_aload_n hC 2 dJ5_append_c97b9_26 rfl rfl ?_
    obtain ⟨hk, h⟩ := zchk_ex h
    have hk16 := hk
    refine j_getq hC dJ5_append_c97b9_27 f_J5_15 hk16 rfl 0 rfl rfl ?_
    obtain ⟨r17, M18, hy, h⟩ := zb2_ex h
    refine j_callSi hC hE lk_J5_248 dJ5_append_c97b9_30 (c_J6_getChars_ba4f3 l hlt g v1 x6 (zrf S9 v0 0) hv1 hx6 M8 S9 hF11 hy) [.int (zi v1), .int (zi x6), zr g (zrf S9 v0 0)] [] rfl rfl rfl (zcat (Nat.le_of_ble_eq_true rfl)) (Nat.le_of_ble_eq_true rfl) (Nat.le_of_ble_eq_true rfl) (Nat.le_of_ble_eq_true rfl) (Nat.le_of_ble_eq_true rfl) (fun hp19 => ?_)
    have hr17 := hp19
    refine j_pop hC dJ5_append_c97b9_33 rfl ?_
    refine j_goto hC dJ5_append_c97b9_34 rfl ?_
    refine j_aload_n hC 2 dJ5_append_c97b9_48 rfl rfl ?_
    refine j_iload_n hC 0 dJ5_append_c97b9_49 rfl rfl ?_
    obtain ⟨hk, h⟩ := zchk_ex h
    have hk20 := hk
    obtain ⟨M21, eM21, h⟩ := zlet_ex h
    refine j_put hC dJ5_append_c97b9_50 f_J5_79 pF_J4 hk20 (Or.inl rfl) rfl 3 rfl (w_id hx6) hx6 eM21 ?_
    refine j_aload_n hC 2 dJ5_append_c97b9_53 rfl rfl ?_
    obtain ⟨e1, e2, e3⟩ := zpr3 (Option.some.inj h)
    exact j_aret hC hE dJ5_append_c97b9_54 (by rw [← e1]) e2 e3 (by rw [← e3]; exact hF11) (Nat.le_of_ble_eq_true rfl) (Nat.le_of_ble_eq_true rfl)
set_option maxHeartbeats 4000000 in
set_option maxRecDepth 100000 in
theorem c_J5_getValue_6d5f1 (l : Launch) (hlt : l.stackTraces = false) (g : zG) (v0 : Nat) (M : zM) (S : zS) (hF : zFx S) {r : Nat} (h : F_J5_getValue_6d5f1 v0 S = some r) : zMet l g yJ5_getValue_6d5f1 cJ5_getValue_6d5f1 1 (some (.array .byte)) 1 0 0 [zr g v0] M S (.inl (some (zr g r))) M S (True) := by
  refine zMet_of (by decide) hlt [(0, zr g v0)] (by simp only [lv_args, zr_cat, zc_i, zc_l, zc_d, zc_r] <;> rfl) (by rw [zsl_len]; simp only [List.map_cons, List.map_nil, zr_cat, zc_i, zc_l, zc_d, zc_r, List.sum_cons, List.sum_nil] <;> decide) (fun K hC hE hN => ?_)
  unfold F_J5_getValue_6d5f1 at h
  refine j_aload_n hC 0 dJ5_getValue_6d5f1_0 rfl rfl ?_
  obtain ⟨hk, h⟩ := zchk_ex h
  have hk1 := hk
  refine j_getq hC dJ5_getValue_6d5f1_1 f_J5_15 hk1 rfl 0 rfl rfl ?_
  have e1 := Option.some.inj h
  exact j_aret hC hE dJ5_getValue_6d5f1_4 (by rw [← e1]) rfl rfl trivial (Nat.le_of_ble_eq_true rfl) (Nat.le_of_ble_eq_true rfl)
set_option maxHeartbeats 4000000 in
set_option maxRecDepth 100000 in
theorem c_J4_length_8abf5 (l : Launch) (hlt : l.stackTraces = false) (g : zG) (v0 : Nat) (M : zM) (S : zS) (hF : zFx S) {r : Int} (h : F_J4_length_8abf5 v0 M S = some r) : zMet l g yJ4_length_8abf5 cJ4_length_8abf5 1 (some .int) 2 0 0 [zr g v0] M S (.inl (some (.int (zi r)))) M S (inR r) := by
  refine zMet_of (by decide) hlt [(0, zr g v0)] (by simp only [lv_args, zr_cat, zc_i, zc_l, zc_d, zc_r] <;> rfl) (by rw [zsl_len]; simp only [List.map_cons, List.map_nil, zr_cat, zc_i, zc_l, zc_d, zc_r, List.sum_cons, List.sum_nil] <;> decide) (fun K hC hE hN => ?_)
  unfold F_J4_length_8abf5 at h
  refine j_aload_n hC 0 dJ4_length_8abf5_0 rfl rfl ?_
  obtain ⟨hk, h⟩ := zchk_ex h
  have hk1 := hk
  obtain ⟨r2, hy, h⟩ := zb1_ex h
  refine j_callPi (ci := 8) hC hE lk_J4_343 dJ4_length_8abf5_1 (c_J5_length_8abf5 l hlt g v0 M S hF hy) [] [] hk1 ⟨_, rfl, by decide⟩ rfl rfl rfl (zcat (Nat.le_of_ble_eq_true rfl)) (Nat.le_of_ble_eq_true rfl) (Nat.le_of_ble_eq_true rfl) (Nat.le_of_ble_eq_true rfl) (Nat.le_of_ble_eq_true rfl) (fun hp3 => ?_)
  have hr2 := hp3
  have e1 := Option.some.inj h
  exact j_iret hC hE dJ4_length_8abf5_4 (w_id hr2) (zn_i _) (by rw [← e1]) rfl rfl (by rw [← e1]; exact hr2) (Nat.le_of_ble_eq_true rfl) (Nat.le_of_ble_eq_true rfl)
set_option maxHeartbeats 4000000 in
set_option maxRecDepth 100000 in
theorem c_J7_checkLength_df160 (l : Launch) (hlt : l.stackTraces = false) (g : zG) (v0 : Int) (v1 : Int) (hv0 : inR v0) (hv1 : inR v1) (M : zM) (S : zS) (h : F_J7_checkLength_df160 v0 v1 = some ()) : zMet l g yJ7_checkLength_df160 cJ7_checkLength_df160 2 none 1 0 0 [.int (zi v0), .int (zi v1)] M S (.inl none) M S (True) := by
  refine zMet_of (by decide) hlt [(0, .int (zi v0)), (1, .int (zi v1))] rfl (Nat.le_of_ble_eq_true rfl) (fun K hC hE hN => ?_)
  unfold F_J7_checkLength_df160 at h
  refine j_iload_n hC 1 dJ7_checkLength_df160_0 rfl rfl ?_
  refine j_iload_n hC 0 dJ7_checkLength_df160_1 rfl rfl ?_
  refine j_icmp_ge hC dJ7_checkLength_df160_2 rfl (w_id hv1) (w_id hv0) (fun c1 => ?_) (fun c1 => ?_)
  · have h := zf c1 h
    exact j_vret hC hE dJ7_checkLength_df160_37 rfl rfl rfl trivial (Nat.le_of_ble_eq_true rfl) (Nat.le_of_ble_eq_true rfl)
  · have h := zt c1 h
    cases h
set_option maxHeartbeats 4000000 in
set_option maxRecDepth 100000 in
theorem c_J7_copyOfRangeByte_39247 (l : Launch) (hlt : l.stackTraces = false) (g : zG) (v0 : Nat) (v1 : Int) (v2 : Int) (hv1 : inR v1) (hv2 : inR v2) (M : zM) (S : zS) (hF : zFx S) {r : Nat} {M' : zM} {S' : zS} (h : F_J7_copyOfRangeByte_39247 v0 v1 v2 M S = some (r, M', S')) : zMet l g yJ7_copyOfRangeByte_39247 cJ7_copyOfRangeByte_39247 5 (some (.array .byte)) 3 1 100 [zr g v0, .int (zi v1), .int (zi v2)] M S (.inl (some (zr g r))) M' S' (zFx S') := by
  refine zMet_of (by decide) hlt [(0, zr g v0), (1, .int (zi v1)), (2, .int (zi v2))] (by simp only [lv_args, zr_cat, zc_i, zc_l, zc_d, zc_r] <;> rfl) (by rw [zsl_len]; simp only [List.map_cons, List.map_nil, zr_cat, zc_i, zc_l, zc_d, zc_r, List.sum_cons, List.sum_nil] <;> decide) (fun K hC hE hN => ?_)
  unfold F_J7_copyOfRangeByte_39247 at h
  refine j_iload_n hC 1 dJ7_copyOfRangeByte_39247_0 rfl rfl ?_
  refine j_iload_n hC 2 dJ7_copyOfRangeByte_39247_1 rfl rfl ?_
  obtain ⟨_, hy, h⟩ := zb1_ex h
  refine j_callSv hC hE lk_J7_343 dJ7_copyOfRangeByte_39247_2 (c_J7_checkLength_df160 l hlt g v1 v2 hv1 hv2 M S hy) [.int (zi v1), .int (zi v2)] [] rfl rfl rfl (zcat (Nat.le_of_ble_eq_true rfl)) (Nat.le_of_ble_eq_true rfl) (Nat.le_of_ble_eq_true rfl) (Nat.le_of_ble_eq_true rfl) (Nat.le_of_ble_eq_true rfl) (fun hp1 => ?_)
  refine j_iload_n hC 2 dJ7_copyOfRangeByte_39247_5 rfl rfl ?_
  refine j_iload_n hC 1 dJ7_copyOfRangeByte_39247_6 rfl rfl ?_
  refine j_isub hC dJ7_copyOfRangeByte_39247_7 ?_
  obtain ⟨x2, ex2, h⟩ := zlet_ex h
  have hx2 : inR x2 := by rw [ex2]; exact inR_w _
  refine j_namei ex2 ?_
  refine j_istore_n hC dJ7_copyOfRangeByte_39247_8 rfl (Nat.le_of_ble_eq_true rfl) rfl ?_
  refine j_iload_n hC 0 dJ7_copyOfRangeByte_39247_9 rfl rfl ?_
  obtain ⟨c3, h⟩ := zchk_ex h
  obtain ⟨q4, eq4, h⟩ := zlet_ex h
  obtain ⟨S5, eS5, h⟩ := zlet_ex h
  refine j_newa24 (N := x2.toNat) (mx := 100) hC hE ka_24 dJ7_copyOfRangeByte_39247_10 (w_id hx2) (Int.toNat_of_nonneg c3.1) (by omega) (Nat.le_of_ble_eq_true rfl) eq4 eS5 (Or.inr ⟨zFx_cnt hF, (by omega)⟩) (Nat.le_of_ble_eq_true rfl) (Nat.le_of_ble_eq_true rfl) ?_
  have hF6 : zFx S5 := zFx_zn hF eS5
  refine j_astore hC dJ7_copyOfRangeByte_39247_12 (Nat.le_of_ble_eq_true rfl) rfl ?_
  refine j_aload_n hC 2 dJ7_copyOfRangeByte_39247_14 rfl rfl ?_
  refine j_iload_n hC 3 dJ7_copyOfRangeByte_39247_15 rfl rfl ?_
  refine j_aload hC 0 dJ7_copyOfRangeByte_39247_16 rfl ?_
  refine j_iconst hC dJ7_copyOfRangeByte_39247_18 ?_
  refine j_aload_n hC 2 dJ7_copyOfRangeByte_39247_19 rfl rfl ?_
  obtain ⟨hk, h⟩ := zchk_ex h
  have hk7 := hk
  refine j_alen (k := 24) (n := (zlen S5 v0)) hC dJ7_copyOfRangeByte_39247_20 hk7 (Nat.le_of_ble_eq_true rfl) (Nat.le_of_ble_eq_true rfl) rfl (fun hl8 => ?_)
  refine j_iload_n hC 3 dJ7_copyOfRangeByte_39247_21 rfl rfl ?_
  refine j_isub hC dJ7_copyOfRangeByte_39247_22 ?_
  refine j_iload_n hC 1 dJ7_copyOfRangeByte_39247_23 rfl rfl ?_
  refine j_mmin hC hE lk_J7_304 dJ7_copyOfRangeByte_39247_24 rfl (w_id hx2) (Nat.le_of_ble_eq_true rfl) (Nat.le_of_ble_eq_true rfl) (Nat.le_of_ble_eq_true rfl) (Nat.le_of_ble_eq_true rfl) ?_
  obtain ⟨hk, h⟩ := zchk_ex h
  have hk9 := hk
  obtain ⟨hk, h⟩ := zchk_ex h
  have hk10 := hk
  obtain ⟨c11, h⟩ := zchk_ex h
  obtain ⟨M12, eM12, h⟩ := zlet_ex h
  refine j_copyB (l1 := (zlen S5 v0)) (l2 := (zlen S5 q4)) hC hE lk_J7_150 dJ7_copyOfRangeByte_39247_27 hk9 hk10 rfl rfl (w_id hv1) (w_id kR_0) (w_id (cR_zmin (inR_w _) hx2)) c11 eM12 (Nat.le_of_ble_eq_true rfl) (Nat.le_of_ble_eq_true rfl) ?_
  refine j_aload hC 0 dJ7_copyOfRangeByte_39247_30 rfl ?_
  obtain ⟨e1, e2, e3⟩ := zpr3 (Option.some.inj h)
  exact j_aret hC hE dJ7_copyOfRangeByte_39247_32 (by rw [← e1]) e2 e3 (by rw [← e3]; exact hF6) (Nat.le_of_ble_eq_true rfl) (Nat.le_of_ble_eq_true rfl)
set_option maxHeartbeats 4000000 in
set_option maxRecDepth 100000 in
theorem c_J7_copyOfRange_39247 (l : Launch) (hlt : l.stackTraces = false) (g : zG) (v0 : Nat) (v1 : Int) (v2 : Int) (hv1 : inR v1) (hv2 : inR v2) (M : zM) (S : zS) (hF : zFx S) {r : Nat} {M' : zM} {S' : zS} (h : F_J7_copyOfRange_39247 v0 v1 v2 M S = some (r, M', S')) : zMet l g yJ7_copyOfRange_39247 cJ7_copyOfRange_39247 3 (some (.array .byte)) 4 1 100 [zr g v0, .int (zi v1), .int (zi v2)] M S (.inl (some (zr g r))) M' S' (zFx S') := by
  refine zMet_of (by decide) hlt [(0, zr g v0), (1, .int (zi v1)), (2, .int (zi v2))] (by simp only [lv_args, zr_cat, zc_i, zc_l, zc_d, zc_r] <;> rfl) (by rw [zsl_len]; simp only [List.map_cons, List.map_nil, zr_cat, zc_i, zc_l, zc_d, zc_r, List.sum_cons, List.sum_nil] <;> decide) (fun K hC hE hN => ?_)
  unfold F_J7_copyOfRange_39247 at h
  have J_10 : ∀ (v0 : Nat) (v1 : Int) (v2 : Int) (hv1 : inR v1) (hv2 : inR v2) (M : zM) (S : zS) (hF : zFx S) (_ : F_J7_copyOfRange_39247_J10 v0 v1 v2 M S = some (r, M', S')), zJ K g 0 0 10 3 [(0, zr g v0), (1, .int (zi v1)), (2, .int (zi v2))] [] M S := by
    intro v0 v1 v2 hv1 hv2 M S hF h
    unfold F_J7_copyOfRange_39247_J10 at h
    refine j_aload_n hC 0 dJ7_copyOfRange_39247_10 rfl rfl ?_
    refine j_iload_n hC 1 dJ7_copyOfRange_39247_11 rfl rfl ?_
    refine j_iload_n hC 2 dJ7_copyOfRange_39247_12 rfl rfl ?_
    obtain ⟨r1, M2, S3, hy, h⟩ := zb3_ex h
    refine j_callSr hC hE lk_J7_339 dJ7_copyOfRange_39247_13 (c_J7_copyOfRangeByte_39247 l hlt g v0 v1 v2 hv1 hv2 M S hF hy) [zr g v0, .int (zi v1), .int (zi v2)] [] rfl rfl rfl (zcat (Nat.le_of_ble_eq_true rfl)) (Nat.le_of_ble_eq_true rfl) (Nat.le_of_ble_eq_true rfl) (Nat.le_of_ble_eq_true rfl) (Nat.le_of_ble_eq_true rfl) (fun hp4 => ?_)
    have hF5 := hp4
    obtain ⟨e1, e2, e3⟩ := zpr3 (Option.some.inj h)
    exact j_aret hC hE dJ7_copyOfRange_39247_16 (by rw [← e1]) e2 e3 (by rw [← e3]; exact hF5) (Nat.le_of_ble_eq_true rfl) (Nat.le_of_ble_eq_true rfl)
  refine j_iload_n hC 1 dJ7_copyOfRange_39247_0 rfl rfl ?_
  refine j_if_ne hC dJ7_copyOfRange_39247_1 rfl (w_id hv1) (fun c6 => ?_) (fun c6 => ?_)
  · have h := zf c6 h
    exact J_10 v0 v1 v2 hv1 hv2 M S hF h
  · have h := zt c6 h
    refine j_iload_n hC 2 dJ7_copyOfRange_39247_4 rfl rfl ?_
    refine j_aload_n hC 0 dJ7_copyOfRange_39247_5 rfl rfl ?_
    obtain ⟨hk, h⟩ := zchk_ex h
    have hk7 := hk
    refine j_alen (k := 24) (n := (zlen S v0)) hC dJ7_copyOfRange_39247_6 hk7 (Nat.le_of_ble_eq_true rfl) (Nat.le_of_ble_eq_true rfl) rfl (fun hl8 => ?_)
    refine j_icmp_eq hC dJ7_copyOfRange_39247_7 rfl (w_id hv2) (w_id hl8) (fun c9 => ?_) (fun c9 => ?_)
    · have h := zt c9 h
      refine j_aload_n hC 0 dJ7_copyOfRange_39247_17 rfl rfl ?_
      obtain ⟨hk, h⟩ := zchk_ex h
      have hk10 := hk
      obtain ⟨c11, h⟩ := zchk_ex h
      obtain ⟨q12, eq12, h⟩ := zlet_ex h
      obtain ⟨S13, eS13, h⟩ := zlet_ex h
      obtain ⟨M14, eM14, h⟩ := zlet_ex h
      refine j_cloneB hC hE lk_J7_310 dJ7_copyOfRange_39247_18 hk10 c11 eq12 eS13 eM14 (Or.inr ⟨zFx_cnt hF, (by omega)⟩) (Nat.le_of_ble_eq_true rfl) (Nat.le_of_ble_eq_true rfl) (Nat.le_of_ble_eq_true rfl) (Nat.le_of_ble_eq_true rfl) ?_
      have hF15 : zFx S13 := zFx_zn hF eS13
      obtain ⟨hk, h⟩ := zchk_ex h
      have hk16 := hk
      refine j_ckcastB hC ca_J7_311 dJ7_copyOfRange_39247_21 hk16 ?_
      obtain ⟨e1, e2, e3⟩ := zpr3 (Option.some.inj h)
      exact j_aret hC hE dJ7_copyOfRange_39247_24 (by rw [← e1]) e2 e3 (by rw [← e3]; exact hF15) (Nat.le_of_ble_eq_true rfl) (Nat.le_of_ble_eq_true rfl)
    · have h := zf c9 h
      exact J_10 v0 v1 v2 hv1 hv2 M S hF h
set_option maxHeartbeats 4000000 in
set_option maxRecDepth 100000 in
theorem c_J0_init_db425 (l : Launch) (hlt : l.stackTraces = false) (g : zG) (v0 : Nat) (v1 : Nat) (v2 : Nat) (M : zM) (S : zS) (hF : zFx S) {M' : zM} {S' : zS} (h : F_J0_init_db425 v0 v1 v2 M S = some (M', S')) : zMet l g yJ0_init_db425 cJ0_init_db425 5 none 5 1 100 [zr g v0, zr g v1, zr g v2] M S (.inl none) M' S' (zFx S') := by
  refine zMet_of (by decide) hlt [(0, zr g v0), (1, zr g v1), (2, zr g v2)] (by simp only [lv_args, zr_cat, zc_i, zc_l, zc_d, zc_r] <;> rfl) (by rw [zsl_len]; simp only [List.map_cons, List.map_nil, zr_cat, zc_i, zc_l, zc_d, zc_r, List.sum_cons, List.sum_nil] <;> decide) (fun K hC hE hN => ?_)
  unfold F_J0_init_db425 at h
  refine j_aload_n hC 0 dJ0_init_db425_0 rfl rfl ?_
  obtain ⟨c1, h⟩ := zchk_ex h
  refine j_objI hC hE dJ0_init_db425_1 k832 k79 k80 c1 (Nat.le_of_ble_eq_true rfl) (Nat.le_of_ble_eq_true rfl) ?_
  refine j_aload_n hC 1 dJ0_init_db425_4 rfl rfl ?_
  obtain ⟨hk, h⟩ := zchk_ex h
  have hk2 := hk
  obtain ⟨r3, hy, h⟩ := zb1_ex h
  refine j_callUr (ci := 8) hC hE lk_J0_552 dJ0_init_db425_5 (c_J5_getValue_6d5f1 l hlt g v1 M S hF hy) [] [] hk2 ⟨_, rfl, by decide⟩ rfl rfl rfl (zcat (Nat.le_of_ble_eq_true rfl)) (Nat.le_of_ble_eq_true rfl) (Nat.le_of_ble_eq_true rfl) (Nat.le_of_ble_eq_true rfl) (Nat.le_of_ble_eq_true rfl) (fun hp4 => ?_)
  refine j_astore_n (lv1 := [(3, zr g r3), (0, zr g v0), (1, zr g v1), (2, zr g v2)]) hC dJ0_init_db425_8 rfl (Nat.le_of_ble_eq_true rfl) (by simp only [List.filter_cons, List.filter_nil, zr_cat, zc_i, zc_l, zc_d, zc_r] <;> first | rfl | simp [zr_cat]) ?_
  refine j_aload_n hC 2 dJ0_init_db425_9 rfl rfl ?_
  obtain ⟨hk, h⟩ := zchk_ex h
  have hk5 := hk
  obtain ⟨r6, hy, h⟩ := zb1_ex h
  refine j_callUi (ci := 8) hC hE lk_J0_549 dJ0_init_db425_10 (c_J4_length_8abf5 l hlt g v1 M S hF hy) [] [] hk5 ⟨_, rfl, by decide⟩ rfl rfl rfl (zcat (Nat.le_of_ble_eq_true rfl)) (Nat.le_of_ble_eq_true rfl) (Nat.le_of_ble_eq_true rfl) (Nat.le_of_ble_eq_true rfl) (Nat.le_of_ble_eq_true rfl) (fun hp7 => ?_)
  have hr6 := hp7
  refine j_istore (lv1 := [(4, .int (zi r6)), (3, zr g r3), (0, zr g v0), (1, zr g v1), (2, zr g v2)]) hC dJ0_init_db425_13 (Nat.le_of_ble_eq_true rfl) (by simp only [List.filter_cons, List.filter_nil, zr_cat, zc_i, zc_l, zc_d, zc_r] <;> first | rfl | simp [zr_cat]) ?_
  refine j_aload_n hC 3 dJ0_init_db425_15 rfl rfl ?_
  obtain ⟨hk, h⟩ := zchk_ex h
  have hk8 := hk
  obtain ⟨r9, hy, h⟩ := zb1_ex h
  refine j_callUi (ci := 8) hC hE lk_J0_1047 dJ0_init_db425_16 (c_J5_isLatin1_aae02 l hlt g v1 M S hF hy) [] [] hk8 ⟨_, rfl, by decide⟩ rfl rfl rfl (zcat (Nat.le_of_ble_eq_true rfl)) (Nat.le_of_ble_eq_true rfl) (Nat.le_of_ble_eq_true rfl) (Nat.le_of_ble_eq_true rfl) (Nat.le_of_ble_eq_true rfl) (fun hp10 => ?_)
  have hr9 := hp10
  refine j_if_eq hC dJ0_init_db425_19 rfl (w_id hr9) (fun c11 => ?_) (fun c11 => ?_)
  · have h := zt c11 h
    cases h
  · have h := zf c11 h
    refine j_aload_n hC 2 dJ0_init_db425_22 rfl rfl ?_
    refine j_iconst hC dJ0_init_db425_23 ?_
    obtain ⟨hk, h⟩ := zchk_ex h
    have hk12 := hk
    obtain ⟨c13, h⟩ := zchk_ex h
    obtain ⟨M14, eM14, h⟩ := zlet_ex h
    refine j_putF hC hE dJ0_init_db425_24 f_J0_15 pF_J0 hk12 (Or.inr (Or.inr rfl)) rfl 1 rfl (w_id kR_0) c13 eM14 rfl ?_
    refine j_aload_n hC 2 dJ0_init_db425_27 rfl rfl ?_
    refine j_aload_n hC 1 dJ0_init_db425_28 rfl rfl ?_
    refine j_iconst hC dJ0_init_db425_29 ?_
    refine j_iload hC 0 dJ0_init_db425_30 rfl ?_
    obtain ⟨r15, M16, S17, hy, h⟩ := zb3_ex h
    refine j_callSr hC hE lk_J0_54 dJ0_init_db425_32 (c_J7_copyOfRange_39247 l hlt g r3 0 r6 kR_0 hr6 M14 S hF hy) [zr g r3, .int (zi 0), .int (zi r6)] [zr g v0] rfl rfl rfl (zcat (Nat.le_of_ble_eq_true rfl)) (Nat.le_of_ble_eq_true rfl) (Nat.le_of_ble_eq_true rfl) (Nat.le_of_ble_eq_true rfl) (Nat.le_of_ble_eq_true rfl) (fun hp18 => ?_)
    have hF19 := hp18
    obtain ⟨hk, h⟩ := zchk_ex h
    have hk20 := hk
    obtain ⟨c21, h⟩ := zchk_ex h
    obtain ⟨S22, eS22, h⟩ := zlet_ex h
    refine j_putq hC hE dJ0_init_db425_35 f_J0_9 pF_J0 hk20 rfl rfl rfl 0 rfl eS22 ?_
    have hF23 : zFx S22 := zFx_aq hF19 eS22 (zRT_big c21)
    refine j_goto hC dJ0_init_db425_38 rfl ?_
    obtain ⟨e1, e2⟩ := zpr2 (Option.some.inj h)
    exact j_vret hC hE dJ0_init_db425_97 rfl e1 e2 (by rw [← e2]; exact hF23) (Nat.le_of_ble_eq_true rfl) (Nat.le_of_ble_eq_true rfl)
set_option maxHeartbeats 4000000 in
set_option maxRecDepth 100000 in
theorem c_J0_init_81219 (l : Launch) (hlt : l.stackTraces = false) (g : zG) (v0 : Nat) (v1 : Nat) (M : zM) (S : zS) (hF : zFx S) {M' : zM} {S' : zS} (h : F_J0_init_81219 v0 v1 M S = some (M', S')) : zMet l g yJ0_init_81219 cJ0_init_81219 2 none 6 1 100 [zr g v0, zr g v1] M S (.inl none) M' S' (zFx S') := by
  refine zMet_of (by decide) hlt [(0, zr g v0), (1, zr g v1)] (by simp only [lv_args, zr_cat, zc_i, zc_l, zc_d, zc_r] <;> rfl) (by rw [zsl_len]; simp only [List.map_cons, List.map_nil, zr_cat, zc_i, zc_l, zc_d, zc_r, List.sum_cons, List.sum_nil] <;> decide) (fun K hC hE hN => ?_)
  unfold F_J0_init_81219 at h
  refine j_aload_n hC 0 dJ0_init_81219_0 rfl rfl ?_
  refine j_aload_n hC 1 dJ0_init_81219_1 rfl rfl ?_
  refine j_null hC dJ0_init_81219_2 ?_
  obtain ⟨c1, h⟩ := zchk_ex h
  obtain ⟨M2, S3, hy, h⟩ := zb2_ex h
  refine j_callIv hC hE lk_J0_489 dJ0_init_81219_3 (c_J0_init_db425 l hlt g v0 v1 0 M S hF hy) [zr g v1, zr g 0] [] c1 rfl rfl rfl (zcat (Nat.le_of_ble_eq_true rfl)) (Nat.le_of_ble_eq_true rfl) (Nat.le_of_ble_eq_true rfl) (Nat.le_of_ble_eq_true rfl) (Nat.le_of_ble_eq_true rfl) (fun hp4 => ?_)
  have hF5 := hp4
  obtain ⟨e1, e2⟩ := zpr2 (Option.some.inj h)
  exact j_vret hC hE dJ0_init_81219_6 rfl e1 e2 (by rw [← e2]; exact hF5) (Nat.le_of_ble_eq_true rfl) (Nat.le_of_ble_eq_true rfl)
set_option maxHeartbeats 4000000 in
set_option maxRecDepth 100000 in
theorem c_J0_isLatin1_aae02 (l : Launch) (hlt : l.stackTraces = false) (g : zG) (v0 : Nat) (M : zM) (S : zS) (hF : zFx S) {r : Int} (h : F_J0_isLatin1_aae02 v0 M S = some r) : zMet l g yJ0_isLatin1_aae02 cJ0_isLatin1_aae02 1 (some .boolean) 1 0 0 [zr g v0] M S (.inl (some (.int (zi r)))) M S (inR r) := by
  refine zMet_of (by decide) hlt [(0, zr g v0)] (by simp only [lv_args, zr_cat, zc_i, zc_l, zc_d, zc_r] <;> rfl) (by rw [zsl_len]; simp only [List.map_cons, List.map_nil, zr_cat, zc_i, zc_l, zc_d, zc_r, List.sum_cons, List.sum_nil] <;> decide) (fun K hC hE hN => ?_)
  unfold F_J0_isLatin1_aae02 at h
  have J_17 : ∀ (_ : F_J0_isLatin1_aae02_J17 M S = some r), zJ K g 0 0 17 1 [] [] M S := by
    intro h
    unfold F_J0_isLatin1_aae02_J17 at h
    refine j_iconst hC dJ0_isLatin1_aae02_17 ?_
    have e1 := Option.some.inj h
    exact j_iret hC hE dJ0_isLatin1_aae02_18 (w_id kR_0) (zn_z zb01_0) (by rw [← e1]) rfl rfl (by rw [← e1]; exact kR_0) (Nat.le_of_ble_eq_true rfl) (Nat.le_of_ble_eq_true rfl)
  refine j_gcs hC dJ0_isLatin1_aae02_0 k769 ?_
  refine j_if_eq hC dJ0_isLatin1_aae02_3 rfl (w_id kR_1) (fun c1 => ?_) (fun c1 => ?_)
  · have h := zt c1 h
    refine j_sub [] rfl ?_
    exact J_17 h
  · have h := zf c1 h
    refine j_aload_n hC 0 dJ0_isLatin1_aae02_6 rfl rfl ?_
    obtain ⟨hk, h⟩ := zchk_ex h
    have hk2 := hk
    refine j_get hC dJ0_isLatin1_aae02_7 f_J0_15 hk2 rfl 1 rfl (fun hg3 => ?_)
    refine j_if_ne hC dJ0_isLatin1_aae02_10 rfl (w_id hg3) (fun c4 => ?_) (fun c4 => ?_)
    · have h := zf c4 h
      refine j_sub [] rfl ?_
      exact J_17 h
    · have h := zt c4 h
      refine j_iconst hC dJ0_isLatin1_aae02_13 ?_
      refine j_goto hC dJ0_isLatin1_aae02_14 rfl ?_
      have e1 := Option.some.inj h
      exact j_iret hC hE dJ0_isLatin1_aae02_18 (w_id kR_1) (zn_z zb01_1) (by rw [← e1]) rfl rfl (by rw [← e1]; exact kR_1) (Nat.le_of_ble_eq_true rfl) (Nat.le_of_ble_eq_true rfl)
set_option maxHeartbeats 4000000 in
set_option maxRecDepth 100000 in
theorem c_J1_charAt_3b067 (l : Launch) (hlt : l.stackTraces = false) (g : zG) (v0 : Nat) (v1 : Int) (hv1 : inR v1) (M : zM) (S : zS) (hF : zFx S) {r : Int} (h : F_J1_charAt_3b067 v0 v1 M S = some r) : zMet l g yJ1_charAt_3b067 cJ1_charAt_3b067 2 (some .char) 3 0 0 [zr g v0, .int (zi v1)] M S (.inl (some (.int (zi r)))) M S (inR r) := by
  refine zMet_of (by decide) hlt [(0, zr g v0), (1, .int (zi v1))] (by simp only [lv_args, zr_cat, zc_i, zc_l, zc_d, zc_r] <;> rfl) (by rw [zsl_len]; simp only [List.map_cons, List.map_nil, zr_cat, zc_i, zc_l, zc_d, zc_r, List.sum_cons, List.sum_nil] <;> decide) (fun K hC hE hN => ?_)
  unfold F_J1_charAt_3b067 at h
  refine j_iload_n hC 1 dJ1_charAt_3b067_0 rfl rfl ?_
  refine j_aload_n hC 0 dJ1_charAt_3b067_1 rfl rfl ?_
  obtain ⟨hk, h⟩ := zchk_ex h
  have hk1 := hk
  refine j_alen (k := 24) (n := (zlen S v0)) hC dJ1_charAt_3b067_2 hk1 (Nat.le_of_ble_eq_true rfl) (Nat.le_of_ble_eq_true rfl) rfl (fun hl2 => ?_)
  obtain ⟨c3, h⟩ := zchk_ex h
  refine j_chki hC hE hlt lk_J1_9 dJ1_charAt_3b067_3 (w_id hv1) (w_id hl2) hv1 hl2 c3 (Nat.le_of_ble_eq_true rfl) (Nat.le_of_ble_eq_true rfl) (Nat.le_of_ble_eq_true rfl) (Nat.le_of_ble_eq_true rfl) ?_
  refine j_aload_n hC 0 dJ1_charAt_3b067_6 rfl rfl ?_
  refine j_iload_n hC 1 dJ1_charAt_3b067_7 rfl rfl ?_
  obtain ⟨hk, h⟩ := zchk_ex h
  have hk4 := hk
  obtain ⟨c5, h⟩ := zchk_ex h
  refine j_bald (n := (zlen S v0)) hC dJ1_charAt_3b067_8 (w_id hv1) hk4 rfl c5.1 c5.2 (fun hg6 => ?_)
  refine j_sipush hC dJ1_charAt_3b067_9 rfl ?_
  refine j_iand hC dJ1_charAt_3b067_12 ?_
  refine j_i2c hC dJ1_charAt_3b067_13 ?_
  obtain ⟨c7, h⟩ := zchk_ex h
  have e1 := Option.some.inj h
  exact j_iret hC hE dJ1_charAt_3b067_14 (w_id (cR_zi2c _)) (zn_c c7) (by rw [← e1]) rfl rfl (by rw [← e1]; exact (cR_zi2c _)) (Nat.le_of_ble_eq_true rfl) (Nat.le_of_ble_eq_true rfl)
set_option maxHeartbeats 4000000 in
set_option maxRecDepth 100000 in
theorem c_J0_charAt_5068e (l : Launch) (hlt : l.stackTraces = false) (g : zG) (v0 : Nat) (v1 : Int) (hv1 : inR v1) (M : zM) (S : zS) (hF : zFx S) {r : Int} (h : F_J0_charAt_5068e v0 v1 M S = some r) : zMet l g yJ0_charAt_5068e cJ0_charAt_5068e 2 (some .char) 4 0 0 [zr g v0, .int (zi v1)] M S (.inl (some (.int (zi r)))) M S (inR r) := by
  refine zMet_of (by decide) hlt [(0, zr g v0), (1, .int (zi v1))] (by simp only [lv_args, zr_cat, zc_i, zc_l, zc_d, zc_r] <;> rfl) (by rw [zsl_len]; simp only [List.map_cons, List.map_nil, zr_cat, zc_i, zc_l, zc_d, zc_r, List.sum_cons, List.sum_nil] <;> decide) (fun K hC hE hN => ?_)
  unfold F_J0_charAt_5068e at h
  refine j_aload_n hC 0 dJ0_charAt_5068e_0 rfl rfl ?_
  obtain ⟨hk, h⟩ := zchk_ex h
  have hk1 := hk
  obtain ⟨r2, hy, h⟩ := zb1_ex h
  refine j_callVi (ci := 9) hC hE lk_J0_492 dJ0_charAt_5068e_1 (c_J0_isLatin1_aae02 l hlt g v0 M S hF hy) [] [] hk1 ⟨_, rfl, by decide, rfl⟩ rfl rfl rfl (zcat (Nat.le_of_ble_eq_true rfl)) (Nat.le_of_ble_eq_true rfl) (Nat.le_of_ble_eq_true rfl) (Nat.le_of_ble_eq_true rfl) (Nat.le_of_ble_eq_true rfl) (fun hp3 => ?_)
  have hr2 := hp3
  refine j_if_eq hC dJ0_charAt_5068e_4 rfl (w_id hr2) (fun c4 => ?_) (fun c4 => ?_)
  · have h := zt c4 h
    cases h
  · have h := zf c4 h
    refine j_aload_n hC 0 dJ0_charAt_5068e_7 rfl rfl ?_
    obtain ⟨hk, h⟩ := zchk_ex h
    have hk5 := hk
    refine j_getq hC dJ0_charAt_5068e_8 f_J0_9 hk5 rfl 0 rfl rfl ?_
    refine j_iload_n hC 1 dJ0_charAt_5068e_11 rfl rfl ?_
    obtain ⟨r6, hy, h⟩ := zb1_ex h
    refine j_callSi hC hE lk_J0_495 dJ0_charAt_5068e_12 (c_J1_charAt_3b067 l hlt g (zrf S v0 0) v1 hv1 M S hF hy) [zr g (zrf S v0 0), .int (zi v1)] [] rfl rfl rfl (zcat (Nat.le_of_ble_eq_true rfl)) (Nat.le_of_ble_eq_true rfl) (Nat.le_of_ble_eq_true rfl) (Nat.le_of_ble_eq_true rfl) (Nat.le_of_ble_eq_true rfl) (fun hp7 => ?_)
    have hr6 := hp7
    obtain ⟨c8, h⟩ := zchk_ex h
    have e1 := Option.some.inj h
    exact j_iret hC hE dJ0_charAt_5068e_15 (w_id hr6) (zn_c c8) (by rw [← e1]) rfl rfl (by rw [← e1]; exact hr6) (Nat.le_of_ble_eq_true rfl) (Nat.le_of_ble_eq_true rfl)
set_option maxHeartbeats 4000000 in
set_option maxRecDepth 100000 in
theorem c_J8_mismatch_cb723 (l : Launch) (hlt : l.stackTraces = false) (g : zG) (v0 : Nat) (v1 : Nat) (v2 : Int) (hv2 : inR v2) (M : zM) (S : zS) (hF : zFx S) {r : Int} (h : F_J8_mismatch_cb723 v0 v1 v2 M S = some r) : zMet l g yJ8_mismatch_cb723 cJ8_mismatch_cb723 4 (some .int) 1 0 0 [zr g v0, zr g v1, .int (zi v2)] M S (.inl (some (.int (zi r)))) M S (inR r) := by
  refine zMet_of (by decide) hlt [(0, zr g v0), (1, zr g v1), (2, .int (zi v2))] (by simp only [lv_args, zr_cat, zc_i, zc_l, zc_d, zc_r] <;> rfl) (by rw [zsl_len]; simp only [List.map_cons, List.map_nil, zr_cat, zc_i, zc_l, zc_d, zc_r, List.sum_cons, List.sum_nil] <;> decide) (fun K hC hE hN => ?_)
  unfold F_J8_mismatch_cb723 at h
  have J_71 : ∀ (_ : F_J8_mismatch_cb723_J71 M S = some r), zJ K g 0 0 71 4 [] [] M S := by
    intro h
    unfold F_J8_mismatch_cb723_J71 at h
    refine j_iconst hC dJ8_mismatch_cb723_71 ?_
    have e1 := Option.some.inj h
    exact j_iret hC hE dJ8_mismatch_cb723_72 (w_id kR_m1) (zn_i _) (by rw [← e1]) rfl rfl (by rw [← e1]; exact kR_m1) (Nat.le_of_ble_eq_true rfl) (Nat.le_of_ble_eq_true rfl)
  have J_63 : ∀ (v3 : Int) (hv3 : inR v3) (_ : F_J8_mismatch_cb723_J63 v3 M S = some r), zJ K g 0 0 63 4 [(3, .int (zi v3))] [] M S := by
    intro v3 hv3 h
    unfold F_J8_mismatch_cb723_J63 at h
    refine j_iload_n hC 0 dJ8_mismatch_cb723_63 rfl rfl ?_
    have e1 := Option.some.inj h
    exact j_iret hC hE dJ8_mismatch_cb723_64 (w_id hv3) (zn_i _) (by rw [← e1]) rfl rfl (by rw [← e1]; exact hv3) (Nat.le_of_ble_eq_true rfl) (Nat.le_of_ble_eq_true rfl)
  have L_49 : ∀ (v0 : Nat) (v1 : Nat) (v2 : Int) (v3 : Int) (hv2 : inR v2) (hv3 : inR v3) (_ : F_J8_mismatch_cb723_L49 v0 v1 v2 v3 M S = some r), zJ K g 0 0 49 4 [(0, zr g v0), (1, zr g v1), (2, .int (zi v2)), (3, .int (zi v3))] [] M S := by
    intro v0 v1 v2 v3 hv2 hv3 h
    unfold F_J8_mismatch_cb723_L49 at h
    obtain ⟨ex49, hl, hd49⟩ := zb1_ex h
    obtain ⟨bd49, ebd⟩ : ∃ f, f = (fun (s : Int) => F_J8_mismatch_cb723_B49 v0 v1 v2 s M S) := ⟨_, rfl⟩
    rw [← ebd] at hl
    have main : ∀ (n49 : Nat) (v3 : Int) (hv3 : inR v3) (_ : zloop bd49 n49 v3 = some ex49), zJ K g 0 0 49 4 [(0, zr g v0), (1, zr g v1), (2, .int (zi v2)), (3, .int (zi v3))] [] M S := by
      intro n49
      induction n49 with
      | zero => intro v3 hv3 hl; exact zloop_0 hl
      | succ n49 ih49 =>
        intro v3 hv3 hl
        obtain ⟨o, h, hT⟩ := zloop_ex hl
        have h : F_J8_mismatch_cb723_B49 v0 v1 v2 v3 M S = some o := by rw [ebd] at h; exact h
        unfold F_J8_mismatch_cb723_B49 at h
        refine j_iload_n hC 3 dJ8_mismatch_cb723_49 rfl rfl ?_
        refine j_iload_n hC 2 dJ8_mismatch_cb723_50 rfl rfl ?_
        refine j_icmp_ge hC dJ8_mismatch_cb723_51 rfl (w_id hv3) (w_id hv2) (fun c1 => ?_) (fun c1 => ?_)
        · have h := zf c1 h
          obtain rfl := Option.some.inj h
          have hx49 := hd49
          rw [← show _ = ex49 from hT] at hx49
          dsimp only [Sum.elim] at hx49
          refine j_sub [] rfl ?_
          exact J_71 hx49
        · have h := zt c1 h
          refine j_aload_n hC 0 dJ8_mismatch_cb723_54 rfl rfl ?_
          refine j_iload_n hC 3 dJ8_mismatch_cb723_55 rfl rfl ?_
          obtain ⟨hk, h⟩ := zchk_ex h
          have hk2 := hk
          obtain ⟨c3, h⟩ := zchk_ex h
          refine j_bald (n := (zlen S v0)) hC dJ8_mismatch_cb723_56 (w_id hv3) hk2 rfl c3.1 c3.2 (fun hg4 => ?_)
          refine j_aload_n hC 1 dJ8_mismatch_cb723_57 rfl rfl ?_
          refine j_iload_n hC 3 dJ8_mismatch_cb723_58 rfl rfl ?_
          obtain ⟨hk, h⟩ := zchk_ex h
          have hk5 := hk
          obtain ⟨c6, h⟩ := zchk_ex h
          refine j_bald (n := (zlen S v1)) hC dJ8_mismatch_cb723_59 (w_id hv3) hk5 rfl c6.1 c6.2 (fun hg7 => ?_)
          refine j_icmp_eq hC dJ8_mismatch_cb723_60 rfl (w_id (inR_y hg4)) (w_id (inR_y hg7)) (fun c8 => ?_) (fun c8 => ?_)
          · have h := zt c8 h
            obtain ⟨x9, ex9, h⟩ := zlet_ex h
            have hx9 : inR x9 := by rw [ex9]; exact inR_w _
            refine j_iinc hC 3 dJ8_mismatch_cb723_65 rfl ex9 (Nat.le_of_ble_eq_true rfl) rfl ?_
            refine j_goto hC dJ8_mismatch_cb723_68 rfl ?_
            obtain rfl := Option.some.inj h
            refine j_sub [1, 2, 3, 0] rfl ?_
            exact ih49 x9 hx9 hT
          · have h := zf c8 h
            obtain rfl := Option.some.inj h
            have hx49 := hd49
            rw [← show _ = ex49 from hT] at hx49
            dsimp only [Sum.elim] at hx49
            refine j_sub [3] rfl ?_
            exact J_63 v3 hv3 hx49
    exact main zN v3 hv3 hl
  refine j_iconst hC dJ8_mismatch_cb723_0 ?_
  refine j_istore_n hC dJ8_mismatch_cb723_1 rfl (Nat.le_of_ble_eq_true rfl) rfl ?_
  refine j_iload_n hC 3 dJ8_mismatch_cb723_2 rfl rfl ?_
  refine j_bipush hC dJ8_mismatch_cb723_3 rfl ?_
  refine j_icmp_le hC dJ8_mismatch_cb723_5 rfl (w_id hv2) (w_id kR_7) (fun c10 => ?_) (fun c10 => ?_)
  · have h := zf c10 h
    refine j_sub [1, 2, 3, 0] rfl ?_
    exact L_49 v0 v1 v2 0 hv2 kR_0 h
  · have h := zt c10 h
    cases h
set_option maxHeartbeats 4000000 in
set_option maxRecDepth 100000 in
theorem c_J1_getChar_3b067 (l : Launch) (hlt : l.stackTraces = false) (g : zG) (v0 : Nat) (v1 : Int) (hv1 : inR v1) (M : zM) (S : zS) (hF : zFx S) {r : Int} (h : F_J1_getChar_3b067 v0 v1 M S = some r) : zMet l g yJ1_getChar_3b067 cJ1_getChar_3b067 2 (some .char) 1 0 0 [zr g v0, .int (zi v1)] M S (.inl (some (.int (zi r)))) M S (inR r) := by
  refine zMet_of (by decide) hlt [(0, zr g v0), (1, .int (zi v1))] (by simp only [lv_args, zr_cat, zc_i, zc_l, zc_d, zc_r] <;> rfl) (by rw [zsl_len]; simp only [List.map_cons, List.map_nil, zr_cat, zc_i, zc_l, zc_d, zc_r, List.sum_cons, List.sum_nil] <;> decide) (fun K hC hE hN => ?_)
  unfold F_J1_getChar_3b067 at h
  refine j_aload_n hC 0 dJ1_getChar_3b067_0 rfl rfl ?_
  refine j_iload_n hC 1 dJ1_getChar_3b067_1 rfl rfl ?_
  obtain ⟨hk, h⟩ := zchk_ex h
  have hk1 := hk
  obtain ⟨c2, h⟩ := zchk_ex h
  refine j_bald (n := (zlen S v0)) hC dJ1_getChar_3b067_2 (w_id hv1) hk1 rfl c2.1 c2.2 (fun hg3 => ?_)
  refine j_sipush hC dJ1_getChar_3b067_3 rfl ?_
  refine j_iand hC dJ1_getChar_3b067_6 ?_
  refine j_i2c hC dJ1_getChar_3b067_7 ?_
  obtain ⟨c4, h⟩ := zchk_ex h
  have e1 := Option.some.inj h
  exact j_iret hC hE dJ1_getChar_3b067_8 (w_id (cR_zi2c _)) (zn_c c4) (by rw [← e1]) rfl rfl (by rw [← e1]; exact (cR_zi2c _)) (Nat.le_of_ble_eq_true rfl) (Nat.le_of_ble_eq_true rfl)
set_option maxHeartbeats 4000000 in
set_option maxRecDepth 100000 in
theorem c_J1_compareTo_66405 (l : Launch) (hlt : l.stackTraces = false) (g : zG) (v0 : Nat) (v1 : Nat) (v2 : Int) (v3 : Int) (hv2 : inR v2) (hv3 : inR v3) (M : zM) (S : zS) (hF : zFx S) {r : Int} (h : F_J1_compareTo_66405 v0 v1 v2 v3 M S = some r) : zMet l g yJ1_compareTo_66405 cJ1_compareTo_66405 6 (some .int) 3 0 0 [zr g v0, zr g v1, .int (zi v2), .int (zi v3)] M S (.inl (some (.int (zi r)))) M S (inR r) := by
  refine zMet_of (by decide) hlt [(0, zr g v0), (1, zr g v1), (2, .int (zi v2)), (3, .int (zi v3))] (by simp only [lv_args, zr_cat, zc_i, zc_l, zc_d, zc_r] <;> rfl) (by rw [zsl_len]; simp only [List.map_cons, List.map_nil, zr_cat, zc_i, zc_l, zc_d, zc_r, List.sum_cons, List.sum_nil] <;> decide) (fun K hC hE hN => ?_)
  unfold F_J1_compareTo_66405 at h
  refine j_iload_n hC 2 dJ1_compareTo_66405_0 rfl rfl ?_
  refine j_iload_n hC 3 dJ1_compareTo_66405_1 rfl rfl ?_
  refine j_mmin hC hE lk_J1_38 dJ1_compareTo_66405_2 (w_id hv2) (w_id hv3) (Nat.le_of_ble_eq_true rfl) (Nat.le_of_ble_eq_true rfl) (Nat.le_of_ble_eq_true rfl) (Nat.le_of_ble_eq_true rfl) ?_
  obtain ⟨x1, ex1, h⟩ := zlet_ex h
  have hx1 : inR x1 := by rw [ex1]; exact (cR_zmin hv2 hv3)
  refine j_names ex1 ?_
  refine j_istore hC dJ1_compareTo_66405_5 (Nat.le_of_ble_eq_true rfl) rfl ?_
  refine j_aload_n hC 1 dJ1_compareTo_66405_7 rfl rfl ?_
  refine j_aload_n hC 2 dJ1_compareTo_66405_8 rfl rfl ?_
  refine j_iload hC 0 dJ1_compareTo_66405_9 rfl ?_
  obtain ⟨r2, hy, h⟩ := zb1_ex h
  refine j_callSi hC hE lk_J1_44 dJ1_compareTo_66405_11 (c_J8_mismatch_cb723 l hlt g v0 v1 x1 hx1 M S hF hy) [zr g v0, zr g v1, .int (zi x1)] [] rfl rfl rfl (zcat (Nat.le_of_ble_eq_true rfl)) (Nat.le_of_ble_eq_true rfl) (Nat.le_of_ble_eq_true rfl) (Nat.le_of_ble_eq_true rfl) (Nat.le_of_ble_eq_true rfl) (fun hp3 => ?_)
  have hr2 := hp3
  refine j_istore hC dJ1_compareTo_66405_14 (Nat.le_of_ble_eq_true rfl) rfl ?_
  refine j_iload hC 0 dJ1_compareTo_66405_16 rfl ?_
  refine j_if_ge hC dJ1_compareTo_66405_18 rfl (w_id hr2) (fun c4 => ?_) (fun c4 => ?_)
  · have h := zf c4 h
    refine j_aload_n hC 2 dJ1_compareTo_66405_27 rfl rfl ?_
    refine j_iload hC 0 dJ1_compareTo_66405_28 rfl ?_
    obtain ⟨r5, hy, h⟩ := zb1_ex h
    refine j_callSi hC hE lk_J1_50 dJ1_compareTo_66405_30 (c_J1_getChar_3b067 l hlt g v0 r2 hr2 M S hF hy) [zr g v0, .int (zi r2)] [] rfl rfl rfl (zcat (Nat.le_of_ble_eq_true rfl)) (Nat.le_of_ble_eq_true rfl) (Nat.le_of_ble_eq_true rfl) (Nat.le_of_ble_eq_true rfl) (Nat.le_of_ble_eq_true rfl) (fun hp6 => ?_)
    have hr5 := hp6
    refine j_aload_n hC 3 dJ1_compareTo_66405_33 rfl rfl ?_
    refine j_iload hC 0 dJ1_compareTo_66405_34 rfl ?_
    obtain ⟨r7, hy, h⟩ := zb1_ex h
    refine j_callSi hC hE lk_J1_50 dJ1_compareTo_66405_36 (c_J1_getChar_3b067 l hlt g v1 r2 hr2 M S hF hy) [zr g v1, .int (zi r2)] [.int (zi r5)] rfl rfl rfl (zcat (Nat.le_of_ble_eq_true rfl)) (Nat.le_of_ble_eq_true rfl) (Nat.le_of_ble_eq_true rfl) (Nat.le_of_ble_eq_true rfl) (Nat.le_of_ble_eq_true rfl) (fun hp8 => ?_)
    have hr7 := hp8
    refine j_isub hC dJ1_compareTo_66405_39 ?_
    have e1 := Option.some.inj h
    exact j_iret hC hE dJ1_compareTo_66405_40 rfl (zn_i _) (by rw [← e1]) rfl rfl (by rw [← e1]; exact (inR_w _)) (Nat.le_of_ble_eq_true rfl) (Nat.le_of_ble_eq_true rfl)
  · have h := zt c4 h
    refine j_iload_n hC 4 dJ1_compareTo_66405_21 rfl rfl ?_
    refine j_iload_n hC 5 dJ1_compareTo_66405_22 rfl rfl ?_
    refine j_isub hC dJ1_compareTo_66405_23 ?_
    refine j_goto hC dJ1_compareTo_66405_24 rfl ?_
    have e1 := Option.some.inj h
    exact j_iret hC hE dJ1_compareTo_66405_40 rfl (zn_i _) (by rw [← e1]) rfl rfl (by rw [← e1]; exact (inR_w _)) (Nat.le_of_ble_eq_true rfl) (Nat.le_of_ble_eq_true rfl)
set_option maxHeartbeats 4000000 in
set_option maxRecDepth 100000 in
theorem c_J1_compareTo_b82b6 (l : Launch) (hlt : l.stackTraces = false) (g : zG) (v0 : Nat) (v1 : Nat) (M : zM) (S : zS) (hF : zFx S) {r : Int} (h : F_J1_compareTo_b82b6 v0 v1 M S = some r) : zMet l g yJ1_compareTo_b82b6 cJ1_compareTo_b82b6 4 (some .int) 4 0 0 [zr g v0, zr g v1] M S (.inl (some (.int (zi r)))) M S (inR r) := by
  refine zMet_of (by decide) hlt [(0, zr g v0), (1, zr g v1)] (by simp only [lv_args, zr_cat, zc_i, zc_l, zc_d, zc_r] <;> rfl) (by rw [zsl_len]; simp only [List.map_cons, List.map_nil, zr_cat, zc_i, zc_l, zc_d, zc_r, List.sum_cons, List.sum_nil] <;> decide) (fun K hC hE hN => ?_)
  unfold F_J1_compareTo_b82b6 at h
  refine j_aload_n hC 0 dJ1_compareTo_b82b6_0 rfl rfl ?_
  obtain ⟨hk, h⟩ := zchk_ex h
  have hk1 := hk
  refine j_alen (k := 24) (n := (zlen S v0)) hC dJ1_compareTo_b82b6_1 hk1 (Nat.le_of_ble_eq_true rfl) (Nat.le_of_ble_eq_true rfl) rfl (fun hl2 => ?_)
  obtain ⟨x3, ex3, h⟩ := zlet_ex h
  have hx3 : inR x3 := by rw [ex3]; exact hl2
  refine j_names ex3 ?_
  refine j_istore_n (lv1 := [(2, .int (zi x3)), (0, zr g v0), (1, zr g v1)]) hC dJ1_compareTo_b82b6_2 rfl (Nat.le_of_ble_eq_true rfl) (by simp only [List.filter_cons, List.filter_nil, zr_cat, zc_i, zc_l, zc_d, zc_r] <;> first | rfl | simp [zr_cat]) ?_
  refine j_aload_n hC 2 dJ1_compareTo_b82b6_3 rfl rfl ?_
  obtain ⟨hk, h⟩ := zchk_ex h
  have hk4 := hk
  refine j_alen (k := 24) (n := (zlen S v1)) hC dJ1_compareTo_b82b6_4 hk4 (Nat.le_of_ble_eq_true rfl) (Nat.le_of_ble_eq_true rfl) rfl (fun hl5 => ?_)
  obtain ⟨x6, ex6, h⟩ := zlet_ex h
  have hx6 : inR x6 := by rw [ex6]; exact hl5
  refine j_names ex6 ?_
  refine j_istore_n hC dJ1_compareTo_b82b6_5 rfl (Nat.le_of_ble_eq_true rfl) rfl ?_
  refine j_aload_n hC 2 dJ1_compareTo_b82b6_6 rfl rfl ?_
  refine j_aload_n hC 3 dJ1_compareTo_b82b6_7 rfl rfl ?_
  refine j_iload_n hC 1 dJ1_compareTo_b82b6_8 rfl rfl ?_
  refine j_iload_n hC 0 dJ1_compareTo_b82b6_9 rfl rfl ?_
  obtain ⟨r7, hy, h⟩ := zb1_ex h
  refine j_callSi hC hE lk_J1_34 dJ1_compareTo_b82b6_10 (c_J1_compareTo_66405 l hlt g v0 v1 x3 x6 hx3 hx6 M S hF hy) [zr g v0, zr g v1, .int (zi x3), .int (zi x6)] [] rfl rfl rfl (zcat (Nat.le_of_ble_eq_true rfl)) (Nat.le_of_ble_eq_true rfl) (Nat.le_of_ble_eq_true rfl) (Nat.le_of_ble_eq_true rfl) (Nat.le_of_ble_eq_true rfl) (fun hp8 => ?_)
  have hr7 := hp8
  have e1 := Option.some.inj h
  exact j_iret hC hE dJ1_compareTo_b82b6_13 (w_id hr7) (zn_i _) (by rw [← e1]) rfl rfl (by rw [← e1]; exact hr7) (Nat.le_of_ble_eq_true rfl) (Nat.le_of_ble_eq_true rfl)
set_option maxHeartbeats 4000000 in
set_option maxRecDepth 100000 in
theorem c_J0_compareTo_2f485 (l : Launch) (hlt : l.stackTraces = false) (g : zG) (v0 : Nat) (v1 : Nat) (M : zM) (S : zS) (hF : zFx S) {r : Int} (h : F_J0_compareTo_2f485 v0 v1 M S = some r) : zMet l g yJ0_compareTo_2f485 cJ0_compareTo_2f485 5 (some .int) 5 0 0 [zr g v0, zr g v1] M S (.inl (some (.int (zi r)))) M S (inR r) := by
  refine zMet_of (by decide) hlt [(0, zr g v0), (1, zr g v1)] (by simp only [lv_args, zr_cat, zc_i, zc_l, zc_d, zc_r] <;> rfl) (by rw [zsl_len]; simp only [List.map_cons, List.map_nil, zr_cat, zc_i, zc_l, zc_d, zc_r, List.sum_cons, List.sum_nil] <;> decide) (fun K hC hE hN => ?_)
  unfold F_J0_compareTo_2f485 at h
  refine j_aload_n hC 0 dJ0_compareTo_2f485_0 rfl rfl ?_
  obtain ⟨hk, h⟩ := zchk_ex h
  have hk1 := hk
  refine j_getq hC dJ0_compareTo_2f485_1 f_J0_9 hk1 rfl 0 rfl rfl ?_
  obtain ⟨q2, eq2, h⟩ := zlet_ex h
  refine j_nameq eq2 ?_
  refine j_astore_n (lv1 := [(2, zr g q2), (0, zr g v0), (1, zr g v1)]) hC dJ0_compareTo_2f485_4 rfl (Nat.le_of_ble_eq_true rfl) (by simp only [List.filter_cons, List.filter_nil, zr_cat, zc_i, zc_l, zc_d, zc_r] <;> first | rfl | simp [zr_cat]) ?_
  refine j_aload_n hC 2 dJ0_compareTo_2f485_5 rfl rfl ?_
  obtain ⟨hk, h⟩ := zchk_ex h
  have hk3 := hk
  refine j_getq hC dJ0_compareTo_2f485_6 f_J0_9 hk3 rfl 0 rfl rfl ?_
  obtain ⟨q4, eq4, h⟩ := zlet_ex h
  refine j_nameq eq4 ?_
  refine j_astore_n (lv1 := [(3, zr g q4), (2, zr g q2), (0, zr g v0), (1, zr g v1)]) hC dJ0_compareTo_2f485_9 rfl (Nat.le_of_ble_eq_true rfl) (by simp only [List.filter_cons, List.filter_nil, zr_cat, zc_i, zc_l, zc_d, zc_r] <;> first | rfl | simp [zr_cat]) ?_
  refine j_aload_n hC 2 dJ0_compareTo_2f485_10 rfl rfl ?_
  obtain ⟨hk, h⟩ := zchk_ex h
  have hk5 := hk
  obtain ⟨r6, hy, h⟩ := zb1_ex h
  refine j_callVi (ci := 9) hC hE lk_J0_335 dJ0_compareTo_2f485_11 (c_J0_coder_7d493 l hlt g v0 M S hF hy) [] [] hk5 ⟨_, rfl, by decide, rfl⟩ rfl rfl rfl (zcat (Nat.le_of_ble_eq_true rfl)) (Nat.le_of_ble_eq_true rfl) (Nat.le_of_ble_eq_true rfl) (Nat.le_of_ble_eq_true rfl) (Nat.le_of_ble_eq_true rfl) (fun hp7 => ?_)
  have hr6 := hp7
  refine j_istore (lv1 := [(4, .int (zi r6)), (3, zr g q4), (2, zr g q2), (0, zr g v0), (1, zr g v1)]) hC dJ0_compareTo_2f485_14 (Nat.le_of_ble_eq_true rfl) (by simp only [List.filter_cons, List.filter_nil, zr_cat, zc_i, zc_l, zc_d, zc_r] <;> first | rfl | simp [zr_cat]) ?_
  refine j_iload hC 0 dJ0_compareTo_2f485_16 rfl ?_
  refine j_aload_n hC 4 dJ0_compareTo_2f485_18 rfl rfl ?_
  obtain ⟨hk, h⟩ := zchk_ex h
  have hk8 := hk
  obtain ⟨r9, hy, h⟩ := zb1_ex h
  refine j_callVi (ci := 9) hC hE lk_J0_335 dJ0_compareTo_2f485_19 (c_J0_coder_7d493 l hlt g v1 M S hF hy) [] [.int (zi r6)] hk8 ⟨_, rfl, by decide, rfl⟩ rfl rfl rfl (zcat (Nat.le_of_ble_eq_true rfl)) (Nat.le_of_ble_eq_true rfl) (Nat.le_of_ble_eq_true rfl) (Nat.le_of_ble_eq_true rfl) (Nat.le_of_ble_eq_true rfl) (fun hp10 => ?_)
  have hr9 := hp10
  refine j_icmp_ne hC dJ0_compareTo_2f485_22 rfl (w_id hr6) (w_id hr9) (fun c11 => ?_) (fun c11 => ?_)
  · have h := zf c11 h
    cases h
  · have h := zt c11 h
    refine j_iload hC 0 dJ0_compareTo_2f485_25 rfl ?_
    refine j_if_ne hC dJ0_compareTo_2f485_27 rfl (w_id hr6) (fun c12 => ?_) (fun c12 => ?_)
    · have h := zf c12 h
      cases h
    · have h := zt c12 h
      refine j_aload_n hC 2 dJ0_compareTo_2f485_30 rfl rfl ?_
      refine j_aload_n hC 1 dJ0_compareTo_2f485_31 rfl rfl ?_
      obtain ⟨r13, hy, h⟩ := zb1_ex h
      refine j_callSi hC hE lk_J0_586 dJ0_compareTo_2f485_32 (c_J1_compareTo_b82b6 l hlt g q2 q4 M S hF hy) [zr g q2, zr g q4] [] rfl rfl rfl (zcat (Nat.le_of_ble_eq_true rfl)) (Nat.le_of_ble_eq_true rfl) (Nat.le_of_ble_eq_true rfl) (Nat.le_of_ble_eq_true rfl) (Nat.le_of_ble_eq_true rfl) (fun hp14 => ?_)
      have hr13 := hp14
      refine j_goto hC dJ0_compareTo_2f485_35 rfl ?_
      have e1 := Option.some.inj h
      exact j_iret hC hE dJ0_compareTo_2f485_43 (w_id hr13) (zn_i _) (by rw [← e1]) rfl rfl (by rw [← e1]; exact hr13) (Nat.le_of_ble_eq_true rfl) (Nat.le_of_ble_eq_true rfl)
set_option maxHeartbeats 4000000 in
set_option maxRecDepth 100000 in
theorem c_J4_init_da8c8 (l : Launch) (hlt : l.stackTraces = false) (g : zG) (v0 : Nat) (M : zM) (S : zS) (hF : zFx S) {M' : zM} {S' : zS} (h : F_J4_init_da8c8 v0 M S = some (M', S')) : zMet l g yJ4_init_da8c8 cJ4_init_da8c8 1 none 4 1 100 [zr g v0] M S (.inl none) M' S' (zFx S') := by
  refine zMet_of (by decide) hlt [(0, zr g v0)] (by simp only [lv_args, zr_cat, zc_i, zc_l, zc_d, zc_r] <;> rfl) (by rw [zsl_len]; simp only [List.map_cons, List.map_nil, zr_cat, zc_i, zc_l, zc_d, zc_r, List.sum_cons, List.sum_nil] <;> decide) (fun K hC hE hN => ?_)
  unfold F_J4_init_da8c8 at h
  refine j_aload_n hC 0 dJ4_init_da8c8_0 rfl rfl ?_
  refine j_bipush hC dJ4_init_da8c8_1 rfl ?_
  obtain ⟨c1, h⟩ := zchk_ex h
  obtain ⟨M2, S3, hy, h⟩ := zb2_ex h
  refine j_callIv hC hE lk_J4_1 dJ4_init_da8c8_3 (c_J5_init_d00df l hlt g v0 16 kR_16 M S hF hy) [.int (zi 16)] [] c1 rfl rfl rfl (zcat (Nat.le_of_ble_eq_true rfl)) (Nat.le_of_ble_eq_true rfl) (Nat.le_of_ble_eq_true rfl) (Nat.le_of_ble_eq_true rfl) (Nat.le_of_ble_eq_true rfl) (fun hp4 => ?_)
  have hF5 := hp4
  obtain ⟨e1, e2⟩ := zpr2 (Option.some.inj h)
  exact j_vret hC hE dJ4_init_da8c8_6 rfl e1 e2 (by rw [← e2]; exact hF5) (Nat.le_of_ble_eq_true rfl) (Nat.le_of_ble_eq_true rfl)
set_option maxHeartbeats 4000000 in
set_option maxRecDepth 100000 in
theorem c_J4_append_15ec4 (l : Launch) (hlt : l.stackTraces = false) (g : zG) (v0 : Nat) (v1 : Nat) (M : zM) (S : zS) (hF : zFx S) {r : Nat} {M' : zM} {S' : zS} (h : F_J4_append_15ec4 v0 v1 M S = some (r, M', S')) : zMet l g yJ4_append_15ec4 cJ4_append_15ec4 2 (some (.object "java/lang/StringBuilder")) 11 1 100 [zr g v0, zr g v1] M S (.inl (some (zr g r))) M' S' (zFx S') := by
  refine zMet_of (by decide) hlt [(0, zr g v0), (1, zr g v1)] (by simp only [lv_args, zr_cat, zc_i, zc_l, zc_d, zc_r] <;> rfl) (by rw [zsl_len]; simp only [List.map_cons, List.map_nil, zr_cat, zc_i, zc_l, zc_d, zc_r, List.sum_cons, List.sum_nil] <;> decide) (fun K hC hE hN => ?_)
  unfold F_J4_append_15ec4 at h
  refine j_aload_n hC 0 dJ4_append_15ec4_0 rfl rfl ?_
  refine j_aload_n hC 1 dJ4_append_15ec4_1 rfl rfl ?_
  obtain ⟨hk, h⟩ := zchk_ex h
  have hk1 := hk
  obtain ⟨r2, M3, S4, hy, h⟩ := zb3_ex h
  refine j_callPr (ci := 8) hC hE lk_J4_29 dJ4_append_15ec4_2 (c_J5_append_cf1ce l hlt g v0 v1 M S hF hy) [zr g v1] [] hk1 ⟨_, rfl, by decide⟩ rfl rfl rfl (zcat (Nat.le_of_ble_eq_true rfl)) (Nat.le_of_ble_eq_true rfl) (Nat.le_of_ble_eq_true rfl) (Nat.le_of_ble_eq_true rfl) (Nat.le_of_ble_eq_true rfl) (fun hp5 => ?_)
  have hF6 := hp5
  refine j_pop hC dJ4_append_15ec4_5 (zr_cat _ _) ?_
  refine j_aload_n hC 0 dJ4_append_15ec4_6 rfl rfl ?_
  obtain ⟨e1, e2, e3⟩ := zpr3 (Option.some.inj h)
  exact j_aret hC hE dJ4_append_15ec4_7 (by rw [← e1]) e2 e3 (by rw [← e3]; exact hF6) (Nat.le_of_ble_eq_true rfl) (Nat.le_of_ble_eq_true rfl)
set_option maxHeartbeats 4000000 in
set_option maxRecDepth 100000 in
theorem c_J4_append_cf468 (l : Launch) (hlt : l.stackTraces = false) (g : zG) (v0 : Nat) (v1 : Int) (hv1 : inR v1) (M : zM) (S : zS) (hF : zFx S) {r : Nat} {M' : zM} {S' : zS} (h : F_J4_append_cf468 v0 v1 M S = some (r, M', S')) : zMet l g yJ4_append_cf468 cJ4_append_cf468 2 (some (.object "java/lang/StringBuilder")) 7 1 100 [zr g v0, .int (zi v1)] M S (.inl (some (zr g r))) M' S' (zFx S') := by
  refine zMet_of (by decide) hlt [(0, zr g v0), (1, .int (zi v1))] (by simp only [lv_args, zr_cat, zc_i, zc_l, zc_d, zc_r] <;> rfl) (by rw [zsl_len]; simp only [List.map_cons, List.map_nil, zr_cat, zc_i, zc_l, zc_d, zc_r, List.sum_cons, List.sum_nil] <;> decide) (fun K hC hE hN => ?_)
  unfold F_J4_append_cf468 at h
  refine j_aload_n hC 0 dJ4_append_cf468_0 rfl rfl ?_
  refine j_iload_n hC 1 dJ4_append_cf468_1 rfl rfl ?_
  obtain ⟨hk, h⟩ := zchk_ex h
  have hk1 := hk
  obtain ⟨r2, M3, S4, hy, h⟩ := zb3_ex h
  refine j_callPr (ci := 8) hC hE lk_J4_50 dJ4_append_cf468_2 (c_J5_append_3fe6f l hlt g v0 v1 hv1 M S hF hy) [.int (zi v1)] [] hk1 ⟨_, rfl, by decide⟩ rfl rfl rfl (zcat (Nat.le_of_ble_eq_true rfl)) (Nat.le_of_ble_eq_true rfl) (Nat.le_of_ble_eq_true rfl) (Nat.le_of_ble_eq_true rfl) (Nat.le_of_ble_eq_true rfl) (fun hp5 => ?_)
  have hF6 := hp5
  refine j_pop hC dJ4_append_cf468_5 (zr_cat _ _) ?_
  refine j_aload_n hC 0 dJ4_append_cf468_6 rfl rfl ?_
  obtain ⟨e1, e2, e3⟩ := zpr3 (Option.some.inj h)
  exact j_aret hC hE dJ4_append_cf468_7 (by rw [← e1]) e2 e3 (by rw [← e3]; exact hF6) (Nat.le_of_ble_eq_true rfl) (Nat.le_of_ble_eq_true rfl)
set_option maxHeartbeats 4000000 in
set_option maxRecDepth 100000 in
theorem c_J4_append_bf812 (l : Launch) (hlt : l.stackTraces = false) (g : zG) (v0 : Nat) (v1 : Int) (hv1 : inR v1) (M : zM) (S : zS) (hF : zFx S) {r : Nat} {M' : zM} {S' : zS} (h : F_J4_append_bf812 v0 v1 M S = some (r, M', S')) : zMet l g yJ4_append_bf812 cJ4_append_bf812 2 (some (.object "java/lang/StringBuilder")) 7 1 100 [zr g v0, .int (zi v1)] M S (.inl (some (zr g r))) M' S' (zFx S') := by
  refine zMet_of (by decide) hlt [(0, zr g v0), (1, .int (zi v1))] (by simp only [lv_args, zr_cat, zc_i, zc_l, zc_d, zc_r] <;> rfl) (by rw [zsl_len]; simp only [List.map_cons, List.map_nil, zr_cat, zc_i, zc_l, zc_d, zc_r, List.sum_cons, List.sum_nil] <;> decide) (fun K hC hE hN => ?_)
  unfold F_J4_append_bf812 at h
  refine j_aload_n hC 0 dJ4_append_bf812_0 rfl rfl ?_
  refine j_iload_n hC 1 dJ4_append_bf812_1 rfl rfl ?_
  obtain ⟨hk, h⟩ := zchk_ex h
  have hk1 := hk
  obtain ⟨r2, M3, S4, hy, h⟩ := zb3_ex h
  refine j_callPr (ci := 8) hC hE lk_J4_53 dJ4_append_bf812_2 (c_J5_append_c97b9 l hlt g v0 v1 hv1 M S hF hy) [.int (zi v1)] [] hk1 ⟨_, rfl, by decide⟩ rfl rfl rfl (zcat (Nat.le_of_ble_eq_true rfl)) (Nat.le_of_ble_eq_true rfl) (Nat.le_of_ble_eq_true rfl) (Nat.le_of_ble_eq_true rfl) (Nat.le_of_ble_eq_true rfl) (fun hp5 => ?_)
  have hF6 := hp5
  refine j_pop hC dJ4_append_bf812_5 (zr_cat _ _) ?_
  refine j_aload_n hC 0 dJ4_append_bf812_6 rfl rfl ?_
  obtain ⟨e1, e2, e3⟩ := zpr3 (Option.some.inj h)
  exact j_aret hC hE dJ4_append_bf812_7 (by rw [← e1]) e2 e3 (by rw [← e3]; exact hF6) (Nat.le_of_ble_eq_true rfl) (Nat.le_of_ble_eq_true rfl)
set_option maxHeartbeats 4000000 in
set_option maxRecDepth 100000 in
theorem c_J4_toString_0e30d (l : Launch) (hlt : l.stackTraces = false) (g : zG) (v0 : Nat) (M : zM) (S : zS) (hF : zFx S) {r : Nat} {M' : zM} {S' : zS} (h : F_J4_toString_0e30d v0 M S = some (r, M', S')) : zMet l g yJ4_toString_0e30d cJ4_toString_0e30d 1 (some (.object "java/lang/String")) 7 2 104 [zr g v0] M S (.inl (some (zr g r))) M' S' (zFx S') := by
  refine zMet_of (by decide) hlt [(0, zr g v0)] (by simp only [lv_args, zr_cat, zc_i, zc_l, zc_d, zc_r] <;> rfl) (by rw [zsl_len]; simp only [List.map_cons, List.map_nil, zr_cat, zc_i, zc_l, zc_d, zc_r, List.sum_cons, List.sum_nil] <;> decide) (fun K hC hE hN => ?_)
  unfold F_J4_toString_0e30d at h
  obtain ⟨q1, eq1, h⟩ := zlet_ex h
  obtain ⟨S2, eS2, h⟩ := zlet_ex h
  refine j_new hC hE n_J4_18 pF_J0 dJ4_toString_0e30d_0 eq1 eS2 (Or.inr ⟨zFx_cnt hF, (Nat.le_of_ble_eq_true rfl)⟩) (Nat.le_of_ble_eq_true rfl) (Nat.le_of_ble_eq_true rfl) ?_
  have hF3 : zFx S2 := zFx_zn hF eS2
  refine j_dup hC dJ4_toString_0e30d_3 (zr_cat _ _) ?_
  refine j_aload_n hC 0 dJ4_toString_0e30d_4 rfl rfl ?_
  obtain ⟨M4, S5, hy, h⟩ := zb2_ex h
  refine j_callIv hC hE lk_J4_137 dJ4_toString_0e30d_5 (c_J0_init_81219 l hlt g q1 v0 M S2 hF3 hy) [zr g v0] [zr g q1] (by rw [eq1]; exact Nat.succ_ne_zero _) rfl rfl rfl (zcat (Nat.le_of_ble_eq_true rfl)) (Nat.le_of_ble_eq_true rfl) (Nat.le_of_ble_eq_true rfl) (Nat.le_of_ble_eq_true rfl) (Nat.le_of_ble_eq_true rfl) (fun hp6 => ?_)
  have hF7 := hp6
  obtain ⟨e1, e2, e3⟩ := zpr3 (Option.some.inj h)
  exact j_aret hC hE dJ4_toString_0e30d_8 (by rw [← e1]) e2 e3 (by rw [← e3]; exact hF7) (Nat.le_of_ble_eq_true rfl) (Nat.le_of_ble_eq_true rfl)
