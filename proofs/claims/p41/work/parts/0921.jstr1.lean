/-! CERTIFICATES: a program has written them (wip/p41/gen5.py) -/
set_option maxHeartbeats 4000000 in
set_option maxRecDepth 100000 in
theorem c_J0_coder_7d493 (l : Launch) (hlt : l.stackTraces = false) (g : zG) (v0 : Nat) (M : zM) (S : zS) (hF : zFx S) {r : Int} (h : F_J0_coder_7d493 v0 M S = some r) : zMet l g yJ0_coder_7d493 cJ0_coder_7d493 1 (some .byte) 1 0 0 [zr g v0] M S (.inl (some (.int (zi r)))) M S (inR r) := by
  refine zMet_of (by decide) hlt [(0, zr g v0)] (by simp only [lv_args, zr_cat, zc_i, zc_l, zc_d, zc_r] <;> rfl) (by rw [zsl_len]; simp only [List.map_cons, List.map_nil, zr_cat, zc_i, zc_l, zc_d, zc_r, List.sum_cons, List.sum_nil] <;> decide) (fun K hC hE hN => ?_)
  unfold F_J0_coder_7d493 at h
  refine j_gcs hC dJ0_coder_7d493_0 k769 ?_
  refine j_if_eq hC dJ0_coder_7d493_3 rfl (w_id kR_1) (fun c1 => ?_) (fun c1 => ?_)
  · have h := zt c1 h
    refine j_iconst hC dJ0_coder_7d493_13 ?_
    obtain ⟨c2, h⟩ := zchk_ex h
    have e1 := Option.some.inj h
    exact j_iret hC hE dJ0_coder_7d493_14 (w_id kR_1) (zn_b c2) (by rw [← e1]) rfl rfl (by rw [← e1]; exact kR_1) (Nat.le_of_ble_eq_true rfl) (Nat.le_of_ble_eq_true rfl)
  · have h := zf c1 h
    refine j_aload_n hC 0 dJ0_coder_7d493_6 rfl rfl ?_
    obtain ⟨hk, h⟩ := zchk_ex h
    have hk3 := hk
    refine j_get hC dJ0_coder_7d493_7 f_J0_15 hk3 rfl 1 rfl (fun hg4 => ?_)
    refine j_goto hC dJ0_coder_7d493_10 rfl ?_
    obtain ⟨c5, h⟩ := zchk_ex h
    have e1 := Option.some.inj h
    exact j_iret hC hE dJ0_coder_7d493_14 (w_id hg4) (zn_b c5) (by rw [← e1]) rfl rfl (by rw [← e1]; exact hg4) (Nat.le_of_ble_eq_true rfl) (Nat.le_of_ble_eq_true rfl)
set_option maxHeartbeats 4000000 in
set_option maxRecDepth 100000 in
theorem c_J0_length_8abf5 (l : Launch) (hlt : l.stackTraces = false) (g : zG) (v0 : Nat) (M : zM) (S : zS) (hF : zFx S) {r : Int} (h : F_J0_length_8abf5 v0 M S = some r) : zMet l g yJ0_length_8abf5 cJ0_length_8abf5 1 (some .int) 2 0 0 [zr g v0] M S (.inl (some (.int (zi r)))) M S (inR r) := by
  refine zMet_of (by decide) hlt [(0, zr g v0)] (by simp only [lv_args, zr_cat, zc_i, zc_l, zc_d, zc_r] <;> rfl) (by rw [zsl_len]; simp only [List.map_cons, List.map_nil, zr_cat, zc_i, zc_l, zc_d, zc_r, List.sum_cons, List.sum_nil] <;> decide) (fun K hC hE hN => ?_)
  unfold F_J0_length_8abf5 at h
  refine j_aload_n hC 0 dJ0_length_8abf5_0 rfl rfl ?_
  obtain ⟨hk, h⟩ := zchk_ex h
  have hk1 := hk
  refine j_getq hC dJ0_length_8abf5_1 f_J0_9 hk1 rfl 0 rfl rfl ?_
  obtain ⟨hk, h⟩ := zchk_ex h
  have hk2 := hk
  refine j_alen (k := 24) (n := (zlen S (zrf S v0 0))) hC dJ0_length_8abf5_4 hk2 (Nat.le_of_ble_eq_true rfl) (Nat.le_of_ble_eq_true rfl) rfl (fun hl3 => ?_)
  refine j_aload_n hC 0 dJ0_length_8abf5_5 rfl rfl ?_
  obtain ⟨hk, h⟩ := zchk_ex h
  have hk4 := hk
  obtain ⟨r5, hy, h⟩ := zb1_ex h
  refine j_callVi (ci := 9) hC hE lk_J0_335 dJ0_length_8abf5_6 (c_J0_coder_7d493 l hlt g v0 M S hF hy) [] [.int (zi (zlen S (zrf S v0 0)))] hk4 ⟨_, rfl, by decide, rfl⟩ rfl rfl rfl (zcat (Nat.le_of_ble_eq_true rfl)) (Nat.le_of_ble_eq_true rfl) (Nat.le_of_ble_eq_true rfl) (Nat.le_of_ble_eq_true rfl) (Nat.le_of_ble_eq_true rfl) (fun hp6 => ?_)
  have hr5 := hp6
  refine j_ishr hC dJ0_length_8abf5_9 ?_
  have e1 := Option.some.inj h
  exact j_iret hC hE dJ0_length_8abf5_10 (w_id (cR_zshr _ _)) (zn_i _) (by rw [← e1]) rfl rfl (by rw [← e1]; exact (cR_zshr _ _)) (Nat.le_of_ble_eq_true rfl) (Nat.le_of_ble_eq_true rfl)
set_option maxHeartbeats 4000000 in
set_option maxRecDepth 100000 in
theorem c_J0_getBytes_840e7 (l : Launch) (hlt : l.stackTraces = false) (g : zG) (v0 : Nat) (v1 : Nat) (v2 : Int) (v3 : Int) (hv2 : inR v2) (hv3 : inR v3) (M : zM) (S : zS) (hF : zFx S) {M' : zM} (h : F_J0_getBytes_840e7 v0 v1 v2 v3 M S = some M') : zMet l g yJ0_getBytes_840e7 cJ0_getBytes_840e7 4 none 3 0 0 [zr g v0, zr g v1, .int (zi v2), .int (zi v3)] M S (.inl none) M' S (True) := by
  refine zMet_of (by decide) hlt [(0, zr g v0), (1, zr g v1), (2, .int (zi v2)), (3, .int (zi v3))] (by simp only [lv_args, zr_cat, zc_i, zc_l, zc_d, zc_r] <;> rfl) (by rw [zsl_len]; simp only [List.map_cons, List.map_nil, zr_cat, zc_i, zc_l, zc_d, zc_r, List.sum_cons, List.sum_nil] <;> decide) (fun K hC hE hN => ?_)
  unfold F_J0_getBytes_840e7 at h
  refine j_aload_n hC 0 dJ0_getBytes_840e7_0 rfl rfl ?_
  obtain ⟨hk, h⟩ := zchk_ex h
  have hk1 := hk
  obtain ⟨r2, hy, h⟩ := zb1_ex h
  refine j_callVi (ci := 9) hC hE lk_J0_335 dJ0_getBytes_840e7_1 (c_J0_coder_7d493 l hlt g v0 M S hF hy) [] [] hk1 ⟨_, rfl, by decide, rfl⟩ rfl rfl rfl (zcat (Nat.le_of_ble_eq_true rfl)) (Nat.le_of_ble_eq_true rfl) (Nat.le_of_ble_eq_true rfl) (Nat.le_of_ble_eq_true rfl) (Nat.le_of_ble_eq_true rfl) (fun hp3 => ?_)
  have hr2 := hp3
  refine j_iload_n hC 3 dJ0_getBytes_840e7_4 rfl rfl ?_
  refine j_icmp_ne hC dJ0_getBytes_840e7_5 rfl (w_id hr2) (w_id hv3) (fun c4 => ?_) (fun c4 => ?_)
  · have h := zf c4 h
    cases h
  · have h := zt c4 h
    refine j_aload_n hC 0 dJ0_getBytes_840e7_8 rfl rfl ?_
    obtain ⟨hk, h⟩ := zchk_ex h
    have hk5 := hk
    refine j_getq hC dJ0_getBytes_840e7_9 f_J0_9 hk5 rfl 0 rfl rfl ?_
    refine j_iconst hC dJ0_getBytes_840e7_12 ?_
    refine j_aload_n hC 1 dJ0_getBytes_840e7_13 rfl rfl ?_
    refine j_iload_n hC 2 dJ0_getBytes_840e7_14 rfl rfl ?_
    refine j_iload_n hC 3 dJ0_getBytes_840e7_15 rfl rfl ?_
    refine j_ishl hC dJ0_getBytes_840e7_16 ?_
    refine j_aload_n hC 0 dJ0_getBytes_840e7_17 rfl rfl ?_
    obtain ⟨hk, h⟩ := zchk_ex h
    have hk6 := hk
    refine j_getq hC dJ0_getBytes_840e7_18 f_J0_9 hk6 rfl 0 rfl rfl ?_
    obtain ⟨hk, h⟩ := zchk_ex h
    have hk7 := hk
    refine j_alen (k := 24) (n := (zlen S (zrf S v0 0))) hC dJ0_getBytes_840e7_21 hk7 (Nat.le_of_ble_eq_true rfl) (Nat.le_of_ble_eq_true rfl) rfl (fun hl8 => ?_)
    obtain ⟨hk, h⟩ := zchk_ex h
    have hk9 := hk
    obtain ⟨hk, h⟩ := zchk_ex h
    have hk10 := hk
    obtain ⟨c11, h⟩ := zchk_ex h
    obtain ⟨M12, eM12, h⟩ := zlet_ex h
    refine j_copyB (l1 := (zlen S (zrf S v0 0))) (l2 := (zlen S v1)) hC hE lk_J0_212 dJ0_getBytes_840e7_22 hk9 hk10 rfl rfl (w_id kR_0) (w_id (cR_zshl _ _)) (w_id hl8) c11 eM12 (Nat.le_of_ble_eq_true rfl) (Nat.le_of_ble_eq_true rfl) ?_
    refine j_goto hC dJ0_getBytes_840e7_25 rfl ?_
    have e1 := Option.some.inj h
    exact j_vret hC hE dJ0_getBytes_840e7_43 rfl e1 rfl trivial (Nat.le_of_ble_eq_true rfl) (Nat.le_of_ble_eq_true rfl)
