/-! CERTIFICATES: a program has written them (wip/whole/gen5.py) -/
set_option maxHeartbeats 4000000 in
set_option maxRecDepth 100000 in
theorem c_X1_init (l : Launch) (hlt : l.stackTraces = false) (g : zG) (v0 : Nat) (M : zM) (S : zS) {S' : zS} (h : F_X1_init v0 S = some S') : zMet l g yX1_init cX1_init 1 none 2 2 120 [zr g v0] M S (.inl none) M S' (True) := by
  refine zMet_of (by decide) hlt [(0, zr g v0)] (by simp only [lv_args, zr_cat, zc_i, zc_l, zc_d, zc_r] <;> rfl) (by rw [zsl_len]; simp only [List.map_cons, List.map_nil, zr_cat, zc_i, zc_l, zc_d, zc_r, List.sum_cons, List.sum_nil] <;> decide) (fun K hC hE hN => ?_)
  unfold F_X1_init at h
  refine j_aload_n hC 0 dX1_init_0 rfl rfl ?_
  obtain ⟨c1, h⟩ := zchk_ex h
  refine j_objI hC hE dX1_init_1 k128 k121 k122 c1 (Nat.le_of_ble_eq_true rfl) (Nat.le_of_ble_eq_true rfl) ?_
  refine j_aload_n hC 0 dX1_init_4 rfl rfl ?_
  refine j_bipush hC dX1_init_5 rfl ?_
  obtain ⟨q2, eq2, h⟩ := zlet_ex h
  obtain ⟨S3, eS3, h⟩ := zlet_ex h
  refine j_newa23 (N := 60) (mx := 60) hC hE ka_23 dX1_init_7 (w_id kR_60) rfl (Nat.le_of_ble_eq_true rfl) (Nat.le_of_ble_eq_true rfl) eq2 eS3 (Nat.le_of_ble_eq_true rfl) (Nat.le_of_ble_eq_true rfl) ?_
  obtain ⟨hk, h⟩ := zchk_ex h
  have hk4 := hk
  obtain ⟨S5, eS5, h⟩ := zlet_ex h
  refine j_putq hC hE dX1_init_9 f_X1_9 pF_X1 hk4 rfl rfl rfl 0 rfl eS5 ?_
  refine j_aload_n hC 0 dX1_init_12 rfl rfl ?_
  refine j_bipush hC dX1_init_13 rfl ?_
  obtain ⟨q6, eq6, h⟩ := zlet_ex h
  obtain ⟨S7, eS7, h⟩ := zlet_ex h
  refine j_newa20 (N := 60) (mx := 60) hC hE ka_20 dX1_init_15 (w_id kR_60) rfl (Nat.le_of_ble_eq_true rfl) (Nat.le_of_ble_eq_true rfl) eq6 eS7 (Nat.le_of_ble_eq_true rfl) (Nat.le_of_ble_eq_true rfl) ?_
  obtain ⟨hk, h⟩ := zchk_ex h
  have hk8 := hk
  obtain ⟨S9, eS9, h⟩ := zlet_ex h
  refine j_putq hC hE dX1_init_17 f_X1_13 pF_X1 hk8 rfl rfl rfl 1 rfl eS9 ?_
  have e1 := Option.some.inj h
  exact j_vret hC hE dX1_init_20 rfl rfl e1 trivial (Nat.le_of_ble_eq_true rfl) (Nat.le_of_ble_eq_true rfl)
set_option maxHeartbeats 4000000 in
set_option maxRecDepth 100000 in
theorem c_X1_accept (l : Launch) (hlt : l.stackTraces = false) (g : zG) (v1 : Int) (hv1 : inR v1) (M : zM) (S : zS) (hF : zFx S) {r : Int} {M' : zM} (h : F_X1_accept v1 M = some (r, M')) : zMet l g yX1_accept cX1_accept 2 (some .boolean) 1 0 0 [zr g 2, .int (zi v1)] M S (.inl (some (.int (zi r)))) M' S (inR r) := by
  refine zMet_of (by decide) hlt [(0, zr g 2), (1, .int (zi v1))] rfl (Nat.le_of_ble_eq_true rfl) (fun K hC hE hN => ?_)
  unfold F_X1_accept at h
  refine j_aload_n hC 0 dX1_accept_0 rfl rfl ?_
  refine j_get hC dX1_accept_1 f_X1_17 (zFx_kd hF 2 rfl) rfl 3 rfl (fun hg1 => ?_)
  refine j_if_lt hC dX1_accept_4 rfl (w_id hg1) (fun c2 => ?_) (fun c2 => ?_)
  · have h := zt c2 h
    refine j_iconst hC dX1_accept_19 ?_
    obtain ⟨e1, e2⟩ := zpr2 (Option.some.inj h)
    exact j_iret hC hE dX1_accept_20 (w_id kR_0) (zn_z zb01_0) (by rw [← e1]) e2 rfl (by rw [← e1]; exact kR_0) (Nat.le_of_ble_eq_true rfl) (Nat.le_of_ble_eq_true rfl)
  · have h := zf c2 h
    refine j_aload_n hC 0 dX1_accept_7 rfl rfl ?_
    refine j_get hC dX1_accept_8 f_X1_17 (zFx_kd hF 2 rfl) rfl 3 rfl (fun hg3 => ?_)
    refine j_aload_n hC 0 dX1_accept_11 rfl rfl ?_
    refine j_getq (q := 3) hC dX1_accept_12 f_X1_9 (zFx_kd hF 2 rfl) rfl 0 rfl (zFx_rf hF 2 0 rfl) ?_
    refine j_alen (k := 23) (n := 60) hC dX1_accept_15 (zFx_kd hF 3 rfl) (Nat.le_of_ble_eq_true rfl) (Nat.le_of_ble_eq_true rfl) (zFx_ln hF 3 rfl) (fun _ => ?_)
    refine j_icmp_lt hC dX1_accept_16 rfl (w_id hg3) (w_id kR_60) (fun c4 => ?_) (fun c4 => ?_)
    · have h := zt c4 h
      refine j_aload_n hC 0 dX1_accept_21 rfl rfl ?_
      refine j_getq (q := 3) hC dX1_accept_22 f_X1_9 (zFx_kd hF 2 rfl) rfl 0 rfl (zFx_rf hF 2 0 rfl) ?_
      refine j_aload_n hC 0 dX1_accept_25 rfl rfl ?_
      refine j_get hC dX1_accept_26 f_X1_17 (zFx_kd hF 2 rfl) rfl 3 rfl (fun hg5 => ?_)
      refine j_iload_n hC 1 dX1_accept_29 rfl rfl ?_
      obtain ⟨c6, h⟩ := zchk_ex h
      obtain ⟨c7, h⟩ := zchk_ex h
      obtain ⟨M8, eM8, h⟩ := zlet_ex h
      refine j_cast (n := 60) hC dX1_accept_30 (w_id hg5) (w_id hv1) c7 (zFx_kd hF 3 rfl) (zFx_ln hF 3 rfl) c6.1 c6.2 eM8 ?_
      refine j_aload_n hC 0 dX1_accept_31 rfl rfl ?_
      refine j_dup hC dX1_accept_32 (zr_cat _ _) ?_
      refine j_get hC dX1_accept_33 f_X1_17 (zFx_kd hF 2 rfl) rfl 3 rfl (fun hg9 => ?_)
      refine j_iconst hC dX1_accept_36 ?_
      refine j_iadd hC dX1_accept_37 ?_
      obtain ⟨M10, eM10, h⟩ := zlet_ex h
      refine j_put hC dX1_accept_38 f_X1_17 pF_X1 (zFx_kd hF 2 rfl) (Or.inl rfl) rfl 3 rfl rfl (inR_w _) eM10 ?_
      refine j_iconst hC dX1_accept_41 ?_
      obtain ⟨e1, e2⟩ := zpr2 (Option.some.inj h)
      exact j_iret hC hE dX1_accept_42 (w_id kR_1) (zn_z zb01_1) (by rw [← e1]) e2 rfl (by rw [← e1]; exact kR_1) (Nat.le_of_ble_eq_true rfl) (Nat.le_of_ble_eq_true rfl)
    · have h := zf c4 h
      refine j_iconst hC dX1_accept_19 ?_
      obtain ⟨e1, e2⟩ := zpr2 (Option.some.inj h)
      exact j_iret hC hE dX1_accept_20 (w_id kR_0) (zn_z zb01_0) (by rw [← e1]) e2 rfl (by rw [← e1]; exact kR_0) (Nat.le_of_ble_eq_true rfl) (Nat.le_of_ble_eq_true rfl)
set_option maxHeartbeats 4000000 in
set_option maxRecDepth 100000 in
theorem c_X1_empty (l : Launch) (hlt : l.stackTraces = false) (g : zG) (M : zM) (S : zS) (hF : zFx S) {M' : zM} (h : F_X1_empty M = some M') : zMet l g yX1_empty cX1_empty 1 none 1 0 0 [zr g 2] M S (.inl none) M' S (True) := by
  refine zMet_of (by decide) hlt [(0, zr g 2)] rfl (Nat.le_of_ble_eq_true rfl) (fun K hC hE hN => ?_)
  unfold F_X1_empty at h
  refine j_aload_n hC 0 dX1_empty_0 rfl rfl ?_
  refine j_iconst hC dX1_empty_1 ?_
  obtain ⟨M1, eM1, h⟩ := zlet_ex h
  refine j_put hC dX1_empty_2 f_X1_17 pF_X1 (zFx_kd hF 2 rfl) (Or.inl rfl) rfl 3 rfl (w_id kR_0) kR_0 eM1 ?_
  have e1 := Option.some.inj h
  exact j_vret hC hE dX1_empty_5 rfl e1 rfl trivial (Nat.le_of_ble_eq_true rfl) (Nat.le_of_ble_eq_true rfl)
set_option maxHeartbeats 4000000 in
set_option maxRecDepth 100000 in
theorem c_J7_copyOf_59c91 (l : Launch) (hlt : l.stackTraces = false) (g : zG) (v0 : Nat) (v1 : Int) (hv1 : inR v1) (M : zM) (S : zS) (hF : zFx S) {r : Nat} {M' : zM} {S' : zS} (h : F_J7_copyOf_59c91 v0 v1 M S = some (r, M', S')) : zMet l g yJ7_copyOf_59c91 cJ7_copyOf_59c91 3 (some (.array .int)) 2 1 60 [zr g v0, .int (zi v1)] M S (.inl (some (zr g r))) M' S' (zFx S') := by
  refine zMet_of (by decide) hlt [(0, zr g v0), (1, .int (zi v1))] (by simp only [lv_args, zr_cat, zc_i, zc_l, zc_d, zc_r] <;> rfl) (by rw [zsl_len]; simp only [List.map_cons, List.map_nil, zr_cat, zc_i, zc_l, zc_d, zc_r, List.sum_cons, List.sum_nil] <;> decide) (fun K hC hE hN => ?_)
  unfold F_J7_copyOf_59c91 at h
  refine j_iload_n hC 1 dJ7_copyOf_59c91_0 rfl rfl ?_
  refine j_aload_n hC 0 dJ7_copyOf_59c91_1 rfl rfl ?_
  obtain ⟨hk, h⟩ := zchk_ex h
  have hk1 := hk
  refine j_alen (k := 20) (n := (zlen S v0)) hC dJ7_copyOf_59c91_2 hk1 (Nat.le_of_ble_eq_true rfl) (Nat.le_of_ble_eq_true rfl) rfl (fun hl2 => ?_)
  refine j_icmp_ne hC dJ7_copyOf_59c91_3 rfl (w_id hv1) (w_id hl2) (fun c3 => ?_) (fun c3 => ?_)
  · have h := zf c3 h
    refine j_iload_n hC 1 dJ7_copyOf_59c91_14 rfl rfl ?_
    obtain ⟨c4, h⟩ := zchk_ex h
    obtain ⟨q5, eq5, h⟩ := zlet_ex h
    obtain ⟨S6, eS6, h⟩ := zlet_ex h
    refine j_newa20 (N := v1.toNat) (mx := 60) hC hE ka_20 dJ7_copyOf_59c91_15 (w_id hv1) (Int.toNat_of_nonneg c4.1) (by omega) (Nat.le_of_ble_eq_true rfl) eq5 eS6 (Nat.le_of_ble_eq_true rfl) (Nat.le_of_ble_eq_true rfl) ?_
    have hF7 : zFx S6 := zFx_zn hF eS6
    refine j_astore_n hC dJ7_copyOf_59c91_17 rfl (Nat.le_of_ble_eq_true rfl) rfl ?_
    refine j_aload_n hC 1 dJ7_copyOf_59c91_18 rfl rfl ?_
    refine j_iconst hC dJ7_copyOf_59c91_19 ?_
    refine j_aload_n hC 0 dJ7_copyOf_59c91_20 rfl rfl ?_
    refine j_iconst hC dJ7_copyOf_59c91_21 ?_
    refine j_aload_n hC 1 dJ7_copyOf_59c91_22 rfl rfl ?_
    obtain ⟨hk, h⟩ := zchk_ex h
    have hk8 := hk
    refine j_alen (k := 20) (n := (zlen S6 v0)) hC dJ7_copyOf_59c91_23 hk8 (Nat.le_of_ble_eq_true rfl) (Nat.le_of_ble_eq_true rfl) rfl (fun hl9 => ?_)
    refine j_iload_n hC 2 dJ7_copyOf_59c91_24 rfl rfl ?_
    refine j_mmin hC hE lk_J7_304 dJ7_copyOf_59c91_25 (w_id hl9) (w_id hv1) (Nat.le_of_ble_eq_true rfl) (Nat.le_of_ble_eq_true rfl) (Nat.le_of_ble_eq_true rfl) (Nat.le_of_ble_eq_true rfl) ?_
    obtain ⟨hk, h⟩ := zchk_ex h
    have hk10 := hk
    obtain ⟨hk, h⟩ := zchk_ex h
    have hk11 := hk
    obtain ⟨c12, h⟩ := zchk_ex h
    obtain ⟨M13, eM13, h⟩ := zlet_ex h
    refine j_copy hC hE lk_J7_150 dJ7_copyOf_59c91_28 hk10 hk11 rfl rfl (w_id kR_0) (w_id kR_0) (w_id (cR_zmin hl9 hv1)) c12 eM13 (Nat.le_of_ble_eq_true rfl) (Nat.le_of_ble_eq_true rfl) ?_
    refine j_aload_n hC 0 dJ7_copyOf_59c91_31 rfl rfl ?_
    obtain ⟨e1, e2, e3⟩ := zpr3 (Option.some.inj h)
    exact j_aret hC hE dJ7_copyOf_59c91_32 (by rw [← e1]) e2 e3 (by rw [← e3]; exact hF7) (Nat.le_of_ble_eq_true rfl) (Nat.le_of_ble_eq_true rfl)
  · have h := zt c3 h
    refine j_aload_n hC 0 dJ7_copyOf_59c91_6 rfl rfl ?_
    obtain ⟨hk, h⟩ := zchk_ex h
    have hk14 := hk
    obtain ⟨c15, h⟩ := zchk_ex h
    obtain ⟨q16, eq16, h⟩ := zlet_ex h
    obtain ⟨S17, eS17, h⟩ := zlet_ex h
    obtain ⟨M18, eM18, h⟩ := zlet_ex h
    refine j_clone hC hE lk_J7_316 dJ7_copyOf_59c91_7 hk14 c15 eq16 eS17 eM18 (Nat.le_of_ble_eq_true rfl) (Nat.le_of_ble_eq_true rfl) ?_
    have hF19 : zFx S17 := zFx_zn hF eS17
    obtain ⟨hk, h⟩ := zchk_ex h
    have hk20 := hk
    refine j_ckcast hC ca_J7_317 dJ7_copyOf_59c91_10 hk20 ?_
    obtain ⟨e1, e2, e3⟩ := zpr3 (Option.some.inj h)
    exact j_aret hC hE dJ7_copyOf_59c91_13 (by rw [← e1]) e2 e3 (by rw [← e3]; exact hF19) (Nat.le_of_ble_eq_true rfl) (Nat.le_of_ble_eq_true rfl)
set_option maxHeartbeats 4000000 in
set_option maxRecDepth 100000 in
theorem c_X1_selectorProgram (l : Launch) (hlt : l.stackTraces = false) (g : zG) (M : zM) (S : zS) (hF : zFx S) {r : Nat} {M' : zM} {S' : zS} (h : F_X1_selectorProgram M S = some (r, M', S')) : zMet l g yX1_selectorProgram cX1_selectorProgram 1 (some (.array .int)) 3 1 60 [zr g 2] M S (.inl (some (zr g r))) M' S' (zFx S') := by
  refine zMet_of (by decide) hlt [(0, zr g 2)] rfl (Nat.le_of_ble_eq_true rfl) (fun K hC hE hN => ?_)
  unfold F_X1_selectorProgram at h
  have J_19 : ∀ (t1 : Int) (ht1 : inR t1) (M : zM) (S : zS) (hF : zFx S) (_ : F_X1_selectorProgram_J19 t1 M S = some (r, M', S')), zJ K g 0 0 19 1 [] [.int (zi t1), zr g 4] M S := by
    intro t1 ht1 M S hF h
    unfold F_X1_selectorProgram_J19 at h
    obtain ⟨r1, M2, S3, hy, h⟩ := zb3_ex h
    refine j_callSr hC hE lk_X1_24 dX1_selectorProgram_19 (c_J7_copyOf_59c91 l hlt g 4 t1 ht1 M S hF hy) [zr g 4, .int (zi t1)] [] rfl rfl rfl (Nat.le_of_ble_eq_true rfl) (Nat.le_of_ble_eq_true rfl) (Nat.le_of_ble_eq_true rfl) (Nat.le_of_ble_eq_true rfl) (Nat.le_of_ble_eq_true rfl) (fun hp4 => ?_)
    have hF5 := hp4
    obtain ⟨e1, e2, e3⟩ := zpr3 (Option.some.inj h)
    exact j_aret hC hE dX1_selectorProgram_22 (by rw [← e1]) e2 e3 (by rw [← e3]; exact hF5) (Nat.le_of_ble_eq_true rfl) (Nat.le_of_ble_eq_true rfl)
  refine j_aload_n hC 0 dX1_selectorProgram_0 rfl rfl ?_
  refine j_getq (q := 4) hC dX1_selectorProgram_1 f_X1_13 (zFx_kd hF 2 rfl) rfl 1 rfl (zFx_rf hF 2 1 rfl) ?_
  refine j_aload_n hC 0 dX1_selectorProgram_4 rfl rfl ?_
  refine j_get hC dX1_selectorProgram_5 f_X1_21 (zFx_kd hF 2 rfl) rfl 2 rfl (fun hg6 => ?_)
  refine j_if_ge hC dX1_selectorProgram_8 rfl (w_id hg6) (fun c7 => ?_) (fun c7 => ?_)
  · have h := zf c7 h
    refine j_aload_n hC 0 dX1_selectorProgram_15 rfl rfl ?_
    refine j_get hC dX1_selectorProgram_16 f_X1_21 (zFx_kd hF 2 rfl) rfl 2 rfl (fun hg8 => ?_)
    refine j_sub [] rfl ?_
    exact J_19 (M 2 2) hg8 M S hF h
  · have h := zt c7 h
    refine j_iconst hC dX1_selectorProgram_11 ?_
    refine j_goto hC dX1_selectorProgram_12 rfl ?_
    refine j_sub [] rfl ?_
    exact J_19 0 kR_0 M S hF h
set_option maxHeartbeats 4000000 in
set_option maxRecDepth 100000 in
theorem c_X1_kindName (l : Launch) (hlt : l.stackTraces = false) (g : zG) (v0 : Int) (hv0 : inR v0) (M : zM) (S : zS) {r : Nat} (h : F_X1_kindName v0 = some r) : zMet l g yX1_kindName cX1_kindName 1 (some (.object "java/lang/String")) 1 0 0 [.int (zi v0)] M S (.inl (some (.ref (zk g (1 + r))))) M S (True) := by
  refine zMet_of (by decide) hlt [(0, .int (zi v0))] rfl (Nat.le_of_ble_eq_true rfl) (fun K hC hE hN => ?_)
  unfold F_X1_kindName at h
  refine j_iload_n hC 0 dX1_kindName_0 rfl rfl ?_
  by_cases c1 : v0 = 0
  · have h := zt c1 h
    refine j_tswIn hC 0 dX1_kindName_1 (w_id hv0) c1 (by decide) (by decide) rfl rfl ?_
    refine j_ldcs hC dX1_kindName_28 zss_X1_50 ?_
    have e1 := Option.some.inj h
    exact j_sret hC hE dX1_kindName_30 (by rw [← e1]) rfl rfl trivial (Nat.le_of_ble_eq_true rfl) (Nat.le_of_ble_eq_true rfl)
  have h := zf c1 h
  by_cases c2 : v0 = 1
  · have h := zt c2 h
    refine j_tswIn hC 1 dX1_kindName_1 (w_id hv0) c2 (by decide) (by decide) rfl rfl ?_
    refine j_ldcs hC dX1_kindName_31 zss_X1_52 ?_
    have e1 := Option.some.inj h
    exact j_sret hC hE dX1_kindName_33 (by rw [← e1]) rfl rfl trivial (Nat.le_of_ble_eq_true rfl) (Nat.le_of_ble_eq_true rfl)
  have h := zf c2 h
  by_cases c3 : v0 = 2
  · have h := zt c3 h
    refine j_tswIn hC 2 dX1_kindName_1 (w_id hv0) c3 (by decide) (by decide) rfl rfl ?_
    refine j_ldcs hC dX1_kindName_34 zss_X1_54 ?_
    have e1 := Option.some.inj h
    exact j_sret hC hE dX1_kindName_36 (by rw [← e1]) rfl rfl trivial (Nat.le_of_ble_eq_true rfl) (Nat.le_of_ble_eq_true rfl)
  have h := zf c3 h
  refine j_tswOut hC dX1_kindName_1 (w_id hv0) (by omega) rfl ?_
  refine j_ldcs hC dX1_kindName_37 zss_X1_56 ?_
  have e1 := Option.some.inj h
  exact j_sret hC hE dX1_kindName_39 (by rw [← e1]) rfl rfl trivial (Nat.le_of_ble_eq_true rfl) (Nat.le_of_ble_eq_true rfl)
set_option maxHeartbeats 4000000 in
set_option maxRecDepth 100000 in
theorem c_X1_characterAt (l : Launch) (hlt : l.stackTraces = false) (g : zG) (v1 : Int) (hv1 : inR v1) (M : zM) (S : zS) (hF : zFx S) {r : Int} (h : F_X1_characterAt v1 M = some r) : zMet l g yX1_characterAt cX1_characterAt 2 (some .char) 1 0 0 [zr g 2, .int (zi v1)] M S (.inl (some (.int (zi r)))) M S (inR r) := by
  refine zMet_of (by decide) hlt [(0, zr g 2), (1, .int (zi v1))] rfl (Nat.le_of_ble_eq_true rfl) (fun K hC hE hN => ?_)
  unfold F_X1_characterAt at h
  have J_21 : ∀ (_ : F_X1_characterAt_J21 M = some r), zJ K g 0 0 21 2 [] [] M S := by
    intro h
    unfold F_X1_characterAt_J21 at h
    refine j_iconst hC dX1_characterAt_21 ?_
    refine j_goto hC dX1_characterAt_22 rfl ?_
    obtain ⟨c1, h⟩ := zchk_ex h
    have e1 := Option.some.inj h
    exact j_iret hC hE dX1_characterAt_31 (w_id kR_0) (zn_c c1) (by rw [← e1]) rfl rfl (by rw [← e1]; exact kR_0) (Nat.le_of_ble_eq_true rfl) (Nat.le_of_ble_eq_true rfl)
  refine j_iload_n hC 1 dX1_characterAt_0 rfl rfl ?_
  refine j_if_lt hC dX1_characterAt_1 rfl (w_id hv1) (fun c2 => ?_) (fun c2 => ?_)
  · have h := zt c2 h
    refine j_sub [] rfl ?_
    exact J_21 h
  · have h := zf c2 h
    refine j_iload_n hC 1 dX1_characterAt_4 rfl rfl ?_
    refine j_aload_n hC 0 dX1_characterAt_5 rfl rfl ?_
    refine j_get hC dX1_characterAt_6 f_X1_17 (zFx_kd hF 2 rfl) rfl 3 rfl (fun hg3 => ?_)
    refine j_icmp_ge hC dX1_characterAt_9 rfl (w_id hv1) (w_id hg3) (fun c4 => ?_) (fun c4 => ?_)
    · have h := zf c4 h
      refine j_sub [] rfl ?_
      exact J_21 h
    · have h := zt c4 h
      refine j_iload_n hC 1 dX1_characterAt_12 rfl rfl ?_
      refine j_aload_n hC 0 dX1_characterAt_13 rfl rfl ?_
      refine j_getq (q := 3) hC dX1_characterAt_14 f_X1_9 (zFx_kd hF 2 rfl) rfl 0 rfl (zFx_rf hF 2 0 rfl) ?_
      refine j_alen (k := 23) (n := 60) hC dX1_characterAt_17 (zFx_kd hF 3 rfl) (Nat.le_of_ble_eq_true rfl) (Nat.le_of_ble_eq_true rfl) (zFx_ln hF 3 rfl) (fun _ => ?_)
      refine j_icmp_lt hC dX1_characterAt_18 rfl (w_id hv1) (w_id kR_60) (fun c5 => ?_) (fun c5 => ?_)
      · have h := zt c5 h
        refine j_aload_n hC 0 dX1_characterAt_25 rfl rfl ?_
        refine j_getq (q := 3) hC dX1_characterAt_26 f_X1_9 (zFx_kd hF 2 rfl) rfl 0 rfl (zFx_rf hF 2 0 rfl) ?_
        refine j_iload_n hC 1 dX1_characterAt_29 rfl rfl ?_
        obtain ⟨c6, h⟩ := zchk_ex h
        refine j_cald (n := 60) hC dX1_characterAt_30 (w_id hv1) (zFx_kd hF 3 rfl) (zFx_ln hF 3 rfl) c6.1 c6.2 (fun hg7 => ?_)
        obtain ⟨c8, h⟩ := zchk_ex h
        have e1 := Option.some.inj h
        exact j_iret hC hE dX1_characterAt_31 (w_id (inR_c hg7)) (zn_c c8) (by rw [← e1]) rfl rfl (by rw [← e1]; exact (inR_c hg7)) (Nat.le_of_ble_eq_true rfl) (Nat.le_of_ble_eq_true rfl)
      · have h := zf c5 h
        refine j_sub [] rfl ?_
        exact J_21 h
set_option maxHeartbeats 4000000 in
set_option maxRecDepth 100000 in
theorem c_X1_sameCharacters (l : Launch) (hlt : l.stackTraces = false) (g : zG) (v1 : Nat) (M : zM) (S : zS) (hF : zFx S) {r : Int} (h : F_X1_sameCharacters v1 M = some r) : zMet l g yX1_sameCharacters cX1_sameCharacters 4 (some .int) 8 0 0 [zr g 2, .ref (zk g (1 + v1))] M S (.inl (some (.int (zi r)))) M S (inR r) := by
  refine zMet_of (by decide) hlt [(0, zr g 2), (1, .ref (zk g (1 + v1)))] rfl (Nat.le_of_ble_eq_true rfl) (fun K hC hE hN => ?_)
  unfold F_X1_sameCharacters at h
  have J_39 : ∀ (v2 : Int) (hv2 : inR v2) (_ : F_X1_sameCharacters_J39 v2 M = some r), zJ K g 0 0 39 4 [(2, .int (zi v2))] [] M S := by
    intro v2 hv2 h
    unfold F_X1_sameCharacters_J39 at h
    refine j_iload_n hC 0 dX1_sameCharacters_39 rfl rfl ?_
    have e1 := Option.some.inj h
    exact j_iret hC hE dX1_sameCharacters_40 (w_id hv2) (zn_i _) (by rw [← e1]) rfl rfl (by rw [← e1]; exact hv2) (Nat.le_of_ble_eq_true rfl) (Nat.le_of_ble_eq_true rfl)
  have L_4 : ∀ (v1 : Nat) (v2 : Int) (v3 : Int) (hv2 : inR v2) (hv3 : inR v3) (_ : F_X1_sameCharacters_L4 v1 v2 v3 M = some r), zJ K g 0 0 4 4 [(0, zr g 2), (1, .ref (zk g (1 + v1))), (2, .int (zi v2)), (3, .int (zi v3))] [] M S := by
    intro v1 v2 v3 hv2 hv3 h
    unfold F_X1_sameCharacters_L4 at h
    obtain ⟨ex4, hl, hd4⟩ := zb1_ex h
    obtain ⟨bd4, ebd⟩ : ∃ f, f = (fun (s : Int × Int) => F_X1_sameCharacters_B4 v1 s.1 s.2 M) := ⟨_, rfl⟩
    rw [← ebd] at hl
    have main : ∀ (n4 : Nat) (v2 : Int) (v3 : Int) (hv2 : inR v2) (hv3 : inR v3) (_ : zloop bd4 n4 (v2, v3) = some ex4), zJ K g 0 0 4 4 [(0, zr g 2), (1, .ref (zk g (1 + v1))), (2, .int (zi v2)), (3, .int (zi v3))] [] M S := by
      intro n4
      induction n4 with
      | zero => intro v2 v3 hv2 hv3 hl; exact zloop_0 hl
      | succ n4 ih4 =>
        intro v2 v3 hv2 hv3 hl
        obtain ⟨o, h, hT⟩ := zloop_ex hl
        have h : F_X1_sameCharacters_B4 v1 v2 v3 M = some o := by rw [ebd] at h; exact h
        unfold F_X1_sameCharacters_B4 at h
        refine j_iload_n hC 3 dX1_sameCharacters_4 rfl rfl ?_
        refine j_sload_n hC 1 dX1_sameCharacters_5 rfl rfl ?_
        obtain ⟨c1, h⟩ := zchk_ex h
        refine j_slen hC hE hlt lk_X1_82 dX1_sameCharacters_6 c1 (Nat.le_of_ble_eq_true rfl) (Nat.le_of_ble_eq_true rfl) (Nat.le_of_ble_eq_true rfl) (Nat.le_of_ble_eq_true rfl) ?_
        refine j_icmp_ge hC dX1_sameCharacters_9 rfl (w_id hv3) (w_id (cR_zsl _ c1)) (fun c2 => ?_) (fun c2 => ?_)
        · have h := zf c2 h
          obtain rfl := Option.some.inj h
          have hx4 := hd4
          rw [← show _ = ex4 from hT] at hx4
          refine j_sub [2] rfl ?_
          exact J_39 v2 hv2 hx4
        · have h := zt c2 h
          refine j_aload_n hC 0 dX1_sameCharacters_12 rfl rfl ?_
          refine j_aload_n hC 0 dX1_sameCharacters_13 rfl rfl ?_
          refine j_get hC dX1_sameCharacters_14 f_X1_30 (zFx_kd hF 2 rfl) rfl 4 rfl (fun hg3 => ?_)
          refine j_iload_n hC 3 dX1_sameCharacters_17 rfl rfl ?_
          refine j_iadd hC dX1_sameCharacters_18 ?_
          obtain ⟨r4, hy, h⟩ := zb1_ex h
          refine j_callVi (ci := 1) hC hE lk_X1_94 dX1_sameCharacters_19 (c_X1_characterAt l hlt g (w ((M 2 4) + v3)) (inR_w _) M S hF hy) [.int (zi ((M 2 4) + v3))] [] (zFx_kd hF 2 rfl) ⟨_, rfl, by decide, rfl⟩ rfl (by simp only [zi_w, zl_wl]) rfl (Nat.le_of_ble_eq_true rfl) (Nat.le_of_ble_eq_true rfl) (Nat.le_of_ble_eq_true rfl) (Nat.le_of_ble_eq_true rfl) (Nat.le_of_ble_eq_true rfl) (fun hp5 => ?_)
          have hr4 := hp5
          refine j_sload_n hC 1 dX1_sameCharacters_22 rfl rfl ?_
          refine j_iload_n hC 3 dX1_sameCharacters_23 rfl rfl ?_
          obtain ⟨c6, h⟩ := zchk_ex h
          obtain ⟨c7, h⟩ := zchk_ex h
          refine j_schr hC hE hlt lk_X1_98 dX1_sameCharacters_24 (w_id hv3) c6 c7 (Nat.le_of_ble_eq_true rfl) (Nat.le_of_ble_eq_true rfl) (Nat.le_of_ble_eq_true rfl) (Nat.le_of_ble_eq_true rfl) ?_
          refine j_icmp_ne hC dX1_sameCharacters_27 rfl (w_id hr4) (w_id (cR_zsc c6 c7.1 c7.2)) (fun c8 => ?_) (fun c8 => ?_)
          · have h := zf c8 h
            obtain rfl := Option.some.inj h
            have hx4 := hd4
            rw [← show _ = ex4 from hT] at hx4
            refine j_sub [2] rfl ?_
            exact J_39 v2 hv2 hx4
          · have h := zt c8 h
            obtain ⟨x9, ex9, h⟩ := zlet_ex h
            have hx9 : inR x9 := by rw [ex9]; exact inR_w _
            refine j_iinc hC 2 dX1_sameCharacters_30 rfl ex9 (Nat.le_of_ble_eq_true rfl) rfl ?_
            obtain ⟨x10, ex10, h⟩ := zlet_ex h
            have hx10 : inR x10 := by rw [ex10]; exact inR_w _
            refine j_iinc hC 3 dX1_sameCharacters_33 rfl ex10 (Nat.le_of_ble_eq_true rfl) rfl ?_
            refine j_goto hC dX1_sameCharacters_36 rfl ?_
            obtain rfl := Option.some.inj h
            refine j_sub [2, 3, 1, 0] rfl ?_
            exact ih4 x9 x10 hx9 hx10 hT
    exact main zN v2 v3 hv2 hv3 hl
  refine j_iconst hC dX1_sameCharacters_0 ?_
  refine j_istore_n hC dX1_sameCharacters_1 rfl (Nat.le_of_ble_eq_true rfl) rfl ?_
  refine j_iconst hC dX1_sameCharacters_2 ?_
  refine j_istore_n hC dX1_sameCharacters_3 rfl (Nat.le_of_ble_eq_true rfl) rfl ?_
  refine j_sub [2, 3, 1, 0] rfl ?_
  exact L_4 v1 0 0 kR_0 kR_0 h
set_option maxHeartbeats 4000000 in
set_option maxRecDepth 100000 in
theorem c_X1_readKind (l : Launch) (hlt : l.stackTraces = false) (g : zG) (M : zM) (S : zS) (hF : zFx S) {r : Int} {M' : zM} (h : F_X1_readKind M = some (r, M')) : zMet l g yX1_readKind cX1_readKind 5 (some .int) 9 0 0 [zr g 2] M S (.inl (some (.int (zi r)))) M' S (inR r) := by
  refine zMet_of (by decide) hlt [(0, zr g 2)] rfl (Nat.le_of_ble_eq_true rfl) (fun K hC hE hN => ?_)
  unfold F_X1_readKind at h
  have J_51 : ∀ (v1 : Int) (hv1 : inR v1) (M : zM) (_ : F_X1_readKind_J51 v1 M = some (r, M')), zJ K g 0 0 51 5 [(0, zr g 2), (1, .int (zi v1))] [] M S := by
    intro v1 hv1 M h
    unfold F_X1_readKind_J51 at h
    refine j_aload_n hC 0 dX1_readKind_51 rfl rfl ?_
    refine j_iload_n hC 1 dX1_readKind_52 rfl rfl ?_
    obtain ⟨M1, eM1, h⟩ := zlet_ex h
    refine j_put hC dX1_readKind_53 f_X1_30 pF_X1 (zFx_kd hF 2 rfl) (Or.inl rfl) rfl 4 rfl (w_id hv1) hv1 eM1 ?_
    refine j_iconst hC dX1_readKind_56 ?_
    obtain ⟨e1, e2⟩ := zpr2 (Option.some.inj h)
    exact j_iret hC hE dX1_readKind_57 (w_id kR_m1) (zn_i _) (by rw [← e1]) e2 rfl (by rw [← e1]; exact kR_m1) (Nat.le_of_ble_eq_true rfl) (Nat.le_of_ble_eq_true rfl)
  have J_37 : ∀ (v2 : Int) (v4 : Int) (hv2 : inR v2) (hv4 : inR v4) (M : zM) (_ : F_X1_readKind_J37 v2 v4 M = some (r, M')), zJ K g 0 0 37 5 [(0, zr g 2), (2, .int (zi v2)), (4, .int (zi v4))] [] M S := by
    intro v2 v4 hv2 hv4 M h
    unfold F_X1_readKind_J37 at h
    refine j_aload_n hC 0 dX1_readKind_37 rfl rfl ?_
    refine j_iload hC 2 dX1_readKind_38 rfl ?_
    obtain ⟨M2, eM2, h⟩ := zlet_ex h
    refine j_put hC dX1_readKind_40 f_X1_30 pF_X1 (zFx_kd hF 2 rfl) (Or.inl rfl) rfl 4 rfl (w_id hv4) hv4 eM2 ?_
    refine j_iload_n hC 1 dX1_readKind_43 rfl rfl ?_
    obtain ⟨e1, e2⟩ := zpr2 (Option.some.inj h)
    exact j_iret hC hE dX1_readKind_44 (w_id hv2) (zn_i _) (by rw [← e1]) e2 rfl (by rw [← e1]; exact hv2) (Nat.le_of_ble_eq_true rfl) (Nat.le_of_ble_eq_true rfl)
  have L_4 : ∀ (v1 : Int) (v2 : Int) (hv1 : inR v1) (hv2 : inR v2) (M : zM) (_ : F_X1_readKind_L4 v1 v2 M = some (r, M')), zJ K g 0 0 4 5 [(0, zr g 2), (1, .int (zi v1)), (2, .int (zi v2))] [] M S := by
    intro v1 v2 hv1 hv2 M h
    unfold F_X1_readKind_L4 at h
    obtain ⟨ex4, hl, hd4⟩ := zb1_ex h
    obtain ⟨bd4, ebd⟩ : ∃ f, f = (fun (s : Int × Int) => F_X1_readKind_B4 s.1 s.2 M) := ⟨_, rfl⟩
    rw [← ebd] at hl
    have main : ∀ (n4 : Nat) (v1 : Int) (v2 : Int) (hv1 : inR v1) (hv2 : inR v2) (_ : zloop bd4 n4 (v1, v2) = some ex4), zJ K g 0 0 4 5 [(0, zr g 2), (1, .int (zi v1)), (2, .int (zi v2))] [] M S := by
      intro n4
      induction n4 with
      | zero => intro v1 v2 hv1 hv2 hl; exact zloop_0 hl
      | succ n4 ih4 =>
        intro v1 v2 hv1 hv2 hl
        obtain ⟨o, h, hT⟩ := zloop_ex hl
        have h : F_X1_readKind_B4 v1 v2 M = some o := by rw [ebd] at h; exact h
        unfold F_X1_readKind_B4 at h
        refine j_iload_n hC 2 dX1_readKind_4 rfl rfl ?_
        refine j_iconst hC dX1_readKind_5 ?_
        refine j_icmp_ge hC dX1_readKind_6 rfl (w_id hv2) (w_id kR_4) (fun c3 => ?_) (fun c3 => ?_)
        · have h := zf c3 h
          obtain rfl := Option.some.inj h
          have hx4 := hd4
          rw [← show _ = ex4 from hT] at hx4
          dsimp only [Sum.elim] at hx4
          refine j_sub [0, 1] rfl ?_
          exact J_51 v1 hv1 M hx4
        · have h := zt c3 h
          refine j_iload_n hC 2 dX1_readKind_9 rfl rfl ?_
          obtain ⟨r4, hy, h⟩ := zb1_ex h
          refine j_callSs hC hE lk_X1_68 dX1_readKind_10 (c_X1_kindName l hlt g v2 hv2 M S hy) [.int (zi v2)] [] rfl rfl rfl (Nat.le_of_ble_eq_true rfl) (Nat.le_of_ble_eq_true rfl) (Nat.le_of_ble_eq_true rfl) (Nat.le_of_ble_eq_true rfl) (Nat.le_of_ble_eq_true rfl) (fun hp5 => ?_)
          refine j_sstore_n hC dX1_readKind_13 rfl (Nat.le_of_ble_eq_true rfl) rfl ?_
          refine j_aload_n hC 1 dX1_readKind_14 rfl rfl ?_
          refine j_sload_n hC 0 dX1_readKind_15 rfl rfl ?_
          obtain ⟨r6, hy, h⟩ := zb1_ex h
          refine j_callVi (ci := 1) hC hE lk_X1_72 dX1_readKind_16 (c_X1_sameCharacters l hlt g r4 M S hF hy) [.ref (zk g (1 + r4))] [] (zFx_kd hF 2 rfl) ⟨_, rfl, by decide, rfl⟩ rfl rfl rfl (Nat.le_of_ble_eq_true rfl) (Nat.le_of_ble_eq_true rfl) (Nat.le_of_ble_eq_true rfl) (Nat.le_of_ble_eq_true rfl) (Nat.le_of_ble_eq_true rfl) (fun hp7 => ?_)
          have hr6 := hp7
          refine j_istore hC dX1_readKind_19 (Nat.le_of_ble_eq_true rfl) rfl ?_
          refine j_iload_n hC 3 dX1_readKind_21 rfl rfl ?_
          refine j_iload hC 0 dX1_readKind_22 rfl ?_
          refine j_mmax hC hE lk_X1_76 dX1_readKind_24 (w_id hv1) (w_id hr6) (Nat.le_of_ble_eq_true rfl) (Nat.le_of_ble_eq_true rfl) (Nat.le_of_ble_eq_true rfl) (Nat.le_of_ble_eq_true rfl) ?_
          obtain ⟨x8, ex8, h⟩ := zlet_ex h
          have hx8 : inR x8 := by rw [ex8]; exact (cR_zmax hv1 hr6)
          refine j_names ex8 ?_
          refine j_istore_n hC dX1_readKind_27 rfl (Nat.le_of_ble_eq_true rfl) rfl ?_
          refine j_iload hC 1 dX1_readKind_28 rfl ?_
          refine j_sload_n hC 2 dX1_readKind_30 rfl rfl ?_
          obtain ⟨c9, h⟩ := zchk_ex h
          refine j_slen hC hE hlt lk_X1_82 dX1_readKind_31 c9 (Nat.le_of_ble_eq_true rfl) (Nat.le_of_ble_eq_true rfl) (Nat.le_of_ble_eq_true rfl) (Nat.le_of_ble_eq_true rfl) ?_
          refine j_icmp_ne hC dX1_readKind_34 rfl (w_id hr6) (w_id (cR_zsl _ c9)) (fun c10 => ?_) (fun c10 => ?_)
          · have h := zf c10 h
            obtain ⟨x11, ex11, h⟩ := zlet_ex h
            have hx11 : inR x11 := by rw [ex11]; exact inR_w _
            refine j_iinc hC 4 dX1_readKind_45 rfl ex11 (Nat.le_of_ble_eq_true rfl) rfl ?_
            refine j_goto hC dX1_readKind_48 rfl ?_
            obtain rfl := Option.some.inj h
            refine j_sub [4, 1, 0] rfl ?_
            exact ih4 x8 x11 hx8 hx11 hT
          · have h := zt c10 h
            obtain rfl := Option.some.inj h
            have hx4 := hd4
            rw [← show _ = ex4 from hT] at hx4
            dsimp only [Sum.elim] at hx4
            refine j_sub [3, 4, 1] rfl ?_
            exact J_37 v2 r6 hv2 hr6 M hx4
    exact main zN v1 v2 hv1 hv2 hl
  refine j_iconst hC dX1_readKind_0 ?_
  refine j_istore_n hC dX1_readKind_1 rfl (Nat.le_of_ble_eq_true rfl) rfl ?_
  refine j_iconst hC dX1_readKind_2 ?_
  refine j_istore_n hC dX1_readKind_3 rfl (Nat.le_of_ble_eq_true rfl) rfl ?_
  refine j_sub [2, 1, 0] rfl ?_
  exact L_4 0 0 kR_0 kR_0 M h
set_option maxHeartbeats 4000000 in
set_option maxRecDepth 100000 in
theorem c_X1_readLetters (l : Launch) (hlt : l.stackTraces = false) (g : zG) (v1 : Int) (hv1 : inR v1) (M : zM) (S : zS) (hF : zFx S) {r : Int} {M' : zM} (h : F_X1_readLetters v1 M = some (r, M')) : zMet l g yX1_readLetters cX1_readLetters 5 (some .int) 2 0 0 [zr g 2, .int (zi v1)] M S (.inl (some (.int (zi r)))) M' S (inR r) := by
  refine zMet_of (by decide) hlt [(0, zr g 2), (1, .int (zi v1))] rfl (Nat.le_of_ble_eq_true rfl) (fun K hC hE hN => ?_)
  unfold F_X1_readLetters at h
  have J_61 : ∀ (v2 : Int) (hv2 : inR v2) (M : zM) (_ : F_X1_readLetters_J61 v2 M = some (r, M')), zJ K g 0 0 61 5 [(2, .int (zi v2))] [] M S := by
    intro v2 hv2 M h
    unfold F_X1_readLetters_J61 at h
    refine j_iload_n hC 0 dX1_readLetters_61 rfl rfl ?_
    obtain ⟨e1, e2⟩ := zpr2 (Option.some.inj h)
    exact j_iret hC hE dX1_readLetters_62 (w_id hv2) (zn_i _) (by rw [← e1]) e2 rfl (by rw [← e1]; exact hv2) (Nat.le_of_ble_eq_true rfl) (Nat.le_of_ble_eq_true rfl)
  have J_33 : ∀ (v2 : Int) (hv2 : inR v2) (M : zM) (_ : F_X1_readLetters_J33 v2 M = some (r, M')), zJ K g 0 0 33 5 [(2, .int (zi v2))] [] M S := by
    intro v2 hv2 M h
    unfold F_X1_readLetters_J33 at h
    refine j_iload_n hC 0 dX1_readLetters_33 rfl rfl ?_
    obtain ⟨e1, e2⟩ := zpr2 (Option.some.inj h)
    exact j_iret hC hE dX1_readLetters_34 (w_id hv2) (zn_i _) (by rw [← e1]) e2 rfl (by rw [← e1]; exact hv2) (Nat.le_of_ble_eq_true rfl) (Nat.le_of_ble_eq_true rfl)
  have L_4 : ∀ (v1 : Int) (v2 : Int) (v3 : Int) (hv1 : inR v1) (hv2 : inR v2) (hv3 : inR v3) (M : zM) (_ : F_X1_readLetters_L4 v1 v2 v3 M = some (r, M')), zJ K g 0 0 4 5 [(0, zr g 2), (1, .int (zi v1)), (2, .int (zi v2)), (3, .int (zi v3))] [] M S := by
    intro v1 v2 v3 hv1 hv2 hv3 M h
    unfold F_X1_readLetters_L4 at h
    obtain ⟨ex4, hl, hd4⟩ := zb1_ex h
    obtain ⟨bd4, ebd⟩ : ∃ f, f = (fun (s : Int × Int × zM) => F_X1_readLetters_B4 v1 s.1 s.2.1 s.2.2) := ⟨_, rfl⟩
    rw [← ebd] at hl
    have main : ∀ (n4 : Nat) (v2 : Int) (v3 : Int) (hv2 : inR v2) (hv3 : inR v3) (M : zM) (_ : zloop bd4 n4 (v2, v3, M) = some ex4), zJ K g 0 0 4 5 [(0, zr g 2), (1, .int (zi v1)), (2, .int (zi v2)), (3, .int (zi v3))] [] M S := by
      intro n4
      induction n4 with
      | zero => intro v2 v3 hv2 hv3 M hl; exact zloop_0 hl
      | succ n4 ih4 =>
        intro v2 v3 hv2 hv3 M hl
        obtain ⟨o, h, hT⟩ := zloop_ex hl
        have h : F_X1_readLetters_B4 v1 v2 v3 M = some o := by rw [ebd] at h; exact h
        unfold F_X1_readLetters_B4 at h
        refine j_iload_n hC 3 dX1_readLetters_4 rfl rfl ?_
        refine j_iload_n hC 1 dX1_readLetters_5 rfl rfl ?_
        refine j_icmp_ge hC dX1_readLetters_6 rfl (w_id hv3) (w_id hv1) (fun c1 => ?_) (fun c1 => ?_)
        · have h := zf c1 h
          obtain rfl := Option.some.inj h
          have hx4 := hd4
          rw [← show _ = ex4 from hT] at hx4
          dsimp only [Sum.elim] at hx4
          refine j_sub [2] rfl ?_
          exact J_61 v2 hv2 M hx4
        · have h := zt c1 h
          refine j_aload_n hC 0 dX1_readLetters_9 rfl rfl ?_
          refine j_aload_n hC 0 dX1_readLetters_10 rfl rfl ?_
          refine j_get hC dX1_readLetters_11 f_X1_30 (zFx_kd hF 2 rfl) rfl 4 rfl (fun hg2 => ?_)
          obtain ⟨r3, hy, h⟩ := zb1_ex h
          refine j_callVi (ci := 1) hC hE lk_X1_94 dX1_readLetters_14 (c_X1_characterAt l hlt g (M 2 4) hg2 M S hF hy) [.int (zi (M 2 4))] [] (zFx_kd hF 2 rfl) ⟨_, rfl, by decide, rfl⟩ rfl rfl rfl (Nat.le_of_ble_eq_true rfl) (Nat.le_of_ble_eq_true rfl) (Nat.le_of_ble_eq_true rfl) (Nat.le_of_ble_eq_true rfl) (Nat.le_of_ble_eq_true rfl) (fun hp4 => ?_)
          have hr3 := hp4
          refine j_istore hC dX1_readLetters_17 (Nat.le_of_ble_eq_true rfl) rfl ?_
          refine j_iload hC 0 dX1_readLetters_19 rfl ?_
          refine j_bipush hC dX1_readLetters_21 rfl ?_
          refine j_icmp_lt hC dX1_readLetters_23 rfl (w_id hr3) (w_id kR_97) (fun c5 => ?_) (fun c5 => ?_)
          · have h := zt c5 h
            obtain rfl := Option.some.inj h
            have hx4 := hd4
            rw [← show _ = ex4 from hT] at hx4
            dsimp only [Sum.elim] at hx4
            refine j_sub [3] rfl ?_
            exact J_33 v2 hv2 M hx4
          · have h := zf c5 h
            refine j_iload hC 0 dX1_readLetters_26 rfl ?_
            refine j_bipush hC dX1_readLetters_28 rfl ?_
            refine j_icmp_le hC dX1_readLetters_30 rfl (w_id hr3) (w_id kR_99) (fun c6 => ?_) (fun c6 => ?_)
            · have h := zf c6 h
              refine j_iload_n hC 3 dX1_readLetters_35 rfl rfl ?_
              refine j_iload hC 0 dX1_readLetters_36 rfl ?_
              refine j_bipush hC dX1_readLetters_38 rfl ?_
              refine j_isub hC dX1_readLetters_40 ?_
              obtain ⟨r7, hy, h⟩ := zb1_ex h
              refine j_callSi hC hE lk_X1_103 dX1_readLetters_41 (c_X9_extend l hlt g v2 (w (r3 - 97)) hv2 (inR_w _) M S hy) [.int (zi v2), .int (zi (r3 - 97))] [] rfl (by simp only [zi_w, zl_wl]) rfl (Nat.le_of_ble_eq_true rfl) (Nat.le_of_ble_eq_true rfl) (Nat.le_of_ble_eq_true rfl) (Nat.le_of_ble_eq_true rfl) (Nat.le_of_ble_eq_true rfl) (fun hp8 => ?_)
              have hr7 := hp8
              refine j_istore_n hC dX1_readLetters_44 rfl (Nat.le_of_ble_eq_true rfl) rfl ?_
              refine j_aload_n hC 2 dX1_readLetters_45 rfl rfl ?_
              refine j_dup hC dX1_readLetters_46 (zr_cat _ _) ?_
              refine j_get hC dX1_readLetters_47 f_X1_30 (zFx_kd hF 2 rfl) rfl 4 rfl (fun hg9 => ?_)
              refine j_iconst hC dX1_readLetters_50 ?_
              refine j_iadd hC dX1_readLetters_51 ?_
              obtain ⟨M10, eM10, h⟩ := zlet_ex h
              refine j_put hC dX1_readLetters_52 f_X1_30 pF_X1 (zFx_kd hF 2 rfl) (Or.inl rfl) rfl 4 rfl rfl (inR_w _) eM10 ?_
              obtain ⟨x11, ex11, h⟩ := zlet_ex h
              have hx11 : inR x11 := by rw [ex11]; exact inR_w _
              refine j_iinc hC 4 dX1_readLetters_55 rfl ex11 (Nat.le_of_ble_eq_true rfl) rfl ?_
              refine j_goto hC dX1_readLetters_58 rfl ?_
              obtain rfl := Option.some.inj h
              refine j_sub [3, 4, 1, 0] rfl ?_
              exact ih4 r7 x11 hr7 hx11 M10 hT
            · have h := zt c6 h
              obtain rfl := Option.some.inj h
              have hx4 := hd4
              rw [← show _ = ex4 from hT] at hx4
              dsimp only [Sum.elim] at hx4
              refine j_sub [3] rfl ?_
              exact J_33 v2 hv2 M hx4
    exact main zN v2 v3 hv2 hv3 M hl
  refine j_iconst hC dX1_readLetters_0 ?_
  refine j_istore_n hC dX1_readLetters_1 rfl (Nat.le_of_ble_eq_true rfl) rfl ?_
  refine j_iconst hC dX1_readLetters_2 ?_
  refine j_istore_n hC dX1_readLetters_3 rfl (Nat.le_of_ble_eq_true rfl) rfl ?_
  refine j_sub [2, 3, 1, 0] rfl ?_
  exact L_4 v1 0 0 hv1 kR_0 kR_0 M h
set_option maxHeartbeats 4000000 in
set_option maxRecDepth 100000 in
theorem c_X1_readAxiom (l : Launch) (hlt : l.stackTraces = false) (g : zG) (M : zM) (S : zS) (hF : zFx S) {r : Int} {M' : zM} (h : F_X1_readAxiom M = some (r, M')) : zMet l g yX1_readAxiom cX1_readAxiom 1 (some .boolean) 3 0 0 [zr g 2] M S (.inl (some (.int (zi r)))) M' S (inR r) := by
  refine zMet_of (by decide) hlt [(0, zr g 2)] rfl (Nat.le_of_ble_eq_true rfl) (fun K hC hE hN => ?_)
  unfold F_X1_readAxiom at h
  refine j_aload_n hC 0 dX1_readAxiom_0 rfl rfl ?_
  refine j_aload_n hC 0 dX1_readAxiom_1 rfl rfl ?_
  refine j_bipush hC dX1_readAxiom_2 rfl ?_
  obtain ⟨r1, M2, hy, h⟩ := zb2_ex h
  refine j_callVi (ci := 1) hC hE lk_X1_106 dX1_readAxiom_4 (c_X1_readLetters l hlt g 8 kR_8 M S hF hy) [.int (zi 8)] [zr g 2] (zFx_kd hF 2 rfl) ⟨_, rfl, by decide, rfl⟩ rfl rfl rfl (Nat.le_of_ble_eq_true rfl) (Nat.le_of_ble_eq_true rfl) (Nat.le_of_ble_eq_true rfl) (Nat.le_of_ble_eq_true rfl) (Nat.le_of_ble_eq_true rfl) (fun hp3 => ?_)
  have hr1 := hp3
  obtain ⟨M4, eM4, h⟩ := zlet_ex h
  refine j_put hC dX1_readAxiom_7 f_X1_110 pF_X1 (zFx_kd hF 2 rfl) (Or.inl rfl) rfl 5 rfl (w_id hr1) hr1 eM4 ?_
  refine j_aload_n hC 0 dX1_readAxiom_10 rfl rfl ?_
  refine j_get hC dX1_readAxiom_11 f_X1_110 (zFx_kd hF 2 rfl) rfl 5 rfl (fun hg5 => ?_)
  refine j_if_eq hC dX1_readAxiom_14 rfl (w_id hg5) (fun c6 => ?_) (fun c6 => ?_)
  · have h := zt c6 h
    refine j_iconst hC dX1_readAxiom_21 ?_
    obtain ⟨e1, e2⟩ := zpr2 (Option.some.inj h)
    exact j_iret hC hE dX1_readAxiom_22 (w_id kR_0) (zn_z zb01_0) (by rw [← e1]) e2 rfl (by rw [← e1]; exact kR_0) (Nat.le_of_ble_eq_true rfl) (Nat.le_of_ble_eq_true rfl)
  · have h := zf c6 h
    refine j_iconst hC dX1_readAxiom_17 ?_
    refine j_goto hC dX1_readAxiom_18 rfl ?_
    obtain ⟨e1, e2⟩ := zpr2 (Option.some.inj h)
    exact j_iret hC hE dX1_readAxiom_22 (w_id kR_1) (zn_z zb01_1) (by rw [← e1]) e2 rfl (by rw [← e1]; exact kR_1) (Nat.le_of_ble_eq_true rfl) (Nat.le_of_ble_eq_true rfl)
set_option maxHeartbeats 4000000 in
set_option maxRecDepth 100000 in
theorem c_X1_skip (l : Launch) (hlt : l.stackTraces = false) (g : zG) (v1 : Int) (hv1 : inR v1) (M : zM) (S : zS) (hF : zFx S) {r : Int} {M' : zM} (h : F_X1_skip v1 M = some (r, M')) : zMet l g yX1_skip cX1_skip 2 (some .boolean) 2 0 0 [zr g 2, .int (zi v1)] M S (.inl (some (.int (zi r)))) M' S (inR r) := by
  refine zMet_of (by decide) hlt [(0, zr g 2), (1, .int (zi v1))] rfl (Nat.le_of_ble_eq_true rfl) (fun K hC hE hN => ?_)
  unfold F_X1_skip at h
  refine j_aload_n hC 0 dX1_skip_0 rfl rfl ?_
  refine j_aload_n hC 0 dX1_skip_1 rfl rfl ?_
  refine j_get hC dX1_skip_2 f_X1_30 (zFx_kd hF 2 rfl) rfl 4 rfl (fun hg1 => ?_)
  obtain ⟨r2, hy, h⟩ := zb1_ex h
  refine j_callVi (ci := 1) hC hE lk_X1_94 dX1_skip_5 (c_X1_characterAt l hlt g (M 2 4) hg1 M S hF hy) [.int (zi (M 2 4))] [] (zFx_kd hF 2 rfl) ⟨_, rfl, by decide, rfl⟩ rfl rfl rfl (Nat.le_of_ble_eq_true rfl) (Nat.le_of_ble_eq_true rfl) (Nat.le_of_ble_eq_true rfl) (Nat.le_of_ble_eq_true rfl) (Nat.le_of_ble_eq_true rfl) (fun hp3 => ?_)
  have hr2 := hp3
  refine j_iload_n hC 1 dX1_skip_8 rfl rfl ?_
  refine j_icmp_eq hC dX1_skip_9 rfl (w_id hr2) (w_id hv1) (fun c4 => ?_) (fun c4 => ?_)
  · have h := zt c4 h
    refine j_aload_n hC 0 dX1_skip_14 rfl rfl ?_
    refine j_dup hC dX1_skip_15 (zr_cat _ _) ?_
    refine j_get hC dX1_skip_16 f_X1_30 (zFx_kd hF 2 rfl) rfl 4 rfl (fun hg5 => ?_)
    refine j_iconst hC dX1_skip_19 ?_
    refine j_iadd hC dX1_skip_20 ?_
    obtain ⟨M6, eM6, h⟩ := zlet_ex h
    refine j_put hC dX1_skip_21 f_X1_30 pF_X1 (zFx_kd hF 2 rfl) (Or.inl rfl) rfl 4 rfl rfl (inR_w _) eM6 ?_
    refine j_iconst hC dX1_skip_24 ?_
    obtain ⟨e1, e2⟩ := zpr2 (Option.some.inj h)
    exact j_iret hC hE dX1_skip_25 (w_id kR_1) (zn_z zb01_1) (by rw [← e1]) e2 rfl (by rw [← e1]; exact kR_1) (Nat.le_of_ble_eq_true rfl) (Nat.le_of_ble_eq_true rfl)
  · have h := zf c4 h
    refine j_iconst hC dX1_skip_12 ?_
    obtain ⟨e1, e2⟩ := zpr2 (Option.some.inj h)
    exact j_iret hC hE dX1_skip_13 (w_id kR_0) (zn_z zb01_0) (by rw [← e1]) e2 rfl (by rw [← e1]; exact kR_0) (Nat.le_of_ble_eq_true rfl) (Nat.le_of_ble_eq_true rfl)
set_option maxHeartbeats 4000000 in
set_option maxRecDepth 100000 in
theorem c_X1_addStep (l : Launch) (hlt : l.stackTraces = false) (g : zG) (v1 : Int) (v2 : Int) (hv1 : inR v1) (hv2 : inR v2) (M : zM) (S : zS) (hF : zFx S) {r : Int} {M' : zM} (h : F_X1_addStep v1 v2 M = some (r, M')) : zMet l g yX1_addStep cX1_addStep 3 (some .boolean) 1 0 0 [zr g 2, .int (zi v1), .int (zi v2)] M S (.inl (some (.int (zi r)))) M' S (inR r) := by
  refine zMet_of (by decide) hlt [(0, zr g 2), (1, .int (zi v1)), (2, .int (zi v2))] rfl (Nat.le_of_ble_eq_true rfl) (fun K hC hE hN => ?_)
  unfold F_X1_addStep at h
  refine j_aload_n hC 0 dX1_addStep_0 rfl rfl ?_
  refine j_get hC dX1_addStep_1 f_X1_21 (zFx_kd hF 2 rfl) rfl 2 rfl (fun hg1 => ?_)
  refine j_if_lt hC dX1_addStep_4 rfl (w_id hg1) (fun c2 => ?_) (fun c2 => ?_)
  · have h := zt c2 h
    refine j_iconst hC dX1_addStep_19 ?_
    obtain ⟨e1, e2⟩ := zpr2 (Option.some.inj h)
    exact j_iret hC hE dX1_addStep_20 (w_id kR_0) (zn_z zb01_0) (by rw [← e1]) e2 rfl (by rw [← e1]; exact kR_0) (Nat.le_of_ble_eq_true rfl) (Nat.le_of_ble_eq_true rfl)
  · have h := zf c2 h
    refine j_aload_n hC 0 dX1_addStep_7 rfl rfl ?_
    refine j_get hC dX1_addStep_8 f_X1_21 (zFx_kd hF 2 rfl) rfl 2 rfl (fun hg3 => ?_)
    refine j_aload_n hC 0 dX1_addStep_11 rfl rfl ?_
    refine j_getq (q := 4) hC dX1_addStep_12 f_X1_13 (zFx_kd hF 2 rfl) rfl 1 rfl (zFx_rf hF 2 1 rfl) ?_
    refine j_alen (k := 20) (n := 60) hC dX1_addStep_15 (zFx_kd hF 4 rfl) (Nat.le_of_ble_eq_true rfl) (Nat.le_of_ble_eq_true rfl) (zFx_ln hF 4 rfl) (fun _ => ?_)
    refine j_icmp_lt hC dX1_addStep_16 rfl (w_id hg3) (w_id kR_60) (fun c4 => ?_) (fun c4 => ?_)
    · have h := zt c4 h
      refine j_aload_n hC 0 dX1_addStep_21 rfl rfl ?_
      refine j_getq (q := 4) hC dX1_addStep_22 f_X1_13 (zFx_kd hF 2 rfl) rfl 1 rfl (zFx_rf hF 2 1 rfl) ?_
      refine j_aload_n hC 0 dX1_addStep_25 rfl rfl ?_
      refine j_get hC dX1_addStep_26 f_X1_21 (zFx_kd hF 2 rfl) rfl 2 rfl (fun hg5 => ?_)
      refine j_iload_n hC 2 dX1_addStep_29 rfl rfl ?_
      refine j_iconst hC dX1_addStep_30 ?_
      refine j_ishl hC dX1_addStep_31 ?_
      refine j_iload_n hC 1 dX1_addStep_32 rfl rfl ?_
      refine j_ior hC dX1_addStep_33 ?_
      obtain ⟨c6, h⟩ := zchk_ex h
      obtain ⟨M7, eM7, h⟩ := zlet_ex h
      refine j_iast (n := 60) hC dX1_addStep_34 (w_id hg5) (w_id (cR_zor _ _)) (cR_zor _ _) (zFx_kd hF 4 rfl) (zFx_ln hF 4 rfl) c6.1 c6.2 eM7 ?_
      refine j_aload_n hC 0 dX1_addStep_35 rfl rfl ?_
      refine j_dup hC dX1_addStep_36 (zr_cat _ _) ?_
      refine j_get hC dX1_addStep_37 f_X1_21 (zFx_kd hF 2 rfl) rfl 2 rfl (fun hg8 => ?_)
      refine j_iconst hC dX1_addStep_40 ?_
      refine j_iadd hC dX1_addStep_41 ?_
      obtain ⟨M9, eM9, h⟩ := zlet_ex h
      refine j_put hC dX1_addStep_42 f_X1_21 pF_X1 (zFx_kd hF 2 rfl) (Or.inl rfl) rfl 2 rfl rfl (inR_w _) eM9 ?_
      refine j_iconst hC dX1_addStep_45 ?_
      obtain ⟨e1, e2⟩ := zpr2 (Option.some.inj h)
      exact j_iret hC hE dX1_addStep_46 (w_id kR_1) (zn_z zb01_1) (by rw [← e1]) e2 rfl (by rw [← e1]; exact kR_1) (Nat.le_of_ble_eq_true rfl) (Nat.le_of_ble_eq_true rfl)
    · have h := zf c4 h
      refine j_iconst hC dX1_addStep_19 ?_
      obtain ⟨e1, e2⟩ := zpr2 (Option.some.inj h)
      exact j_iret hC hE dX1_addStep_20 (w_id kR_0) (zn_z zb01_0) (by rw [← e1]) e2 rfl (by rw [← e1]; exact kR_0) (Nat.le_of_ble_eq_true rfl) (Nat.le_of_ble_eq_true rfl)
set_option maxHeartbeats 4000000 in
set_option maxRecDepth 100000 in
theorem c_X1_addPattern (l : Launch) (hlt : l.stackTraces = false) (g : zG) (v1 : Int) (v2 : Int) (hv1 : inR v1) (hv2 : inR v2) (M : zM) (S : zS) (hF : zFx S) {r : Int} {M' : zM} (h : F_X1_addPattern v1 v2 M = some (r, M')) : zMet l g yX1_addPattern cX1_addPattern 3 (some .boolean) 2 0 0 [zr g 2, .int (zi v1), .int (zi v2)] M S (.inl (some (.int (zi r)))) M' S (inR r) := by
  refine zMet_of (by decide) hlt [(0, zr g 2), (1, .int (zi v1)), (2, .int (zi v2))] rfl (Nat.le_of_ble_eq_true rfl) (fun K hC hE hN => ?_)
  unfold F_X1_addPattern at h
  have J_17 : ∀ (M : zM) (_ : F_X1_addPattern_J17 M = some (r, M')), zJ K g 0 0 17 3 [] [] M S := by
    intro M h
    unfold F_X1_addPattern_J17 at h
    refine j_iconst hC dX1_addPattern_17 ?_
    obtain ⟨e1, e2⟩ := zpr2 (Option.some.inj h)
    exact j_iret hC hE dX1_addPattern_18 (w_id kR_0) (zn_z zb01_0) (by rw [← e1]) e2 rfl (by rw [← e1]; exact kR_0) (Nat.le_of_ble_eq_true rfl) (Nat.le_of_ble_eq_true rfl)
  refine j_iload_n hC 2 dX1_addPattern_0 rfl rfl ?_
  refine j_if_eq hC dX1_addPattern_1 rfl (w_id hv2) (fun c1 => ?_) (fun c1 => ?_)
  · have h := zt c1 h
    refine j_sub [] rfl ?_
    exact J_17 M h
  · have h := zf c1 h
    refine j_aload_n hC 0 dX1_addPattern_4 rfl rfl ?_
    refine j_iload_n hC 1 dX1_addPattern_5 rfl rfl ?_
    refine j_iload_n hC 2 dX1_addPattern_6 rfl rfl ?_
    obtain ⟨r2, M3, hy, h⟩ := zb2_ex h
    refine j_callVi (ci := 1) hC hE lk_X1_131 dX1_addPattern_7 (c_X1_addStep l hlt g v1 v2 hv1 hv2 M S hF hy) [.int (zi v1), .int (zi v2)] [] (zFx_kd hF 2 rfl) ⟨_, rfl, by decide, rfl⟩ rfl rfl rfl (Nat.le_of_ble_eq_true rfl) (Nat.le_of_ble_eq_true rfl) (Nat.le_of_ble_eq_true rfl) (Nat.le_of_ble_eq_true rfl) (Nat.le_of_ble_eq_true rfl) (fun hp4 => ?_)
    have hr2 := hp4
    refine j_if_eq hC dX1_addPattern_10 rfl (w_id hr2) (fun c5 => ?_) (fun c5 => ?_)
    · have h := zt c5 h
      refine j_sub [] rfl ?_
      exact J_17 M3 h
    · have h := zf c5 h
      refine j_iconst hC dX1_addPattern_13 ?_
      refine j_goto hC dX1_addPattern_14 rfl ?_
      obtain ⟨e1, e2⟩ := zpr2 (Option.some.inj h)
      exact j_iret hC hE dX1_addPattern_18 (w_id kR_1) (zn_z zb01_1) (by rw [← e1]) e2 rfl (by rw [← e1]; exact kR_1) (Nat.le_of_ble_eq_true rfl) (Nat.le_of_ble_eq_true rfl)
set_option maxHeartbeats 4000000 in
set_option maxRecDepth 100000 in
theorem c_X1_readComparison (l : Launch) (hlt : l.stackTraces = false) (g : zG) (M : zM) (S : zS) (hF : zFx S) {r : Int} {M' : zM} (h : F_X1_readComparison M = some (r, M')) : zMet l g yX1_readComparison cX1_readComparison 5 (some .boolean) 2 0 0 [zr g 2] M S (.inl (some (.int (zi r)))) M' S (inR r) := by
  refine zMet_of (by decide) hlt [(0, zr g 2)] rfl (Nat.le_of_ble_eq_true rfl) (fun K hC hE hN => ?_)
  unfold F_X1_readComparison at h
  have J_119 : ∀ (v2 : Int) (v3 : Int) (t0 : Int) (hv2 : inR v2) (hv3 : inR v3) (ht0 : inR t0) (M : zM) (_ : F_X1_readComparison_J119 v2 v3 t0 M = some (r, M')), zJ K g 0 0 119 5 [(0, zr g 2), (2, .int (zi v2)), (3, .int (zi v3))] [.int (zi t0)] M S := by
    intro v2 v3 t0 hv2 hv3 ht0 M h
    unfold F_X1_readComparison_J119 at h
    refine j_istore hC dX1_readComparison_119 (Nat.le_of_ble_eq_true rfl) rfl ?_
    refine j_aload_n hC 1 dX1_readComparison_121 rfl rfl ?_
    refine j_iconst hC dX1_readComparison_122 ?_
    refine j_iload hC 0 dX1_readComparison_123 rfl ?_
    refine j_iconst hC dX1_readComparison_125 ?_
    refine j_imul hC dX1_readComparison_126 ?_
    refine j_iload_n hC 2 dX1_readComparison_127 rfl rfl ?_
    refine j_bipush hC dX1_readComparison_128 rfl ?_
    refine j_isub hC dX1_readComparison_130 ?_
    refine j_iadd hC dX1_readComparison_131 ?_
    refine j_bipush hC dX1_readComparison_132 rfl ?_
    refine j_imul hC dX1_readComparison_134 ?_
    refine j_iload_n hC 3 dX1_readComparison_135 rfl rfl ?_
    refine j_bipush hC dX1_readComparison_136 rfl ?_
    refine j_isub hC dX1_readComparison_138 ?_
    refine j_iadd hC dX1_readComparison_139 ?_
    obtain ⟨r1, M2, hy, h⟩ := zb2_ex h
    refine j_callVi (ci := 1) hC hE lk_X1_131 dX1_readComparison_140 (c_X1_addStep l hlt g 4 (w ((((t0 * 3) + (v2 - 60)) * 10) + (v3 - 48))) kR_4 (inR_w _) M S hF hy) [.int (zi 4), .int (zi ((((t0 * 3) + (v2 - 60)) * 10) + (v3 - 48)))] [] (zFx_kd hF 2 rfl) ⟨_, rfl, by decide, rfl⟩ rfl (by simp only [zi_w, zl_wl]) rfl (Nat.le_of_ble_eq_true rfl) (Nat.le_of_ble_eq_true rfl) (Nat.le_of_ble_eq_true rfl) (Nat.le_of_ble_eq_true rfl) (Nat.le_of_ble_eq_true rfl) (fun hp3 => ?_)
    have hr1 := hp3
    obtain ⟨c4, h⟩ := zchk_ex h
    obtain ⟨e1, e2⟩ := zpr2 (Option.some.inj h)
    exact j_iret hC hE dX1_readComparison_143 (w_id hr1) (zn_z c4) (by rw [← e1]) e2 rfl (by rw [← e1]; exact hr1) (Nat.le_of_ble_eq_true rfl) (Nat.le_of_ble_eq_true rfl)
  have J_29 : ∀ (v1 : Int) (hv1 : inR v1) (M : zM) (_ : F_X1_readComparison_J29 v1 M = some (r, M')), zJ K g 0 0 29 5 [(0, zr g 2), (1, .int (zi v1))] [] M S := by
    intro v1 hv1 M h
    unfold F_X1_readComparison_J29 at h
    refine j_aload_n hC 0 dX1_readComparison_29 rfl rfl ?_
    refine j_dup hC dX1_readComparison_30 (zr_cat _ _) ?_
    refine j_get hC dX1_readComparison_31 f_X1_30 (zFx_kd hF 2 rfl) rfl 4 rfl (fun hg5 => ?_)
    refine j_iconst hC dX1_readComparison_34 ?_
    refine j_iadd hC dX1_readComparison_35 ?_
    obtain ⟨M6, eM6, h⟩ := zlet_ex h
    refine j_put hC dX1_readComparison_36 f_X1_30 pF_X1 (zFx_kd hF 2 rfl) (Or.inl rfl) rfl 4 rfl rfl (inR_w _) eM6 ?_
    refine j_aload_n hC 0 dX1_readComparison_39 rfl rfl ?_
    refine j_aload_n hC 0 dX1_readComparison_40 rfl rfl ?_
    refine j_get hC dX1_readComparison_41 f_X1_30 (zFx_kd hF 2 rfl) rfl 4 rfl (fun hg7 => ?_)
    obtain ⟨r8, hy, h⟩ := zb1_ex h
    refine j_callVi (ci := 1) hC hE lk_X1_94 dX1_readComparison_44 (c_X1_characterAt l hlt g (M6 2 4) hg7 M6 S hF hy) [.int (zi (M6 2 4))] [] (zFx_kd hF 2 rfl) ⟨_, rfl, by decide, rfl⟩ rfl rfl rfl (Nat.le_of_ble_eq_true rfl) (Nat.le_of_ble_eq_true rfl) (Nat.le_of_ble_eq_true rfl) (Nat.le_of_ble_eq_true rfl) (Nat.le_of_ble_eq_true rfl) (fun hp9 => ?_)
    have hr8 := hp9
    refine j_istore_n hC dX1_readComparison_47 rfl (Nat.le_of_ble_eq_true rfl) rfl ?_
    refine j_iload_n hC 0 dX1_readComparison_48 rfl rfl ?_
    refine j_bipush hC dX1_readComparison_49 rfl ?_
    refine j_icmp_lt hC dX1_readComparison_51 rfl (w_id hr8) (w_id kR_60) (fun c10 => ?_) (fun c10 => ?_)
    · have h := zt c10 h
      refine j_iconst hC dX1_readComparison_60 ?_
      obtain ⟨e1, e2⟩ := zpr2 (Option.some.inj h)
      exact j_iret hC hE dX1_readComparison_61 (w_id kR_0) (zn_z zb01_0) (by rw [← e1]) e2 rfl (by rw [← e1]; exact kR_0) (Nat.le_of_ble_eq_true rfl) (Nat.le_of_ble_eq_true rfl)
    · have h := zf c10 h
      refine j_iload_n hC 0 dX1_readComparison_54 rfl rfl ?_
      refine j_bipush hC dX1_readComparison_55 rfl ?_
      refine j_icmp_le hC dX1_readComparison_57 rfl (w_id hr8) (w_id kR_62) (fun c11 => ?_) (fun c11 => ?_)
      · have h := zf c11 h
        refine j_aload_n hC 1 dX1_readComparison_62 rfl rfl ?_
        refine j_dup hC dX1_readComparison_63 (zr_cat _ _) ?_
        refine j_get hC dX1_readComparison_64 f_X1_30 (zFx_kd hF 2 rfl) rfl 4 rfl (fun hg12 => ?_)
        refine j_iconst hC dX1_readComparison_67 ?_
        refine j_iadd hC dX1_readComparison_68 ?_
        obtain ⟨M13, eM13, h⟩ := zlet_ex h
        refine j_put hC dX1_readComparison_69 f_X1_30 pF_X1 (zFx_kd hF 2 rfl) (Or.inl rfl) rfl 4 rfl rfl (inR_w _) eM13 ?_
        refine j_aload_n hC 1 dX1_readComparison_72 rfl rfl ?_
        refine j_aload_n hC 1 dX1_readComparison_73 rfl rfl ?_
        refine j_get hC dX1_readComparison_74 f_X1_30 (zFx_kd hF 2 rfl) rfl 4 rfl (fun hg14 => ?_)
        obtain ⟨r15, hy, h⟩ := zb1_ex h
        refine j_callVi (ci := 1) hC hE lk_X1_94 dX1_readComparison_77 (c_X1_characterAt l hlt g (M13 2 4) hg14 M13 S hF hy) [.int (zi (M13 2 4))] [] (zFx_kd hF 2 rfl) ⟨_, rfl, by decide, rfl⟩ rfl rfl rfl (Nat.le_of_ble_eq_true rfl) (Nat.le_of_ble_eq_true rfl) (Nat.le_of_ble_eq_true rfl) (Nat.le_of_ble_eq_true rfl) (Nat.le_of_ble_eq_true rfl) (fun hp16 => ?_)
        have hr15 := hp16
        refine j_istore_n hC dX1_readComparison_80 rfl (Nat.le_of_ble_eq_true rfl) rfl ?_
        refine j_iload_n hC 0 dX1_readComparison_81 rfl rfl ?_
        refine j_bipush hC dX1_readComparison_82 rfl ?_
        refine j_icmp_lt hC dX1_readComparison_84 rfl (w_id hr15) (w_id kR_48) (fun c17 => ?_) (fun c17 => ?_)
        · have h := zt c17 h
          refine j_iconst hC dX1_readComparison_93 ?_
          obtain ⟨e1, e2⟩ := zpr2 (Option.some.inj h)
          exact j_iret hC hE dX1_readComparison_94 (w_id kR_0) (zn_z zb01_0) (by rw [← e1]) e2 rfl (by rw [← e1]; exact kR_0) (Nat.le_of_ble_eq_true rfl) (Nat.le_of_ble_eq_true rfl)
        · have h := zf c17 h
          refine j_iload_n hC 0 dX1_readComparison_87 rfl rfl ?_
          refine j_bipush hC dX1_readComparison_88 rfl ?_
          refine j_icmp_le hC dX1_readComparison_90 rfl (w_id hr15) (w_id kR_57) (fun c18 => ?_) (fun c18 => ?_)
          · have h := zf c18 h
            refine j_aload_n hC 2 dX1_readComparison_95 rfl rfl ?_
            refine j_dup hC dX1_readComparison_96 (zr_cat _ _) ?_
            refine j_get hC dX1_readComparison_97 f_X1_30 (zFx_kd hF 2 rfl) rfl 4 rfl (fun hg19 => ?_)
            refine j_iconst hC dX1_readComparison_100 ?_
            refine j_iadd hC dX1_readComparison_101 ?_
            obtain ⟨M20, eM20, h⟩ := zlet_ex h
            refine j_put hC dX1_readComparison_102 f_X1_30 pF_X1 (zFx_kd hF 2 rfl) (Or.inl rfl) rfl 4 rfl rfl (inR_w _) eM20 ?_
            refine j_iload_n hC 3 dX1_readComparison_105 rfl rfl ?_
            refine j_bipush hC dX1_readComparison_106 rfl ?_
            refine j_icmp_ne hC dX1_readComparison_108 rfl (w_id hv1) (w_id kR_35) (fun c21 => ?_) (fun c21 => ?_)
            · have h := zf c21 h
              refine j_iload_n hC 3 dX1_readComparison_115 rfl rfl ?_
              refine j_bipush hC dX1_readComparison_116 rfl ?_
              refine j_isub hC dX1_readComparison_118 ?_
              refine j_sub [2, 1, 0] rfl ?_
              refine j_stk (st2 := [.int (zi (w (v1 - 97)))]) (by simp only [zi_w, zl_wl]) ?_
              exact J_119 r8 r15 (w (v1 - 97)) hr8 hr15 (inR_w _) M20 h
            · have h := zt c21 h
              refine j_iconst hC dX1_readComparison_111 ?_
              refine j_goto hC dX1_readComparison_112 rfl ?_
              refine j_sub [2, 1, 0] rfl ?_
              exact J_119 r8 r15 3 hr8 hr15 kR_3 M20 h
          · have h := zt c18 h
            refine j_iconst hC dX1_readComparison_93 ?_
            obtain ⟨e1, e2⟩ := zpr2 (Option.some.inj h)
            exact j_iret hC hE dX1_readComparison_94 (w_id kR_0) (zn_z zb01_0) (by rw [← e1]) e2 rfl (by rw [← e1]; exact kR_0) (Nat.le_of_ble_eq_true rfl) (Nat.le_of_ble_eq_true rfl)
      · have h := zt c11 h
        refine j_iconst hC dX1_readComparison_60 ?_
        obtain ⟨e1, e2⟩ := zpr2 (Option.some.inj h)
        exact j_iret hC hE dX1_readComparison_61 (w_id kR_0) (zn_z zb01_0) (by rw [← e1]) e2 rfl (by rw [← e1]; exact kR_0) (Nat.le_of_ble_eq_true rfl) (Nat.le_of_ble_eq_true rfl)
  refine j_aload_n hC 0 dX1_readComparison_0 rfl rfl ?_
  refine j_aload_n hC 0 dX1_readComparison_1 rfl rfl ?_
  refine j_get hC dX1_readComparison_2 f_X1_30 (zFx_kd hF 2 rfl) rfl 4 rfl (fun hg22 => ?_)
  obtain ⟨r23, hy, h⟩ := zb1_ex h
  refine j_callVi (ci := 1) hC hE lk_X1_94 dX1_readComparison_5 (c_X1_characterAt l hlt g (M 2 4) hg22 M S hF hy) [.int (zi (M 2 4))] [] (zFx_kd hF 2 rfl) ⟨_, rfl, by decide, rfl⟩ rfl rfl rfl (Nat.le_of_ble_eq_true rfl) (Nat.le_of_ble_eq_true rfl) (Nat.le_of_ble_eq_true rfl) (Nat.le_of_ble_eq_true rfl) (Nat.le_of_ble_eq_true rfl) (fun hp24 => ?_)
  have hr23 := hp24
  refine j_istore_n hC dX1_readComparison_8 rfl (Nat.le_of_ble_eq_true rfl) rfl ?_
  refine j_iload_n hC 0 dX1_readComparison_9 rfl rfl ?_
  refine j_bipush hC dX1_readComparison_10 rfl ?_
  refine j_icmp_eq hC dX1_readComparison_12 rfl (w_id hr23) (w_id kR_35) (fun c25 => ?_) (fun c25 => ?_)
  · have h := zt c25 h
    refine j_sub [1, 0] rfl ?_
    exact J_29 r23 hr23 M h
  · have h := zf c25 h
    refine j_iload_n hC 0 dX1_readComparison_15 rfl rfl ?_
    refine j_bipush hC dX1_readComparison_16 rfl ?_
    refine j_icmp_lt hC dX1_readComparison_18 rfl (w_id hr23) (w_id kR_97) (fun c26 => ?_) (fun c26 => ?_)
    · have h := zt c26 h
      refine j_iconst hC dX1_readComparison_27 ?_
      obtain ⟨e1, e2⟩ := zpr2 (Option.some.inj h)
      exact j_iret hC hE dX1_readComparison_28 (w_id kR_0) (zn_z zb01_0) (by rw [← e1]) e2 rfl (by rw [← e1]; exact kR_0) (Nat.le_of_ble_eq_true rfl) (Nat.le_of_ble_eq_true rfl)
    · have h := zf c26 h
      refine j_iload_n hC 0 dX1_readComparison_21 rfl rfl ?_
      refine j_bipush hC dX1_readComparison_22 rfl ?_
      refine j_icmp_le hC dX1_readComparison_24 rfl (w_id hr23) (w_id kR_99) (fun c27 => ?_) (fun c27 => ?_)
      · have h := zf c27 h
        refine j_sub [1, 0] rfl ?_
        exact J_29 r23 hr23 M h
      · have h := zt c27 h
        refine j_iconst hC dX1_readComparison_27 ?_
        obtain ⟨e1, e2⟩ := zpr2 (Option.some.inj h)
        exact j_iret hC hE dX1_readComparison_28 (w_id kR_0) (zn_z zb01_0) (by rw [← e1]) e2 rfl (by rw [← e1]; exact kR_0) (Nat.le_of_ble_eq_true rfl) (Nat.le_of_ble_eq_true rfl)
set_option maxHeartbeats 8000000 in
set_option maxRecDepth 100000 in
theorem c_GP (l : Launch) (hlt : l.stackTraces = false) (g : zG) : ∀ n : Nat, (∀ (v1 : Int) (hv1 : inR v1) (M : zM) (S : zS) (_ : zFx S) (r : Int) (M' : zM) (_ : F_GP n 0 v1 M = some (r, M')), zMet l g yX1_readAlternatives cX1_readAlternatives 4 (some .boolean) (3 + n) 0 0 [zr g 2, .int (zi v1)] M S (.inl (some (.int (zi r)))) M' S (inR r)) ∧ (∀ (v1 : Int) (hv1 : inR v1) (M : zM) (S : zS) (_ : zFx S) (r : Int) (M' : zM) (_ : F_GP n 1 v1 M = some (r, M')), zMet l g yX1_readConjunction cX1_readConjunction 4 (some .boolean) (3 + n) 0 0 [zr g 2, .int (zi v1)] M S (.inl (some (.int (zi r)))) M' S (inR r)) ∧ (∀ (v1 : Int) (hv1 : inR v1) (M : zM) (S : zS) (_ : zFx S) (r : Int) (M' : zM) (_ : F_GP n 2 v1 M = some (r, M')), zMet l g yX1_readCondition cX1_readCondition 2 (some .boolean) (3 + n) 0 0 [zr g 2, .int (zi v1)] M S (.inl (some (.int (zi r)))) M' S (inR r)) := by
  intro n
  induction n with
  | zero => exact ⟨(by intro v1 hv1 M S hF r M' h; cases h), (by intro v1 hv1 M S hF r M' h; cases h), (by intro v1 hv1 M S hF r M' h; cases h)⟩
  | succ n ih =>
    obtain ⟨ihG0, ihG1, ihG2⟩ := ih
    have erc : ∃ rc, rc = F_GP n := ⟨_, rfl⟩
    obtain ⟨rc, erc⟩ := erc
    refine ⟨?_, ?_, ?_⟩
    · intro v1 hv1 M S hF r M' h
      have h : F_X1_readAlternatives rc v1 M = some (r, M') := by rw [erc]; exact h
      rw [← erc] at ihG0 ihG1 ihG2
      refine zMet_of (by decide) hlt [(0, zr g 2), (1, .int (zi v1))] rfl (Nat.le_of_ble_eq_true rfl) (fun K hC hE hN => ?_)
      unfold F_X1_readAlternatives at h
      have J_56 : ∀ (v2 : Int) (hv2 : inR v2) (M : zM) (_ : F_X1_readAlternatives_J56 rc v2 M = some (r, M')), zJ K g 0 0 56 4 [(2, .int (zi v2))] [] M S := by
        intro v2 hv2 M h
        unfold F_X1_readAlternatives_J56 at h
        refine j_iload_n hC 0 dX1_readAlternatives_56 rfl rfl ?_
        obtain ⟨c1, h⟩ := zchk_ex h
        obtain ⟨e1, e2⟩ := zpr2 (Option.some.inj h)
        exact j_iret hC hE dX1_readAlternatives_57 (w_id hv2) (zn_z c1) (by rw [← e1]) e2 rfl (by rw [← e1]; exact hv2) (Nat.le_of_ble_eq_true rfl) (Nat.le_of_ble_eq_true rfl)
      have L_8 : ∀ (v1 : Int) (v2 : Int) (v3 : Int) (hv1 : inR v1) (hv2 : inR v2) (hv3 : inR v3) (M : zM) (_ : F_X1_readAlternatives_L8 rc v1 v2 v3 M = some (r, M')), zJ K g 0 0 8 4 [(0, zr g 2), (1, .int (zi v1)), (2, .int (zi v2)), (3, .int (zi v3))] [] M S := by
        intro v1 v2 v3 hv1 hv2 hv3 M h
        unfold F_X1_readAlternatives_L8 at h
        obtain ⟨ex8, hl, hd8⟩ := zb1_ex h
        obtain ⟨bd8, ebd⟩ : ∃ f, f = (fun (s : Int × Int × zM) => F_X1_readAlternatives_B8 rc v1 s.1 s.2.1 s.2.2) := ⟨_, rfl⟩
        rw [← ebd] at hl
        have main : ∀ (n8 : Nat) (v2 : Int) (v3 : Int) (hv2 : inR v2) (hv3 : inR v3) (M : zM) (_ : zloop bd8 n8 (v2, v3, M) = some ex8), zJ K g 0 0 8 4 [(0, zr g 2), (1, .int (zi v1)), (2, .int (zi v2)), (3, .int (zi v3))] [] M S := by
          intro n8
          induction n8 with
          | zero => intro v2 v3 hv2 hv3 M hl; exact zloop_0 hl
          | succ n8 ih8 =>
            have J_49 : ∀ (v3 : Int) (t0 : Int) (hv3 : inR v3) (ht0 : inR t0) (M : zM) (o : _) (_ : F_X1_readAlternatives_J49 rc v1 v3 t0 M = some o), zAft (bd8) n8 ex8 o → zJ K g 0 0 49 4 [(0, zr g 2), (1, .int (zi v1)), (3, .int (zi v3))] [.int (zi t0)] M S := by
              intro v3 t0 hv3 ht0 M o h hT
              unfold F_X1_readAlternatives_J49 at h
              refine j_istore_n hC dX1_readAlternatives_49 rfl (Nat.le_of_ble_eq_true rfl) rfl ?_
              obtain ⟨x2, ex2, h⟩ := zlet_ex h
              have hx2 : inR x2 := by rw [ex2]; exact inR_w _
              refine j_iinc hC 3 dX1_readAlternatives_50 rfl ex2 (Nat.le_of_ble_eq_true rfl) rfl ?_
              refine j_goto hC dX1_readAlternatives_53 rfl ?_
              obtain rfl := Option.some.inj h
              refine j_sub [2, 3, 1, 0] rfl ?_
              exact ih8 t0 x2 ht0 hx2 M hT
            have J_48 : ∀ (v3 : Int) (hv3 : inR v3) (M : zM) (o : _) (_ : F_X1_readAlternatives_J48 rc v1 v3 M = some o), zAft (bd8) n8 ex8 o → zJ K g 0 0 48 4 [(0, zr g 2), (1, .int (zi v1)), (3, .int (zi v3))] [] M S := by
              intro v3 hv3 M o h hT
              unfold F_X1_readAlternatives_J48 at h
              refine j_iconst hC dX1_readAlternatives_48 ?_
              exact J_49 v3 0 hv3 kR_0 M _ h hT
            intro v2 v3 hv2 hv3 M hl
            obtain ⟨o, h, hT⟩ := zloop_ex hl
            have h : F_X1_readAlternatives_B8 rc v1 v2 v3 M = some o := by rw [ebd] at h; exact h
            unfold F_X1_readAlternatives_B8 at h
            refine j_iload_n hC 3 dX1_readAlternatives_8 rfl rfl ?_
            refine j_bipush hC dX1_readAlternatives_9 rfl ?_
            refine j_icmp_ge hC dX1_readAlternatives_11 rfl (w_id hv3) (w_id kR_60) (fun c3 => ?_) (fun c3 => ?_)
            · have h := zf c3 h
              obtain rfl := Option.some.inj h
              have hx8 := hd8
              rw [← show _ = ex8 from hT] at hx8
              refine j_sub [2] rfl ?_
              exact J_56 v2 hv2 M hx8
            · have h := zt c3 h
              refine j_iload_n hC 2 dX1_readAlternatives_14 rfl rfl ?_
              refine j_if_eq hC dX1_readAlternatives_15 rfl (w_id hv2) (fun c4 => ?_) (fun c4 => ?_)
              · have h := zt c4 h
                obtain rfl := Option.some.inj h
                have hx8 := hd8
                rw [← show _ = ex8 from hT] at hx8
                refine j_sub [2] rfl ?_
                exact J_56 v2 hv2 M hx8
              · have h := zf c4 h
                refine j_aload_n hC 0 dX1_readAlternatives_18 rfl rfl ?_
                refine j_bipush hC dX1_readAlternatives_19 rfl ?_
                obtain ⟨r5, M6, hy, h⟩ := zb2_ex h
                refine j_callVi (ci := 1) hC hE lk_X1_115 dX1_readAlternatives_21 (c_X1_skip l hlt g 124 kR_124 M S hF hy) [.int (zi 124)] [] (zFx_kd hF 2 rfl) ⟨_, rfl, by decide, rfl⟩ rfl rfl rfl (Nat.le_of_ble_eq_true rfl) (Nat.le_of_ble_eq_true rfl) (by omega) (Nat.le_of_ble_eq_true rfl) (Nat.le_of_ble_eq_true rfl) (fun hp7 => ?_)
                have hr5 := hp7
                refine j_if_eq hC dX1_readAlternatives_24 rfl (w_id hr5) (fun c8 => ?_) (fun c8 => ?_)
                · have h := zt c8 h
                  obtain rfl := Option.some.inj h
                  have hx8 := hd8
                  rw [← show _ = ex8 from hT] at hx8
                  refine j_sub [2] rfl ?_
                  exact J_56 v2 hv2 M6 hx8
                · have h := zf c8 h
                  refine j_aload_n hC 0 dX1_readAlternatives_27 rfl rfl ?_
                  refine j_iload_n hC 1 dX1_readAlternatives_28 rfl rfl ?_
                  obtain ⟨r9, M10, hy, h⟩ := zb2_ex h
                  refine j_callVi (ci := 1) hC hE lk_X1_126 dX1_readAlternatives_29 (ihG1 v1 hv1 M6 S hF _ _ hy) [.int (zi v1)] [] (zFx_kd hF 2 rfl) ⟨_, rfl, by decide, rfl⟩ rfl rfl rfl (Nat.le_of_ble_eq_true rfl) (Nat.le_of_ble_eq_true rfl) (by omega) (Nat.le_of_ble_eq_true rfl) (Nat.le_of_ble_eq_true rfl) (fun hp11 => ?_)
                  have hr9 := hp11
                  refine j_if_eq hC dX1_readAlternatives_32 rfl (w_id hr9) (fun c12 => ?_) (fun c12 => ?_)
                  · have h := zt c12 h
                    refine j_sub [0, 1, 3] rfl ?_
                    exact J_48 v3 hv3 M10 _ h hT
                  · have h := zf c12 h
                    refine j_aload_n hC 0 dX1_readAlternatives_35 rfl rfl ?_
                    refine j_iconst hC dX1_readAlternatives_36 ?_
                    refine j_iconst hC dX1_readAlternatives_37 ?_
                    obtain ⟨r13, M14, hy, h⟩ := zb2_ex h
                    refine j_callVi (ci := 1) hC hE lk_X1_131 dX1_readAlternatives_38 (c_X1_addStep l hlt g 3 0 kR_3 kR_0 M10 S hF hy) [.int (zi 3), .int (zi 0)] [] (zFx_kd hF 2 rfl) ⟨_, rfl, by decide, rfl⟩ rfl rfl rfl (Nat.le_of_ble_eq_true rfl) (Nat.le_of_ble_eq_true rfl) (by omega) (Nat.le_of_ble_eq_true rfl) (Nat.le_of_ble_eq_true rfl) (fun hp15 => ?_)
                    have hr13 := hp15
                    refine j_if_eq hC dX1_readAlternatives_41 rfl (w_id hr13) (fun c16 => ?_) (fun c16 => ?_)
                    · have h := zt c16 h
                      refine j_sub [0, 1, 3] rfl ?_
                      exact J_48 v3 hv3 M14 _ h hT
                    · have h := zf c16 h
                      refine j_iconst hC dX1_readAlternatives_44 ?_
                      refine j_goto hC dX1_readAlternatives_45 rfl ?_
                      refine j_sub [0, 1, 3] rfl ?_
                      exact J_49 v3 1 hv3 kR_1 M14 _ h hT
        exact main zN v2 v3 hv2 hv3 M hl
      refine j_aload_n hC 0 dX1_readAlternatives_0 rfl rfl ?_
      refine j_iload_n hC 1 dX1_readAlternatives_1 rfl rfl ?_
      obtain ⟨r17, M18, hy, h⟩ := zb2_ex h
      refine j_callVi (ci := 1) hC hE lk_X1_126 dX1_readAlternatives_2 (ihG1 v1 hv1 M S hF _ _ hy) [.int (zi v1)] [] (zFx_kd hF 2 rfl) ⟨_, rfl, by decide, rfl⟩ rfl rfl rfl (Nat.le_of_ble_eq_true rfl) (Nat.le_of_ble_eq_true rfl) (by omega) (Nat.le_of_ble_eq_true rfl) (Nat.le_of_ble_eq_true rfl) (fun hp19 => ?_)
      have hr17 := hp19
      refine j_istore_n hC dX1_readAlternatives_5 rfl (Nat.le_of_ble_eq_true rfl) rfl ?_
      refine j_iconst hC dX1_readAlternatives_6 ?_
      refine j_istore_n hC dX1_readAlternatives_7 rfl (Nat.le_of_ble_eq_true rfl) rfl ?_
      refine j_sub [2, 3, 1, 0] rfl ?_
      exact L_8 v1 r17 0 hv1 hr17 kR_0 M18 h
    · intro v1 hv1 M S hF r M' h
      have h : F_X1_readConjunction rc v1 M = some (r, M') := by rw [erc]; exact h
      rw [← erc] at ihG0 ihG1 ihG2
      refine zMet_of (by decide) hlt [(0, zr g 2), (1, .int (zi v1))] rfl (Nat.le_of_ble_eq_true rfl) (fun K hC hE hN => ?_)
      unfold F_X1_readConjunction at h
      have J_56 : ∀ (v2 : Int) (hv2 : inR v2) (M : zM) (_ : F_X1_readConjunction_J56 rc v2 M = some (r, M')), zJ K g 0 0 56 4 [(2, .int (zi v2))] [] M S := by
        intro v2 hv2 M h
        unfold F_X1_readConjunction_J56 at h
        refine j_iload_n hC 0 dX1_readConjunction_56 rfl rfl ?_
        obtain ⟨c1, h⟩ := zchk_ex h
        obtain ⟨e1, e2⟩ := zpr2 (Option.some.inj h)
        exact j_iret hC hE dX1_readConjunction_57 (w_id hv2) (zn_z c1) (by rw [← e1]) e2 rfl (by rw [← e1]; exact hv2) (Nat.le_of_ble_eq_true rfl) (Nat.le_of_ble_eq_true rfl)
      have L_8 : ∀ (v1 : Int) (v2 : Int) (v3 : Int) (hv1 : inR v1) (hv2 : inR v2) (hv3 : inR v3) (M : zM) (_ : F_X1_readConjunction_L8 rc v1 v2 v3 M = some (r, M')), zJ K g 0 0 8 4 [(0, zr g 2), (1, .int (zi v1)), (2, .int (zi v2)), (3, .int (zi v3))] [] M S := by
        intro v1 v2 v3 hv1 hv2 hv3 M h
        unfold F_X1_readConjunction_L8 at h
        obtain ⟨ex8, hl, hd8⟩ := zb1_ex h
        obtain ⟨bd8, ebd⟩ : ∃ f, f = (fun (s : Int × Int × zM) => F_X1_readConjunction_B8 rc v1 s.1 s.2.1 s.2.2) := ⟨_, rfl⟩
        rw [← ebd] at hl
        have main : ∀ (n8 : Nat) (v2 : Int) (v3 : Int) (hv2 : inR v2) (hv3 : inR v3) (M : zM) (_ : zloop bd8 n8 (v2, v3, M) = some ex8), zJ K g 0 0 8 4 [(0, zr g 2), (1, .int (zi v1)), (2, .int (zi v2)), (3, .int (zi v3))] [] M S := by
          intro n8
          induction n8 with
          | zero => intro v2 v3 hv2 hv3 M hl; exact zloop_0 hl
          | succ n8 ih8 =>
            have J_49 : ∀ (v3 : Int) (t0 : Int) (hv3 : inR v3) (ht0 : inR t0) (M : zM) (o : _) (_ : F_X1_readConjunction_J49 rc v1 v3 t0 M = some o), zAft (bd8) n8 ex8 o → zJ K g 0 0 49 4 [(0, zr g 2), (1, .int (zi v1)), (3, .int (zi v3))] [.int (zi t0)] M S := by
              intro v3 t0 hv3 ht0 M o h hT
              unfold F_X1_readConjunction_J49 at h
              refine j_istore_n hC dX1_readConjunction_49 rfl (Nat.le_of_ble_eq_true rfl) rfl ?_
              obtain ⟨x2, ex2, h⟩ := zlet_ex h
              have hx2 : inR x2 := by rw [ex2]; exact inR_w _
              refine j_iinc hC 3 dX1_readConjunction_50 rfl ex2 (Nat.le_of_ble_eq_true rfl) rfl ?_
              refine j_goto hC dX1_readConjunction_53 rfl ?_
              obtain rfl := Option.some.inj h
              refine j_sub [2, 3, 1, 0] rfl ?_
              exact ih8 t0 x2 ht0 hx2 M hT
            have J_48 : ∀ (v3 : Int) (hv3 : inR v3) (M : zM) (o : _) (_ : F_X1_readConjunction_J48 rc v1 v3 M = some o), zAft (bd8) n8 ex8 o → zJ K g 0 0 48 4 [(0, zr g 2), (1, .int (zi v1)), (3, .int (zi v3))] [] M S := by
              intro v3 hv3 M o h hT
              unfold F_X1_readConjunction_J48 at h
              refine j_iconst hC dX1_readConjunction_48 ?_
              exact J_49 v3 0 hv3 kR_0 M _ h hT
            intro v2 v3 hv2 hv3 M hl
            obtain ⟨o, h, hT⟩ := zloop_ex hl
            have h : F_X1_readConjunction_B8 rc v1 v2 v3 M = some o := by rw [ebd] at h; exact h
            unfold F_X1_readConjunction_B8 at h
            refine j_iload_n hC 3 dX1_readConjunction_8 rfl rfl ?_
            refine j_bipush hC dX1_readConjunction_9 rfl ?_
            refine j_icmp_ge hC dX1_readConjunction_11 rfl (w_id hv3) (w_id kR_60) (fun c3 => ?_) (fun c3 => ?_)
            · have h := zf c3 h
              obtain rfl := Option.some.inj h
              have hx8 := hd8
              rw [← show _ = ex8 from hT] at hx8
              refine j_sub [2] rfl ?_
              exact J_56 v2 hv2 M hx8
            · have h := zt c3 h
              refine j_iload_n hC 2 dX1_readConjunction_14 rfl rfl ?_
              refine j_if_eq hC dX1_readConjunction_15 rfl (w_id hv2) (fun c4 => ?_) (fun c4 => ?_)
              · have h := zt c4 h
                obtain rfl := Option.some.inj h
                have hx8 := hd8
                rw [← show _ = ex8 from hT] at hx8
                refine j_sub [2] rfl ?_
                exact J_56 v2 hv2 M hx8
              · have h := zf c4 h
                refine j_aload_n hC 0 dX1_readConjunction_18 rfl rfl ?_
                refine j_bipush hC dX1_readConjunction_19 rfl ?_
                obtain ⟨r5, M6, hy, h⟩ := zb2_ex h
                refine j_callVi (ci := 1) hC hE lk_X1_115 dX1_readConjunction_21 (c_X1_skip l hlt g 38 kR_38 M S hF hy) [.int (zi 38)] [] (zFx_kd hF 2 rfl) ⟨_, rfl, by decide, rfl⟩ rfl rfl rfl (Nat.le_of_ble_eq_true rfl) (Nat.le_of_ble_eq_true rfl) (by omega) (Nat.le_of_ble_eq_true rfl) (Nat.le_of_ble_eq_true rfl) (fun hp7 => ?_)
                have hr5 := hp7
                refine j_if_eq hC dX1_readConjunction_24 rfl (w_id hr5) (fun c8 => ?_) (fun c8 => ?_)
                · have h := zt c8 h
                  obtain rfl := Option.some.inj h
                  have hx8 := hd8
                  rw [← show _ = ex8 from hT] at hx8
                  refine j_sub [2] rfl ?_
                  exact J_56 v2 hv2 M6 hx8
                · have h := zf c8 h
                  refine j_aload_n hC 0 dX1_readConjunction_27 rfl rfl ?_
                  refine j_iload_n hC 1 dX1_readConjunction_28 rfl rfl ?_
                  obtain ⟨r9, M10, hy, h⟩ := zb2_ex h
                  refine j_callVi (ci := 1) hC hE lk_X1_135 dX1_readConjunction_29 (ihG2 v1 hv1 M6 S hF _ _ hy) [.int (zi v1)] [] (zFx_kd hF 2 rfl) ⟨_, rfl, by decide, rfl⟩ rfl rfl rfl (Nat.le_of_ble_eq_true rfl) (Nat.le_of_ble_eq_true rfl) (by omega) (Nat.le_of_ble_eq_true rfl) (Nat.le_of_ble_eq_true rfl) (fun hp11 => ?_)
                  have hr9 := hp11
                  refine j_if_eq hC dX1_readConjunction_32 rfl (w_id hr9) (fun c12 => ?_) (fun c12 => ?_)
                  · have h := zt c12 h
                    refine j_sub [0, 1, 3] rfl ?_
                    exact J_48 v3 hv3 M10 _ h hT
                  · have h := zf c12 h
                    refine j_aload_n hC 0 dX1_readConjunction_35 rfl rfl ?_
                    refine j_iconst hC dX1_readConjunction_36 ?_
                    refine j_iconst hC dX1_readConjunction_37 ?_
                    obtain ⟨r13, M14, hy, h⟩ := zb2_ex h
                    refine j_callVi (ci := 1) hC hE lk_X1_131 dX1_readConjunction_38 (c_X1_addStep l hlt g 2 0 kR_2 kR_0 M10 S hF hy) [.int (zi 2), .int (zi 0)] [] (zFx_kd hF 2 rfl) ⟨_, rfl, by decide, rfl⟩ rfl rfl rfl (Nat.le_of_ble_eq_true rfl) (Nat.le_of_ble_eq_true rfl) (by omega) (Nat.le_of_ble_eq_true rfl) (Nat.le_of_ble_eq_true rfl) (fun hp15 => ?_)
                    have hr13 := hp15
                    refine j_if_eq hC dX1_readConjunction_41 rfl (w_id hr13) (fun c16 => ?_) (fun c16 => ?_)
                    · have h := zt c16 h
                      refine j_sub [0, 1, 3] rfl ?_
                      exact J_48 v3 hv3 M14 _ h hT
                    · have h := zf c16 h
                      refine j_iconst hC dX1_readConjunction_44 ?_
                      refine j_goto hC dX1_readConjunction_45 rfl ?_
                      refine j_sub [0, 1, 3] rfl ?_
                      exact J_49 v3 1 hv3 kR_1 M14 _ h hT
        exact main zN v2 v3 hv2 hv3 M hl
      refine j_aload_n hC 0 dX1_readConjunction_0 rfl rfl ?_
      refine j_iload_n hC 1 dX1_readConjunction_1 rfl rfl ?_
      obtain ⟨r17, M18, hy, h⟩ := zb2_ex h
      refine j_callVi (ci := 1) hC hE lk_X1_135 dX1_readConjunction_2 (ihG2 v1 hv1 M S hF _ _ hy) [.int (zi v1)] [] (zFx_kd hF 2 rfl) ⟨_, rfl, by decide, rfl⟩ rfl rfl rfl (Nat.le_of_ble_eq_true rfl) (Nat.le_of_ble_eq_true rfl) (by omega) (Nat.le_of_ble_eq_true rfl) (Nat.le_of_ble_eq_true rfl) (fun hp19 => ?_)
      have hr17 := hp19
      refine j_istore_n hC dX1_readConjunction_5 rfl (Nat.le_of_ble_eq_true rfl) rfl ?_
      refine j_iconst hC dX1_readConjunction_6 ?_
      refine j_istore_n hC dX1_readConjunction_7 rfl (Nat.le_of_ble_eq_true rfl) rfl ?_
      refine j_sub [2, 3, 1, 0] rfl ?_
      exact L_8 v1 r17 0 hv1 hr17 kR_0 M18 h
    · intro v1 hv1 M S hF r M' h
      have h : F_X1_readCondition rc v1 M = some (r, M') := by rw [erc]; exact h
      rw [← erc] at ihG0 ihG1 ihG2
      refine zMet_of (by decide) hlt [(0, zr g 2), (1, .int (zi v1))] rfl (Nat.le_of_ble_eq_true rfl) (fun K hC hE hN => ?_)
      unfold F_X1_readCondition at h
      have J_106 : ∀ (M : zM) (_ : F_X1_readCondition_J106 rc M = some (r, M')), zJ K g 0 0 106 2 [] [] M S := by
        intro M h
        unfold F_X1_readCondition_J106 at h
        refine j_iconst hC dX1_readCondition_106 ?_
        obtain ⟨e1, e2⟩ := zpr2 (Option.some.inj h)
        exact j_iret hC hE dX1_readCondition_107 (w_id kR_0) (zn_z zb01_0) (by rw [← e1]) e2 rfl (by rw [← e1]; exact kR_0) (Nat.le_of_ble_eq_true rfl) (Nat.le_of_ble_eq_true rfl)
      have J_227 : ∀ (M : zM) (_ : F_X1_readCondition_J227 rc M = some (r, M')), zJ K g 0 0 227 2 [] [] M S := by
        intro M h
        unfold F_X1_readCondition_J227 at h
        refine j_iconst hC dX1_readCondition_227 ?_
        obtain ⟨e1, e2⟩ := zpr2 (Option.some.inj h)
        exact j_iret hC hE dX1_readCondition_228 (w_id kR_0) (zn_z zb01_0) (by rw [← e1]) e2 rfl (by rw [← e1]; exact kR_0) (Nat.le_of_ble_eq_true rfl) (Nat.le_of_ble_eq_true rfl)
      have J_146 : ∀ (M : zM) (_ : F_X1_readCondition_J146 rc M = some (r, M')), zJ K g 0 0 146 2 [] [] M S := by
        intro M h
        unfold F_X1_readCondition_J146 at h
        refine j_iconst hC dX1_readCondition_146 ?_
        obtain ⟨e1, e2⟩ := zpr2 (Option.some.inj h)
        exact j_iret hC hE dX1_readCondition_147 (w_id kR_0) (zn_z zb01_0) (by rw [← e1]) e2 rfl (by rw [← e1]; exact kR_0) (Nat.le_of_ble_eq_true rfl) (Nat.le_of_ble_eq_true rfl)
      have J_170 : ∀ (M : zM) (_ : F_X1_readCondition_J170 rc M = some (r, M')), zJ K g 0 0 170 2 [] [] M S := by
        intro M h
        unfold F_X1_readCondition_J170 at h
        refine j_iconst hC dX1_readCondition_170 ?_
        obtain ⟨e1, e2⟩ := zpr2 (Option.some.inj h)
        exact j_iret hC hE dX1_readCondition_171 (w_id kR_0) (zn_z zb01_0) (by rw [← e1]) e2 rfl (by rw [← e1]; exact kR_0) (Nat.le_of_ble_eq_true rfl) (Nat.le_of_ble_eq_true rfl)
      have J_198 : ∀ (M : zM) (_ : F_X1_readCondition_J198 rc M = some (r, M')), zJ K g 0 0 198 2 [] [] M S := by
        intro M h
        unfold F_X1_readCondition_J198 at h
        refine j_iconst hC dX1_readCondition_198 ?_
        obtain ⟨e1, e2⟩ := zpr2 (Option.some.inj h)
        exact j_iret hC hE dX1_readCondition_199 (w_id kR_0) (zn_z zb01_0) (by rw [← e1]) e2 rfl (by rw [← e1]; exact kR_0) (Nat.le_of_ble_eq_true rfl) (Nat.le_of_ble_eq_true rfl)
      have J_256 : ∀ (M : zM) (_ : F_X1_readCondition_J256 rc M = some (r, M')), zJ K g 0 0 256 2 [] [] M S := by
        intro M h
        unfold F_X1_readCondition_J256 at h
        refine j_iconst hC dX1_readCondition_256 ?_
        obtain ⟨e1, e2⟩ := zpr2 (Option.some.inj h)
        exact j_iret hC hE dX1_readCondition_257 (w_id kR_0) (zn_z zb01_0) (by rw [← e1]) e2 rfl (by rw [← e1]; exact kR_0) (Nat.le_of_ble_eq_true rfl) (Nat.le_of_ble_eq_true rfl)
      refine j_aload_n hC 0 dX1_readCondition_0 rfl rfl ?_
      refine j_aload_n hC 0 dX1_readCondition_1 rfl rfl ?_
      refine j_get hC dX1_readCondition_2 f_X1_30 (zFx_kd hF 2 rfl) rfl 4 rfl (fun hg1 => ?_)
      obtain ⟨r2, hy, h⟩ := zb1_ex h
      refine j_callVi (ci := 1) hC hE lk_X1_94 dX1_readCondition_5 (c_X1_characterAt l hlt g (M 2 4) hg1 M S hF hy) [.int (zi (M 2 4))] [] (zFx_kd hF 2 rfl) ⟨_, rfl, by decide, rfl⟩ rfl rfl rfl (Nat.le_of_ble_eq_true rfl) (Nat.le_of_ble_eq_true rfl) (by omega) (Nat.le_of_ble_eq_true rfl) (Nat.le_of_ble_eq_true rfl) (fun hp3 => ?_)
      have hr2 := hp3
      by_cases c4 : r2 = 33
      · have h := zt c4 h
        refine j_lsw hC dX1_readCondition_8 (w_id hr2) (by decide) (off := 60) (by rw [c4]; rfl) rfl ?_
        refine j_iload_n hC 1 dX1_readCondition_68 rfl rfl ?_
        refine j_bipush hC dX1_readCondition_69 rfl ?_
        refine j_icmp_ge hC dX1_readCondition_71 rfl (w_id hv1) (w_id kR_6) (fun c5 => ?_) (fun c5 => ?_)
        · have h := zf c5 h
          refine j_sub [] rfl ?_
          exact J_106 M h
        · have h := zt c5 h
          refine j_aload_n hC 0 dX1_readCondition_74 rfl rfl ?_
          refine j_bipush hC dX1_readCondition_75 rfl ?_
          obtain ⟨r6, M7, hy, h⟩ := zb2_ex h
          refine j_callVi (ci := 1) hC hE lk_X1_115 dX1_readCondition_77 (c_X1_skip l hlt g 33 kR_33 M S hF hy) [.int (zi 33)] [] (zFx_kd hF 2 rfl) ⟨_, rfl, by decide, rfl⟩ rfl rfl rfl (Nat.le_of_ble_eq_true rfl) (Nat.le_of_ble_eq_true rfl) (by omega) (Nat.le_of_ble_eq_true rfl) (Nat.le_of_ble_eq_true rfl) (fun hp8 => ?_)
          have hr6 := hp8
          refine j_if_eq hC dX1_readCondition_80 rfl (w_id hr6) (fun c9 => ?_) (fun c9 => ?_)
          · have h := zt c9 h
            refine j_sub [] rfl ?_
            exact J_106 M7 h
          · have h := zf c9 h
            refine j_aload_n hC 0 dX1_readCondition_83 rfl rfl ?_
            refine j_iload_n hC 1 dX1_readCondition_84 rfl rfl ?_
            refine j_iconst hC dX1_readCondition_85 ?_
            refine j_iadd hC dX1_readCondition_86 ?_
            obtain ⟨r10, M11, hy, h⟩ := zb2_ex h
            refine j_callVi (ci := 1) hC hE lk_X1_135 dX1_readCondition_87 (ihG2 (w (v1 + 1)) (inR_w _) M7 S hF _ _ hy) [.int (zi (v1 + 1))] [] (zFx_kd hF 2 rfl) ⟨_, rfl, by decide, rfl⟩ rfl (by simp only [zi_w, zl_wl]) rfl (Nat.le_of_ble_eq_true rfl) (Nat.le_of_ble_eq_true rfl) (by omega) (Nat.le_of_ble_eq_true rfl) (Nat.le_of_ble_eq_true rfl) (fun hp12 => ?_)
            have hr10 := hp12
            refine j_if_eq hC dX1_readCondition_90 rfl (w_id hr10) (fun c13 => ?_) (fun c13 => ?_)
            · have h := zt c13 h
              refine j_sub [] rfl ?_
              exact J_106 M11 h
            · have h := zf c13 h
              refine j_aload_n hC 0 dX1_readCondition_93 rfl rfl ?_
              refine j_iconst hC dX1_readCondition_94 ?_
              refine j_iconst hC dX1_readCondition_95 ?_
              obtain ⟨r14, M15, hy, h⟩ := zb2_ex h
              refine j_callVi (ci := 1) hC hE lk_X1_131 dX1_readCondition_96 (c_X1_addStep l hlt g 1 0 kR_1 kR_0 M11 S hF hy) [.int (zi 1), .int (zi 0)] [] (zFx_kd hF 2 rfl) ⟨_, rfl, by decide, rfl⟩ rfl rfl rfl (Nat.le_of_ble_eq_true rfl) (Nat.le_of_ble_eq_true rfl) (by omega) (Nat.le_of_ble_eq_true rfl) (Nat.le_of_ble_eq_true rfl) (fun hp16 => ?_)
              have hr14 := hp16
              refine j_if_eq hC dX1_readCondition_99 rfl (w_id hr14) (fun c17 => ?_) (fun c17 => ?_)
              · have h := zt c17 h
                refine j_sub [] rfl ?_
                exact J_106 M15 h
              · have h := zf c17 h
                refine j_iconst hC dX1_readCondition_102 ?_
                refine j_goto hC dX1_readCondition_103 rfl ?_
                obtain ⟨e1, e2⟩ := zpr2 (Option.some.inj h)
                exact j_iret hC hE dX1_readCondition_107 (w_id kR_1) (zn_z zb01_1) (by rw [← e1]) e2 rfl (by rw [← e1]; exact kR_1) (Nat.le_of_ble_eq_true rfl) (Nat.le_of_ble_eq_true rfl)
      have h := zf c4 h
      by_cases c18 : r2 = 36
      · have h := zt c18 h
        refine j_lsw hC dX1_readCondition_8 (w_id hr2) (by decide) (off := 192) (by rw [c18]; rfl) rfl ?_
        refine j_aload_n hC 0 dX1_readCondition_200 rfl rfl ?_
        refine j_bipush hC dX1_readCondition_201 rfl ?_
        obtain ⟨r19, M20, hy, h⟩ := zb2_ex h
        refine j_callVi (ci := 1) hC hE lk_X1_115 dX1_readCondition_203 (c_X1_skip l hlt g 36 kR_36 M S hF hy) [.int (zi 36)] [] (zFx_kd hF 2 rfl) ⟨_, rfl, by decide, rfl⟩ rfl rfl rfl (Nat.le_of_ble_eq_true rfl) (Nat.le_of_ble_eq_true rfl) (by omega) (Nat.le_of_ble_eq_true rfl) (Nat.le_of_ble_eq_true rfl) (fun hp21 => ?_)
        have hr19 := hp21
        refine j_if_eq hC dX1_readCondition_206 rfl (w_id hr19) (fun c22 => ?_) (fun c22 => ?_)
        · have h := zt c22 h
          refine j_sub [] rfl ?_
          exact J_227 M20 h
        · have h := zf c22 h
          refine j_aload_n hC 0 dX1_readCondition_209 rfl rfl ?_
          refine j_bipush hC dX1_readCondition_210 rfl ?_
          refine j_aload_n hC 0 dX1_readCondition_212 rfl rfl ?_
          refine j_iconst hC dX1_readCondition_213 ?_
          obtain ⟨r23, M24, hy, h⟩ := zb2_ex h
          refine j_callVi (ci := 1) hC hE lk_X1_106 dX1_readCondition_214 (c_X1_readLetters l hlt g 3 kR_3 M20 S hF hy) [.int (zi 3)] [.int (zi 6), zr g 2] (zFx_kd hF 2 rfl) ⟨_, rfl, by decide, rfl⟩ rfl rfl rfl (Nat.le_of_ble_eq_true rfl) (Nat.le_of_ble_eq_true rfl) (by omega) (Nat.le_of_ble_eq_true rfl) (Nat.le_of_ble_eq_true rfl) (fun hp25 => ?_)
          have hr23 := hp25
          obtain ⟨r26, M27, hy, h⟩ := zb2_ex h
          refine j_callVi (ci := 1) hC hE lk_X1_138 dX1_readCondition_217 (c_X1_addPattern l hlt g 6 r23 kR_6 hr23 M24 S hF hy) [.int (zi 6), .int (zi r23)] [] (zFx_kd hF 2 rfl) ⟨_, rfl, by decide, rfl⟩ rfl rfl rfl (Nat.le_of_ble_eq_true rfl) (Nat.le_of_ble_eq_true rfl) (by omega) (Nat.le_of_ble_eq_true rfl) (Nat.le_of_ble_eq_true rfl) (fun hp28 => ?_)
          have hr26 := hp28
          refine j_if_eq hC dX1_readCondition_220 rfl (w_id hr26) (fun c29 => ?_) (fun c29 => ?_)
          · have h := zt c29 h
            refine j_sub [] rfl ?_
            exact J_227 M27 h
          · have h := zf c29 h
            refine j_iconst hC dX1_readCondition_223 ?_
            refine j_goto hC dX1_readCondition_224 rfl ?_
            obtain ⟨e1, e2⟩ := zpr2 (Option.some.inj h)
            exact j_iret hC hE dX1_readCondition_228 (w_id kR_1) (zn_z zb01_1) (by rw [← e1]) e2 rfl (by rw [← e1]; exact kR_1) (Nat.le_of_ble_eq_true rfl) (Nat.le_of_ble_eq_true rfl)
      have h := zf c18 h
      by_cases c30 : r2 = 40
      · have h := zt c30 h
        refine j_lsw hC dX1_readCondition_8 (w_id hr2) (by decide) (off := 100) (by rw [c30]; rfl) rfl ?_
        refine j_iload_n hC 1 dX1_readCondition_108 rfl rfl ?_
        refine j_bipush hC dX1_readCondition_109 rfl ?_
        refine j_icmp_ge hC dX1_readCondition_111 rfl (w_id hv1) (w_id kR_6) (fun c31 => ?_) (fun c31 => ?_)
        · have h := zf c31 h
          refine j_sub [] rfl ?_
          exact J_146 M h
        · have h := zt c31 h
          refine j_aload_n hC 0 dX1_readCondition_114 rfl rfl ?_
          refine j_bipush hC dX1_readCondition_115 rfl ?_
          obtain ⟨r32, M33, hy, h⟩ := zb2_ex h
          refine j_callVi (ci := 1) hC hE lk_X1_115 dX1_readCondition_117 (c_X1_skip l hlt g 40 kR_40 M S hF hy) [.int (zi 40)] [] (zFx_kd hF 2 rfl) ⟨_, rfl, by decide, rfl⟩ rfl rfl rfl (Nat.le_of_ble_eq_true rfl) (Nat.le_of_ble_eq_true rfl) (by omega) (Nat.le_of_ble_eq_true rfl) (Nat.le_of_ble_eq_true rfl) (fun hp34 => ?_)
          have hr32 := hp34
          refine j_if_eq hC dX1_readCondition_120 rfl (w_id hr32) (fun c35 => ?_) (fun c35 => ?_)
          · have h := zt c35 h
            refine j_sub [] rfl ?_
            exact J_146 M33 h
          · have h := zf c35 h
            refine j_aload_n hC 0 dX1_readCondition_123 rfl rfl ?_
            refine j_iload_n hC 1 dX1_readCondition_124 rfl rfl ?_
            refine j_iconst hC dX1_readCondition_125 ?_
            refine j_iadd hC dX1_readCondition_126 ?_
            obtain ⟨r36, M37, hy, h⟩ := zb2_ex h
            refine j_callVi (ci := 1) hC hE lk_X1_122 dX1_readCondition_127 (ihG0 (w (v1 + 1)) (inR_w _) M33 S hF _ _ hy) [.int (zi (v1 + 1))] [] (zFx_kd hF 2 rfl) ⟨_, rfl, by decide, rfl⟩ rfl (by simp only [zi_w, zl_wl]) rfl (Nat.le_of_ble_eq_true rfl) (Nat.le_of_ble_eq_true rfl) (by omega) (Nat.le_of_ble_eq_true rfl) (Nat.le_of_ble_eq_true rfl) (fun hp38 => ?_)
            have hr36 := hp38
            refine j_if_eq hC dX1_readCondition_130 rfl (w_id hr36) (fun c39 => ?_) (fun c39 => ?_)
            · have h := zt c39 h
              refine j_sub [] rfl ?_
              exact J_146 M37 h
            · have h := zf c39 h
              refine j_aload_n hC 0 dX1_readCondition_133 rfl rfl ?_
              refine j_bipush hC dX1_readCondition_134 rfl ?_
              obtain ⟨r40, M41, hy, h⟩ := zb2_ex h
              refine j_callVi (ci := 1) hC hE lk_X1_115 dX1_readCondition_136 (c_X1_skip l hlt g 41 kR_41 M37 S hF hy) [.int (zi 41)] [] (zFx_kd hF 2 rfl) ⟨_, rfl, by decide, rfl⟩ rfl rfl rfl (Nat.le_of_ble_eq_true rfl) (Nat.le_of_ble_eq_true rfl) (by omega) (Nat.le_of_ble_eq_true rfl) (Nat.le_of_ble_eq_true rfl) (fun hp42 => ?_)
              have hr40 := hp42
              refine j_if_eq hC dX1_readCondition_139 rfl (w_id hr40) (fun c43 => ?_) (fun c43 => ?_)
              · have h := zt c43 h
                refine j_sub [] rfl ?_
                exact J_146 M41 h
              · have h := zf c43 h
                refine j_iconst hC dX1_readCondition_142 ?_
                refine j_goto hC dX1_readCondition_143 rfl ?_
                obtain ⟨e1, e2⟩ := zpr2 (Option.some.inj h)
                exact j_iret hC hE dX1_readCondition_147 (w_id kR_1) (zn_z zb01_1) (by rw [← e1]) e2 rfl (by rw [← e1]; exact kR_1) (Nat.le_of_ble_eq_true rfl) (Nat.le_of_ble_eq_true rfl)
      have h := zf c30 h
      by_cases c44 : r2 = 42
      · have h := zt c44 h
        refine j_lsw hC dX1_readCondition_8 (w_id hr2) (by decide) (off := 140) (by rw [c44]; rfl) rfl ?_
        refine j_aload_n hC 0 dX1_readCondition_148 rfl rfl ?_
        refine j_bipush hC dX1_readCondition_149 rfl ?_
        obtain ⟨r45, M46, hy, h⟩ := zb2_ex h
        refine j_callVi (ci := 1) hC hE lk_X1_115 dX1_readCondition_151 (c_X1_skip l hlt g 42 kR_42 M S hF hy) [.int (zi 42)] [] (zFx_kd hF 2 rfl) ⟨_, rfl, by decide, rfl⟩ rfl rfl rfl (Nat.le_of_ble_eq_true rfl) (Nat.le_of_ble_eq_true rfl) (by omega) (Nat.le_of_ble_eq_true rfl) (Nat.le_of_ble_eq_true rfl) (fun hp47 => ?_)
        have hr45 := hp47
        refine j_if_eq hC dX1_readCondition_154 rfl (w_id hr45) (fun c48 => ?_) (fun c48 => ?_)
        · have h := zt c48 h
          refine j_sub [] rfl ?_
          exact J_170 M46 h
        · have h := zf c48 h
          refine j_aload_n hC 0 dX1_readCondition_157 rfl rfl ?_
          refine j_iconst hC dX1_readCondition_158 ?_
          refine j_iconst hC dX1_readCondition_159 ?_
          obtain ⟨r49, M50, hy, h⟩ := zb2_ex h
          refine j_callVi (ci := 1) hC hE lk_X1_131 dX1_readCondition_160 (c_X1_addStep l hlt g 0 0 kR_0 kR_0 M46 S hF hy) [.int (zi 0), .int (zi 0)] [] (zFx_kd hF 2 rfl) ⟨_, rfl, by decide, rfl⟩ rfl rfl rfl (Nat.le_of_ble_eq_true rfl) (Nat.le_of_ble_eq_true rfl) (by omega) (Nat.le_of_ble_eq_true rfl) (Nat.le_of_ble_eq_true rfl) (fun hp51 => ?_)
          have hr49 := hp51
          refine j_if_eq hC dX1_readCondition_163 rfl (w_id hr49) (fun c52 => ?_) (fun c52 => ?_)
          · have h := zt c52 h
            refine j_sub [] rfl ?_
            exact J_170 M50 h
          · have h := zf c52 h
            refine j_iconst hC dX1_readCondition_166 ?_
            refine j_goto hC dX1_readCondition_167 rfl ?_
            obtain ⟨e1, e2⟩ := zpr2 (Option.some.inj h)
            exact j_iret hC hE dX1_readCondition_171 (w_id kR_1) (zn_z zb01_1) (by rw [← e1]) e2 rfl (by rw [← e1]; exact kR_1) (Nat.le_of_ble_eq_true rfl) (Nat.le_of_ble_eq_true rfl)
      have h := zf c44 h
      by_cases c53 : r2 = 94
      · have h := zt c53 h
        refine j_lsw hC dX1_readCondition_8 (w_id hr2) (by decide) (off := 164) (by rw [c53]; rfl) rfl ?_
        refine j_aload_n hC 0 dX1_readCondition_172 rfl rfl ?_
        refine j_bipush hC dX1_readCondition_173 rfl ?_
        obtain ⟨r54, M55, hy, h⟩ := zb2_ex h
        refine j_callVi (ci := 1) hC hE lk_X1_115 dX1_readCondition_175 (c_X1_skip l hlt g 94 kR_94 M S hF hy) [.int (zi 94)] [] (zFx_kd hF 2 rfl) ⟨_, rfl, by decide, rfl⟩ rfl rfl rfl (Nat.le_of_ble_eq_true rfl) (Nat.le_of_ble_eq_true rfl) (by omega) (Nat.le_of_ble_eq_true rfl) (Nat.le_of_ble_eq_true rfl) (fun hp56 => ?_)
        have hr54 := hp56
        refine j_if_eq hC dX1_readCondition_178 rfl (w_id hr54) (fun c57 => ?_) (fun c57 => ?_)
        · have h := zt c57 h
          refine j_sub [] rfl ?_
          exact J_198 M55 h
        · have h := zf c57 h
          refine j_aload_n hC 0 dX1_readCondition_181 rfl rfl ?_
          refine j_iconst hC dX1_readCondition_182 ?_
          refine j_aload_n hC 0 dX1_readCondition_183 rfl rfl ?_
          refine j_iconst hC dX1_readCondition_184 ?_
          obtain ⟨r58, M59, hy, h⟩ := zb2_ex h
          refine j_callVi (ci := 1) hC hE lk_X1_106 dX1_readCondition_185 (c_X1_readLetters l hlt g 3 kR_3 M55 S hF hy) [.int (zi 3)] [.int (zi 5), zr g 2] (zFx_kd hF 2 rfl) ⟨_, rfl, by decide, rfl⟩ rfl rfl rfl (Nat.le_of_ble_eq_true rfl) (Nat.le_of_ble_eq_true rfl) (by omega) (Nat.le_of_ble_eq_true rfl) (Nat.le_of_ble_eq_true rfl) (fun hp60 => ?_)
          have hr58 := hp60
          obtain ⟨r61, M62, hy, h⟩ := zb2_ex h
          refine j_callVi (ci := 1) hC hE lk_X1_138 dX1_readCondition_188 (c_X1_addPattern l hlt g 5 r58 kR_5 hr58 M59 S hF hy) [.int (zi 5), .int (zi r58)] [] (zFx_kd hF 2 rfl) ⟨_, rfl, by decide, rfl⟩ rfl rfl rfl (Nat.le_of_ble_eq_true rfl) (Nat.le_of_ble_eq_true rfl) (by omega) (Nat.le_of_ble_eq_true rfl) (Nat.le_of_ble_eq_true rfl) (fun hp63 => ?_)
          have hr61 := hp63
          refine j_if_eq hC dX1_readCondition_191 rfl (w_id hr61) (fun c64 => ?_) (fun c64 => ?_)
          · have h := zt c64 h
            refine j_sub [] rfl ?_
            exact J_198 M62 h
          · have h := zf c64 h
            refine j_iconst hC dX1_readCondition_194 ?_
            refine j_goto hC dX1_readCondition_195 rfl ?_
            obtain ⟨e1, e2⟩ := zpr2 (Option.some.inj h)
            exact j_iret hC hE dX1_readCondition_199 (w_id kR_1) (zn_z zb01_1) (by rw [← e1]) e2 rfl (by rw [← e1]; exact kR_1) (Nat.le_of_ble_eq_true rfl) (Nat.le_of_ble_eq_true rfl)
      have h := zf c53 h
      by_cases c65 : r2 = 126
      · have h := zt c65 h
        refine j_lsw hC dX1_readCondition_8 (w_id hr2) (by decide) (off := 221) (by rw [c65]; rfl) rfl ?_
        refine j_aload_n hC 0 dX1_readCondition_229 rfl rfl ?_
        refine j_bipush hC dX1_readCondition_230 rfl ?_
        obtain ⟨r66, M67, hy, h⟩ := zb2_ex h
        refine j_callVi (ci := 1) hC hE lk_X1_115 dX1_readCondition_232 (c_X1_skip l hlt g 126 kR_126 M S hF hy) [.int (zi 126)] [] (zFx_kd hF 2 rfl) ⟨_, rfl, by decide, rfl⟩ rfl rfl rfl (Nat.le_of_ble_eq_true rfl) (Nat.le_of_ble_eq_true rfl) (by omega) (Nat.le_of_ble_eq_true rfl) (Nat.le_of_ble_eq_true rfl) (fun hp68 => ?_)
        have hr66 := hp68
        refine j_if_eq hC dX1_readCondition_235 rfl (w_id hr66) (fun c69 => ?_) (fun c69 => ?_)
        · have h := zt c69 h
          refine j_sub [] rfl ?_
          exact J_256 M67 h
        · have h := zf c69 h
          refine j_aload_n hC 0 dX1_readCondition_238 rfl rfl ?_
          refine j_bipush hC dX1_readCondition_239 rfl ?_
          refine j_aload_n hC 0 dX1_readCondition_241 rfl rfl ?_
          refine j_iconst hC dX1_readCondition_242 ?_
          obtain ⟨r70, M71, hy, h⟩ := zb2_ex h
          refine j_callVi (ci := 1) hC hE lk_X1_106 dX1_readCondition_243 (c_X1_readLetters l hlt g 3 kR_3 M67 S hF hy) [.int (zi 3)] [.int (zi 7), zr g 2] (zFx_kd hF 2 rfl) ⟨_, rfl, by decide, rfl⟩ rfl rfl rfl (Nat.le_of_ble_eq_true rfl) (Nat.le_of_ble_eq_true rfl) (by omega) (Nat.le_of_ble_eq_true rfl) (Nat.le_of_ble_eq_true rfl) (fun hp72 => ?_)
          have hr70 := hp72
          obtain ⟨r73, M74, hy, h⟩ := zb2_ex h
          refine j_callVi (ci := 1) hC hE lk_X1_138 dX1_readCondition_246 (c_X1_addPattern l hlt g 7 r70 kR_7 hr70 M71 S hF hy) [.int (zi 7), .int (zi r70)] [] (zFx_kd hF 2 rfl) ⟨_, rfl, by decide, rfl⟩ rfl rfl rfl (Nat.le_of_ble_eq_true rfl) (Nat.le_of_ble_eq_true rfl) (by omega) (Nat.le_of_ble_eq_true rfl) (Nat.le_of_ble_eq_true rfl) (fun hp75 => ?_)
          have hr73 := hp75
          refine j_if_eq hC dX1_readCondition_249 rfl (w_id hr73) (fun c76 => ?_) (fun c76 => ?_)
          · have h := zt c76 h
            refine j_sub [] rfl ?_
            exact J_256 M74 h
          · have h := zf c76 h
            refine j_iconst hC dX1_readCondition_252 ?_
            refine j_goto hC dX1_readCondition_253 rfl ?_
            obtain ⟨e1, e2⟩ := zpr2 (Option.some.inj h)
            exact j_iret hC hE dX1_readCondition_257 (w_id kR_1) (zn_z zb01_1) (by rw [← e1]) e2 rfl (by rw [← e1]; exact kR_1) (Nat.le_of_ble_eq_true rfl) (Nat.le_of_ble_eq_true rfl)
      have h := zf c65 h
      refine j_lsw hC dX1_readCondition_8 (w_id hr2) (by decide) (off := 250) (zlswN (by simp only [List.all_cons, List.all_nil, Bool.and_true, Bool.and_eq_true, decide_eq_true_eq]; omega)) rfl ?_
      refine j_aload_n hC 0 dX1_readCondition_258 rfl rfl ?_
      obtain ⟨r77, M78, hy, h⟩ := zb2_ex h
      refine j_callVi (ci := 1) hC hE lk_X1_141 dX1_readCondition_259 (c_X1_readComparison l hlt g M S hF hy) [] [] (zFx_kd hF 2 rfl) ⟨_, rfl, by decide, rfl⟩ rfl rfl rfl (Nat.le_of_ble_eq_true rfl) (Nat.le_of_ble_eq_true rfl) (by omega) (Nat.le_of_ble_eq_true rfl) (Nat.le_of_ble_eq_true rfl) (fun hp79 => ?_)
      have hr77 := hp79
      obtain ⟨c80, h⟩ := zchk_ex h
      obtain ⟨e1, e2⟩ := zpr2 (Option.some.inj h)
      exact j_iret hC hE dX1_readCondition_262 (w_id hr77) (zn_z c80) (by rw [← e1]) e2 rfl (by rw [← e1]; exact hr77) (Nat.le_of_ble_eq_true rfl) (Nat.le_of_ble_eq_true rfl)
theorem c_GP_0 (l : Launch) (hlt : l.stackTraces = false) (g : zG) (n : Nat) (v1 : Int) (hv1 : inR v1) (M : zM) (S : zS) (hF : zFx S) {r : Int} {M' : zM} (h : F_GP n 0 v1 M = some (r, M')) : zMet l g yX1_readAlternatives cX1_readAlternatives 4 (some .boolean) (3 + n) 0 0 [zr g 2, .int (zi v1)] M S (.inl (some (.int (zi r)))) M' S (inR r) := (c_GP l hlt g n).1 v1 hv1 M S hF _ _ h
theorem c_GP_1 (l : Launch) (hlt : l.stackTraces = false) (g : zG) (n : Nat) (v1 : Int) (hv1 : inR v1) (M : zM) (S : zS) (hF : zFx S) {r : Int} {M' : zM} (h : F_GP n 1 v1 M = some (r, M')) : zMet l g yX1_readConjunction cX1_readConjunction 4 (some .boolean) (3 + n) 0 0 [zr g 2, .int (zi v1)] M S (.inl (some (.int (zi r)))) M' S (inR r) := (c_GP l hlt g n).2.1 v1 hv1 M S hF _ _ h
theorem c_GP_2 (l : Launch) (hlt : l.stackTraces = false) (g : zG) (n : Nat) (v1 : Int) (hv1 : inR v1) (M : zM) (S : zS) (hF : zFx S) {r : Int} {M' : zM} (h : F_GP n 2 v1 M = some (r, M')) : zMet l g yX1_readCondition cX1_readCondition 2 (some .boolean) (3 + n) 0 0 [zr g 2, .int (zi v1)] M S (.inl (some (.int (zi r)))) M' S (inR r) := (c_GP l hlt g n).2.2 v1 hv1 M S hF _ _ h
set_option maxHeartbeats 4000000 in
set_option maxRecDepth 100000 in
theorem c_X1_readContext (l : Launch) (hlt : l.stackTraces = false) (g : zG) (M : zM) (S : zS) (hF : zFx S) {r : Int} {M' : zM} (h : F_X1_readContext M = some (r, M')) : zMet l g yX1_readContext cX1_readContext 1 (some .boolean) 44 0 0 [zr g 2] M S (.inl (some (.int (zi r)))) M' S (inR r) := by
  refine zMet_of (by decide) hlt [(0, zr g 2)] rfl (Nat.le_of_ble_eq_true rfl) (fun K hC hE hN => ?_)
  unfold F_X1_readContext at h
  have J_57 : ∀ (M : zM) (_ : F_X1_readContext_J57 M = some (r, M')), zJ K g 0 0 57 1 [] [] M S := by
    intro M h
    unfold F_X1_readContext_J57 at h
    refine j_iconst hC dX1_readContext_57 ?_
    obtain ⟨e1, e2⟩ := zpr2 (Option.some.inj h)
    exact j_iret hC hE dX1_readContext_58 (w_id kR_0) (zn_z zb01_0) (by rw [← e1]) e2 rfl (by rw [← e1]; exact kR_0) (Nat.le_of_ble_eq_true rfl) (Nat.le_of_ble_eq_true rfl)
  refine j_aload_n hC 0 dX1_readContext_0 rfl rfl ?_
  refine j_aload_n hC 0 dX1_readContext_1 rfl rfl ?_
  refine j_iconst hC dX1_readContext_2 ?_
  obtain ⟨r1, M2, hy, h⟩ := zb2_ex h
  refine j_callVi (ci := 1) hC hE lk_X1_106 dX1_readContext_3 (c_X1_readLetters l hlt g 3 kR_3 M S hF hy) [.int (zi 3)] [zr g 2] (zFx_kd hF 2 rfl) ⟨_, rfl, by decide, rfl⟩ rfl rfl rfl (Nat.le_of_ble_eq_true rfl) (Nat.le_of_ble_eq_true rfl) (Nat.le_of_ble_eq_true rfl) (Nat.le_of_ble_eq_true rfl) (Nat.le_of_ble_eq_true rfl) (fun hp3 => ?_)
  have hr1 := hp3
  obtain ⟨M4, eM4, h⟩ := zlet_ex h
  refine j_put hC dX1_readContext_6 f_X1_113 pF_X1 (zFx_kd hF 2 rfl) (Or.inl rfl) rfl 6 rfl (w_id hr1) hr1 eM4 ?_
  refine j_aload_n hC 0 dX1_readContext_9 rfl rfl ?_
  refine j_get hC dX1_readContext_10 f_X1_113 (zFx_kd hF 2 rfl) rfl 6 rfl (fun hg5 => ?_)
  refine j_if_eq hC dX1_readContext_13 rfl (w_id hg5) (fun c6 => ?_) (fun c6 => ?_)
  · have h := zt c6 h
    refine j_iconst hC dX1_readContext_25 ?_
    obtain ⟨e1, e2⟩ := zpr2 (Option.some.inj h)
    exact j_iret hC hE dX1_readContext_26 (w_id kR_0) (zn_z zb01_0) (by rw [← e1]) e2 rfl (by rw [← e1]; exact kR_0) (Nat.le_of_ble_eq_true rfl) (Nat.le_of_ble_eq_true rfl)
  · have h := zf c6 h
    refine j_aload_n hC 0 dX1_readContext_16 rfl rfl ?_
    refine j_bipush hC dX1_readContext_17 rfl ?_
    obtain ⟨r7, M8, hy, h⟩ := zb2_ex h
    refine j_callVi (ci := 1) hC hE lk_X1_115 dX1_readContext_19 (c_X1_skip l hlt g 44 kR_44 M4 S hF hy) [.int (zi 44)] [] (zFx_kd hF 2 rfl) ⟨_, rfl, by decide, rfl⟩ rfl rfl rfl (Nat.le_of_ble_eq_true rfl) (Nat.le_of_ble_eq_true rfl) (Nat.le_of_ble_eq_true rfl) (Nat.le_of_ble_eq_true rfl) (Nat.le_of_ble_eq_true rfl) (fun hp9 => ?_)
    have hr7 := hp9
    refine j_if_ne hC dX1_readContext_22 rfl (w_id hr7) (fun c10 => ?_) (fun c10 => ?_)
    · have h := zf c10 h
      refine j_aload_n hC 0 dX1_readContext_27 rfl rfl ?_
      refine j_aload_n hC 0 dX1_readContext_28 rfl rfl ?_
      refine j_iconst hC dX1_readContext_29 ?_
      obtain ⟨r11, M12, hy, h⟩ := zb2_ex h
      refine j_callVi (ci := 1) hC hE lk_X1_106 dX1_readContext_30 (c_X1_readLetters l hlt g 3 kR_3 M8 S hF hy) [.int (zi 3)] [zr g 2] (zFx_kd hF 2 rfl) ⟨_, rfl, by decide, rfl⟩ rfl rfl rfl (Nat.le_of_ble_eq_true rfl) (Nat.le_of_ble_eq_true rfl) (Nat.le_of_ble_eq_true rfl) (Nat.le_of_ble_eq_true rfl) (Nat.le_of_ble_eq_true rfl) (fun hp13 => ?_)
      have hr11 := hp13
      obtain ⟨M14, eM14, h⟩ := zlet_ex h
      refine j_put hC dX1_readContext_33 f_X1_119 pF_X1 (zFx_kd hF 2 rfl) (Or.inl rfl) rfl 7 rfl (w_id hr11) hr11 eM14 ?_
      refine j_aload_n hC 0 dX1_readContext_36 rfl rfl ?_
      refine j_bipush hC dX1_readContext_37 rfl ?_
      obtain ⟨r15, M16, hy, h⟩ := zb2_ex h
      refine j_callVi (ci := 1) hC hE lk_X1_115 dX1_readContext_39 (c_X1_skip l hlt g 32 kR_32 M14 S hF hy) [.int (zi 32)] [] (zFx_kd hF 2 rfl) ⟨_, rfl, by decide, rfl⟩ rfl rfl rfl (Nat.le_of_ble_eq_true rfl) (Nat.le_of_ble_eq_true rfl) (Nat.le_of_ble_eq_true rfl) (Nat.le_of_ble_eq_true rfl) (Nat.le_of_ble_eq_true rfl) (fun hp17 => ?_)
      have hr15 := hp17
      refine j_if_eq hC dX1_readContext_42 rfl (w_id hr15) (fun c18 => ?_) (fun c18 => ?_)
      · have h := zt c18 h
        refine j_sub [] rfl ?_
        exact J_57 M16 h
      · have h := zf c18 h
        refine j_aload_n hC 0 dX1_readContext_45 rfl rfl ?_
        refine j_iconst hC dX1_readContext_46 ?_
        obtain ⟨r19, M20, hy, h⟩ := zb2_ex h
        refine j_callVi (ci := 1) hC hE lk_X1_122 dX1_readContext_47 (c_GP_0 l hlt g 40 0 kR_0 M16 S hF hy) [.int (zi 0)] [] (zFx_kd hF 2 rfl) ⟨_, rfl, by decide, rfl⟩ rfl rfl rfl (Nat.le_of_ble_eq_true rfl) (Nat.le_of_ble_eq_true rfl) (Nat.le_of_ble_eq_true rfl) (Nat.le_of_ble_eq_true rfl) (Nat.le_of_ble_eq_true rfl) (fun hp21 => ?_)
        have hr19 := hp21
        refine j_if_eq hC dX1_readContext_50 rfl (w_id hr19) (fun c22 => ?_) (fun c22 => ?_)
        · have h := zt c22 h
          refine j_sub [] rfl ?_
          exact J_57 M20 h
        · have h := zf c22 h
          refine j_iconst hC dX1_readContext_53 ?_
          refine j_goto hC dX1_readContext_54 rfl ?_
          obtain ⟨e1, e2⟩ := zpr2 (Option.some.inj h)
          exact j_iret hC hE dX1_readContext_58 (w_id kR_1) (zn_z zb01_1) (by rw [← e1]) e2 rfl (by rw [← e1]; exact kR_1) (Nat.le_of_ble_eq_true rfl) (Nat.le_of_ble_eq_true rfl)
    · have h := zt c10 h
      refine j_iconst hC dX1_readContext_25 ?_
      obtain ⟨e1, e2⟩ := zpr2 (Option.some.inj h)
      exact j_iret hC hE dX1_readContext_26 (w_id kR_0) (zn_z zb01_0) (by rw [← e1]) e2 rfl (by rw [← e1]; exact kR_0) (Nat.le_of_ble_eq_true rfl) (Nat.le_of_ble_eq_true rfl)
set_option maxHeartbeats 4000000 in
set_option maxRecDepth 100000 in
theorem c_X1_modeName (l : Launch) (hlt : l.stackTraces = false) (g : zG) (v0 : Int) (hv0 : inR v0) (M : zM) (S : zS) {r : Nat} (h : F_X1_modeName v0 = some r) : zMet l g yX1_modeName cX1_modeName 1 (some (.object "java/lang/String")) 1 0 0 [.int (zi v0)] M S (.inl (some (.ref (zk g (1 + r))))) M S (True) := by
  refine zMet_of (by decide) hlt [(0, .int (zi v0))] rfl (Nat.le_of_ble_eq_true rfl) (fun K hC hE hN => ?_)
  unfold F_X1_modeName at h
  refine j_iload_n hC 0 dX1_modeName_0 rfl rfl ?_
  by_cases c1 : v0 = 0
  · have h := zt c1 h
    refine j_tswIn hC 0 dX1_modeName_1 (w_id hv0) c1 (by decide) (by decide) rfl rfl ?_
    refine j_ldcs hC dX1_modeName_32 zss_X1_58 ?_
    have e1 := Option.some.inj h
    exact j_sret hC hE dX1_modeName_34 (by rw [← e1]) rfl rfl trivial (Nat.le_of_ble_eq_true rfl) (Nat.le_of_ble_eq_true rfl)
  have h := zf c1 h
  by_cases c2 : v0 = 1
  · have h := zt c2 h
    refine j_tswIn hC 1 dX1_modeName_1 (w_id hv0) c2 (by decide) (by decide) rfl rfl ?_
    refine j_ldcs hC dX1_modeName_35 zss_X1_60 ?_
    have e1 := Option.some.inj h
    exact j_sret hC hE dX1_modeName_37 (by rw [← e1]) rfl rfl trivial (Nat.le_of_ble_eq_true rfl) (Nat.le_of_ble_eq_true rfl)
  have h := zf c2 h
  by_cases c3 : v0 = 2
  · have h := zt c3 h
    refine j_tswIn hC 2 dX1_modeName_1 (w_id hv0) c3 (by decide) (by decide) rfl rfl ?_
    refine j_ldcs hC dX1_modeName_38 zss_X1_62 ?_
    have e1 := Option.some.inj h
    exact j_sret hC hE dX1_modeName_40 (by rw [← e1]) rfl rfl trivial (Nat.le_of_ble_eq_true rfl) (Nat.le_of_ble_eq_true rfl)
  have h := zf c3 h
  by_cases c4 : v0 = 3
  · have h := zt c4 h
    refine j_tswIn hC 3 dX1_modeName_1 (w_id hv0) c4 (by decide) (by decide) rfl rfl ?_
    refine j_ldcs hC dX1_modeName_41 zss_X1_64 ?_
    have e1 := Option.some.inj h
    exact j_sret hC hE dX1_modeName_43 (by rw [← e1]) rfl rfl trivial (Nat.le_of_ble_eq_true rfl) (Nat.le_of_ble_eq_true rfl)
  have h := zf c4 h
  refine j_tswOut hC dX1_modeName_1 (w_id hv0) (by omega) rfl ?_
  refine j_ldcs hC dX1_modeName_44 zss_X1_66 ?_
  have e1 := Option.some.inj h
  exact j_sret hC hE dX1_modeName_46 (by rw [← e1]) rfl rfl trivial (Nat.le_of_ble_eq_true rfl) (Nat.le_of_ble_eq_true rfl)
set_option maxHeartbeats 4000000 in
set_option maxRecDepth 100000 in
theorem c_X1_readMode (l : Launch) (hlt : l.stackTraces = false) (g : zG) (M : zM) (S : zS) (hF : zFx S) {r : Int} {M' : zM} (h : F_X1_readMode M = some (r, M')) : zMet l g yX1_readMode cX1_readMode 6 (some .boolean) 9 0 0 [zr g 2] M S (.inl (some (.int (zi r)))) M' S (inR r) := by
  refine zMet_of (by decide) hlt [(0, zr g 2)] rfl (Nat.le_of_ble_eq_true rfl) (fun K hC hE hN => ?_)
  unfold F_X1_readMode at h
  have J_59 : ∀ (v1 : Int) (v2 : Int) (hv1 : inR v1) (hv2 : inR v2) (M : zM) (_ : F_X1_readMode_J59 v1 v2 M = some (r, M')), zJ K g 0 0 59 6 [(0, zr g 2), (1, .int (zi v1)), (2, .int (zi v2))] [] M S := by
    intro v1 v2 hv1 hv2 M h
    unfold F_X1_readMode_J59 at h
    refine j_aload_n hC 0 dX1_readMode_59 rfl rfl ?_
    refine j_dup hC dX1_readMode_60 (zr_cat _ _) ?_
    refine j_get hC dX1_readMode_61 f_X1_30 (zFx_kd hF 2 rfl) rfl 4 rfl (fun hg1 => ?_)
    refine j_iload_n hC 1 dX1_readMode_64 rfl rfl ?_
    refine j_iadd hC dX1_readMode_65 ?_
    obtain ⟨M2, eM2, h⟩ := zlet_ex h
    refine j_put hC dX1_readMode_66 f_X1_30 pF_X1 (zFx_kd hF 2 rfl) (Or.inl rfl) rfl 4 rfl rfl (inR_w _) eM2 ?_
    refine j_iload_n hC 2 dX1_readMode_69 rfl rfl ?_
    obtain ⟨c3, h⟩ := zchk_ex h
    obtain ⟨e1, e2⟩ := zpr2 (Option.some.inj h)
    exact j_iret hC hE dX1_readMode_70 (w_id hv2) (zn_z c3) (by rw [← e1]) e2 rfl (by rw [← e1]; exact hv2) (Nat.le_of_ble_eq_true rfl) (Nat.le_of_ble_eq_true rfl)
  have L_6 : ∀ (v1 : Int) (v2 : Int) (v3 : Int) (hv1 : inR v1) (hv2 : inR v2) (hv3 : inR v3) (M : zM) (_ : F_X1_readMode_L6 v1 v2 v3 M = some (r, M')), zJ K g 0 0 6 6 [(0, zr g 2), (1, .int (zi v1)), (2, .int (zi v2)), (3, .int (zi v3))] [] M S := by
    intro v1 v2 v3 hv1 hv2 hv3 M h
    unfold F_X1_readMode_L6 at h
    obtain ⟨ex6, hl, hd6⟩ := zb1_ex h
    obtain ⟨bd6, ebd⟩ : ∃ f, f = (fun (s : Int × Int × Int × zM) => F_X1_readMode_B6 s.1 s.2.1 s.2.2.1 s.2.2.2) := ⟨_, rfl⟩
    rw [← ebd] at hl
    have main : ∀ (n6 : Nat) (v1 : Int) (v2 : Int) (v3 : Int) (hv1 : inR v1) (hv2 : inR v2) (hv3 : inR v3) (M : zM) (_ : zloop bd6 n6 (v1, v2, v3, M) = some ex6), zJ K g 0 0 6 6 [(0, zr g 2), (1, .int (zi v1)), (2, .int (zi v2)), (3, .int (zi v3))] [] M S := by
      intro n6
      induction n6 with
      | zero => intro v1 v2 v3 hv1 hv2 hv3 M hl; exact zloop_0 hl
      | succ n6 ih6 =>
        have J_53 : ∀ (v1 : Int) (v2 : Int) (v3 : Int) (hv1 : inR v1) (hv2 : inR v2) (hv3 : inR v3) (M : zM) (o : _) (_ : F_X1_readMode_J53 v1 v2 v3 M = some o), zAft (bd6) n6 ex6 o → zJ K g 0 0 53 6 [(0, zr g 2), (1, .int (zi v1)), (2, .int (zi v2)), (3, .int (zi v3))] [] M S := by
          intro v1 v2 v3 hv1 hv2 hv3 M o h hT
          unfold F_X1_readMode_J53 at h
          obtain ⟨x4, ex4, h⟩ := zlet_ex h
          have hx4 : inR x4 := by rw [ex4]; exact inR_w _
          refine j_iinc hC 3 dX1_readMode_53 rfl ex4 (Nat.le_of_ble_eq_true rfl) rfl ?_
          refine j_goto hC dX1_readMode_56 rfl ?_
          obtain rfl := Option.some.inj h
          refine j_sub [1, 2, 3, 0] rfl ?_
          exact ih6 v1 v2 x4 hv1 hv2 hx4 M hT
        intro v1 v2 v3 hv1 hv2 hv3 M hl
        obtain ⟨o, h, hT⟩ := zloop_ex hl
        have h : F_X1_readMode_B6 v1 v2 v3 M = some o := by rw [ebd] at h; exact h
        unfold F_X1_readMode_B6 at h
        refine j_iload_n hC 3 dX1_readMode_6 rfl rfl ?_
        refine j_iconst hC dX1_readMode_7 ?_
        refine j_icmp_ge hC dX1_readMode_8 rfl (w_id hv3) (w_id kR_5) (fun c5 => ?_) (fun c5 => ?_)
        · have h := zf c5 h
          obtain rfl := Option.some.inj h
          have hx6 := hd6
          rw [← show _ = ex6 from hT] at hx6
          refine j_sub [0, 1, 2] rfl ?_
          exact J_59 v1 v2 hv1 hv2 M hx6
        · have h := zt c5 h
          refine j_iload_n hC 2 dX1_readMode_11 rfl rfl ?_
          refine j_if_ne hC dX1_readMode_12 rfl (w_id hv2) (fun c6 => ?_) (fun c6 => ?_)
          · have h := zf c6 h
            obtain rfl := Option.some.inj h
            have hx6 := hd6
            rw [← show _ = ex6 from hT] at hx6
            refine j_sub [0, 1, 2] rfl ?_
            exact J_59 v1 v2 hv1 hv2 M hx6
          · have h := zt c6 h
            refine j_iload_n hC 3 dX1_readMode_15 rfl rfl ?_
            obtain ⟨r7, hy, h⟩ := zb1_ex h
            refine j_callSs hC hE lk_X1_88 dX1_readMode_16 (c_X1_modeName l hlt g v3 hv3 M S hy) [.int (zi v3)] [] rfl rfl rfl (Nat.le_of_ble_eq_true rfl) (Nat.le_of_ble_eq_true rfl) (Nat.le_of_ble_eq_true rfl) (Nat.le_of_ble_eq_true rfl) (Nat.le_of_ble_eq_true rfl) (fun hp8 => ?_)
            refine j_sstore hC dX1_readMode_19 (Nat.le_of_ble_eq_true rfl) rfl ?_
            refine j_aload_n hC 1 dX1_readMode_21 rfl rfl ?_
            refine j_sload hC 0 dX1_readMode_22 rfl ?_
            obtain ⟨r9, hy, h⟩ := zb1_ex h
            refine j_callVi (ci := 1) hC hE lk_X1_72 dX1_readMode_24 (c_X1_sameCharacters l hlt g r7 M S hF hy) [.ref (zk g (1 + r7))] [] (zFx_kd hF 2 rfl) ⟨_, rfl, by decide, rfl⟩ rfl rfl rfl (Nat.le_of_ble_eq_true rfl) (Nat.le_of_ble_eq_true rfl) (Nat.le_of_ble_eq_true rfl) (Nat.le_of_ble_eq_true rfl) (Nat.le_of_ble_eq_true rfl) (fun hp10 => ?_)
            have hr9 := hp10
            refine j_istore hC dX1_readMode_27 (Nat.le_of_ble_eq_true rfl) rfl ?_
            refine j_iload_n hC 3 dX1_readMode_29 rfl rfl ?_
            refine j_iload hC 0 dX1_readMode_30 rfl ?_
            refine j_mmax hC hE lk_X1_76 dX1_readMode_32 (w_id hv1) (w_id hr9) (Nat.le_of_ble_eq_true rfl) (Nat.le_of_ble_eq_true rfl) (Nat.le_of_ble_eq_true rfl) (Nat.le_of_ble_eq_true rfl) ?_
            obtain ⟨x11, ex11, h⟩ := zlet_ex h
            have hx11 : inR x11 := by rw [ex11]; exact (cR_zmax hv1 hr9)
            refine j_names ex11 ?_
            refine j_istore_n hC dX1_readMode_35 rfl (Nat.le_of_ble_eq_true rfl) rfl ?_
            refine j_iload hC 1 dX1_readMode_36 rfl ?_
            refine j_sload hC 2 dX1_readMode_38 rfl ?_
            obtain ⟨c12, h⟩ := zchk_ex h
            refine j_slen hC hE hlt lk_X1_82 dX1_readMode_40 c12 (Nat.le_of_ble_eq_true rfl) (Nat.le_of_ble_eq_true rfl) (Nat.le_of_ble_eq_true rfl) (Nat.le_of_ble_eq_true rfl) ?_
            refine j_icmp_ne hC dX1_readMode_43 rfl (w_id hr9) (w_id (cR_zsl _ c12)) (fun c13 => ?_) (fun c13 => ?_)
            · have h := zf c13 h
              refine j_sub [3, 0, 4, 5] rfl ?_
              exact J_53 x11 v2 v3 hx11 hv2 hv3 M _ h hT
            · have h := zt c13 h
              refine j_aload_n hC 3 dX1_readMode_46 rfl rfl ?_
              refine j_iload_n hC 5 dX1_readMode_47 rfl rfl ?_
              obtain ⟨M14, eM14, h⟩ := zlet_ex h
              refine j_put hC dX1_readMode_48 f_X1_91 pF_X1 (zFx_kd hF 2 rfl) (Or.inl rfl) rfl 8 rfl (w_id hv3) hv3 eM14 ?_
              refine j_iconst hC dX1_readMode_51 ?_
              refine j_istore_n hC dX1_readMode_52 rfl (Nat.le_of_ble_eq_true rfl) rfl ?_
              refine j_sub [4, 1, 0, 5] rfl ?_
              exact J_53 x11 1 v3 hx11 kR_1 hv3 M14 _ h hT
    exact main zN v1 v2 v3 hv1 hv2 hv3 M hl
  refine j_iconst hC dX1_readMode_0 ?_
  refine j_istore_n hC dX1_readMode_1 rfl (Nat.le_of_ble_eq_true rfl) rfl ?_
  refine j_iconst hC dX1_readMode_2 ?_
  refine j_istore_n hC dX1_readMode_3 rfl (Nat.le_of_ble_eq_true rfl) rfl ?_
  refine j_iconst hC dX1_readMode_4 ?_
  refine j_istore_n hC dX1_readMode_5 rfl (Nat.le_of_ble_eq_true rfl) rfl ?_
  refine j_sub [3, 2, 1, 0] rfl ?_
  exact L_6 0 0 0 kR_0 kR_0 kR_0 M h
set_option maxHeartbeats 4000000 in
set_option maxRecDepth 100000 in
theorem c_X1_readLimit (l : Launch) (hlt : l.stackTraces = false) (g : zG) (M : zM) (S : zS) (hF : zFx S) {r : Int} {M' : zM} (h : F_X1_readLimit M = some (r, M')) : zMet l g yX1_readLimit cX1_readLimit 2 (some .boolean) 2 0 0 [zr g 2] M S (.inl (some (.int (zi r)))) M' S (inR r) := by
  refine zMet_of (by decide) hlt [(0, zr g 2)] rfl (Nat.le_of_ble_eq_true rfl) (fun K hC hE hN => ?_)
  unfold F_X1_readLimit at h
  refine j_aload_n hC 0 dX1_readLimit_0 rfl rfl ?_
  refine j_aload_n hC 0 dX1_readLimit_1 rfl rfl ?_
  refine j_get hC dX1_readLimit_2 f_X1_30 (zFx_kd hF 2 rfl) rfl 4 rfl (fun hg1 => ?_)
  obtain ⟨r2, hy, h⟩ := zb1_ex h
  refine j_callVi (ci := 1) hC hE lk_X1_94 dX1_readLimit_5 (c_X1_characterAt l hlt g (M 2 4) hg1 M S hF hy) [.int (zi (M 2 4))] [] (zFx_kd hF 2 rfl) ⟨_, rfl, by decide, rfl⟩ rfl rfl rfl (Nat.le_of_ble_eq_true rfl) (Nat.le_of_ble_eq_true rfl) (Nat.le_of_ble_eq_true rfl) (Nat.le_of_ble_eq_true rfl) (Nat.le_of_ble_eq_true rfl) (fun hp3 => ?_)
  have hr2 := hp3
  refine j_istore_n hC dX1_readLimit_8 rfl (Nat.le_of_ble_eq_true rfl) rfl ?_
  refine j_iload_n hC 0 dX1_readLimit_9 rfl rfl ?_
  refine j_bipush hC dX1_readLimit_10 rfl ?_
  refine j_icmp_lt hC dX1_readLimit_12 rfl (w_id hr2) (w_id kR_49) (fun c4 => ?_) (fun c4 => ?_)
  · have h := zt c4 h
    refine j_iconst hC dX1_readLimit_21 ?_
    obtain ⟨e1, e2⟩ := zpr2 (Option.some.inj h)
    exact j_iret hC hE dX1_readLimit_22 (w_id kR_0) (zn_z zb01_0) (by rw [← e1]) e2 rfl (by rw [← e1]; exact kR_0) (Nat.le_of_ble_eq_true rfl) (Nat.le_of_ble_eq_true rfl)
  · have h := zf c4 h
    refine j_iload_n hC 0 dX1_readLimit_15 rfl rfl ?_
    refine j_bipush hC dX1_readLimit_16 rfl ?_
    refine j_icmp_le hC dX1_readLimit_18 rfl (w_id hr2) (w_id kR_57) (fun c5 => ?_) (fun c5 => ?_)
    · have h := zf c5 h
      refine j_aload_n hC 1 dX1_readLimit_23 rfl rfl ?_
      refine j_iload_n hC 0 dX1_readLimit_24 rfl rfl ?_
      refine j_bipush hC dX1_readLimit_25 rfl ?_
      refine j_isub hC dX1_readLimit_27 ?_
      obtain ⟨M6, eM6, h⟩ := zlet_ex h
      refine j_put hC dX1_readLimit_28 f_X1_91 pF_X1 (zFx_kd hF 2 rfl) (Or.inl rfl) rfl 8 rfl rfl (inR_w _) eM6 ?_
      refine j_aload_n hC 1 dX1_readLimit_31 rfl rfl ?_
      refine j_dup hC dX1_readLimit_32 (zr_cat _ _) ?_
      refine j_get hC dX1_readLimit_33 f_X1_30 (zFx_kd hF 2 rfl) rfl 4 rfl (fun hg7 => ?_)
      refine j_iconst hC dX1_readLimit_36 ?_
      refine j_iadd hC dX1_readLimit_37 ?_
      obtain ⟨M8, eM8, h⟩ := zlet_ex h
      refine j_put hC dX1_readLimit_38 f_X1_30 pF_X1 (zFx_kd hF 2 rfl) (Or.inl rfl) rfl 4 rfl rfl (inR_w _) eM8 ?_
      refine j_iconst hC dX1_readLimit_41 ?_
      obtain ⟨e1, e2⟩ := zpr2 (Option.some.inj h)
      exact j_iret hC hE dX1_readLimit_42 (w_id kR_1) (zn_z zb01_1) (by rw [← e1]) e2 rfl (by rw [← e1]; exact kR_1) (Nat.le_of_ble_eq_true rfl) (Nat.le_of_ble_eq_true rfl)
    · have h := zt c5 h
      refine j_iconst hC dX1_readLimit_21 ?_
      obtain ⟨e1, e2⟩ := zpr2 (Option.some.inj h)
      exact j_iret hC hE dX1_readLimit_22 (w_id kR_0) (zn_z zb01_0) (by rw [← e1]) e2 rfl (by rw [← e1]; exact kR_0) (Nat.le_of_ble_eq_true rfl) (Nat.le_of_ble_eq_true rfl)
set_option maxHeartbeats 4000000 in
set_option maxRecDepth 100000 in
theorem c_X1_read (l : Launch) (hlt : l.stackTraces = false) (g : zG) (M : zM) (S : zS) (hF : zFx S) {r : Int} {M' : zM} (h : F_X1_read M = some (r, M')) : zMet l g yX1_read cX1_read 3 (some .int) 45 0 0 [zr g 2] M S (.inl (some (.int (zi r)))) M' S (inR r) := by
  refine zMet_of (by decide) hlt [(0, zr g 2)] rfl (Nat.le_of_ble_eq_true rfl) (fun K hC hE hN => ?_)
  unfold F_X1_read at h
  have J_101 : ∀ (M : zM) (_ : F_X1_read_J101 M = some (r, M')), zJ K g 0 0 101 3 [] [] M S := by
    intro M h
    unfold F_X1_read_J101 at h
    refine j_iconst hC dX1_read_101 ?_
    obtain ⟨e1, e2⟩ := zpr2 (Option.some.inj h)
    exact j_iret hC hE dX1_read_102 (w_id kR_m1) (zn_i _) (by rw [← e1]) e2 rfl (by rw [← e1]; exact kR_m1) (Nat.le_of_ble_eq_true rfl) (Nat.le_of_ble_eq_true rfl)
  have J_82 : ∀ (v1 : Int) (v2 : Int) (hv1 : inR v1) (hv2 : inR v2) (M : zM) (_ : F_X1_read_J82 v1 v2 M = some (r, M')), zJ K g 0 0 82 3 [(0, zr g 2), (1, .int (zi v1)), (2, .int (zi v2))] [] M S := by
    intro v1 v2 hv1 hv2 M h
    unfold F_X1_read_J82 at h
    refine j_iload_n hC 2 dX1_read_82 rfl rfl ?_
    refine j_if_eq hC dX1_read_83 rfl (w_id hv2) (fun c1 => ?_) (fun c1 => ?_)
    · have h := zt c1 h
      refine j_sub [] rfl ?_
      exact J_101 M h
    · have h := zf c1 h
      refine j_aload_n hC 0 dX1_read_86 rfl rfl ?_
      refine j_get hC dX1_read_87 f_X1_30 (zFx_kd hF 2 rfl) rfl 4 rfl (fun hg2 => ?_)
      refine j_aload_n hC 0 dX1_read_90 rfl rfl ?_
      refine j_get hC dX1_read_91 f_X1_17 (zFx_kd hF 2 rfl) rfl 3 rfl (fun hg3 => ?_)
      refine j_icmp_ne hC dX1_read_94 rfl (w_id hg2) (w_id hg3) (fun c4 => ?_) (fun c4 => ?_)
      · have h := zf c4 h
        refine j_sub [] rfl ?_
        exact J_101 M h
      · have h := zt c4 h
        refine j_iload_n hC 1 dX1_read_97 rfl rfl ?_
        refine j_goto hC dX1_read_98 rfl ?_
        obtain ⟨e1, e2⟩ := zpr2 (Option.some.inj h)
        exact j_iret hC hE dX1_read_102 (w_id hv1) (zn_i _) (by rw [← e1]) e2 rfl (by rw [← e1]; exact hv1) (Nat.le_of_ble_eq_true rfl) (Nat.le_of_ble_eq_true rfl)
  refine j_aload_n hC 0 dX1_read_0 rfl rfl ?_
  refine j_iconst hC dX1_read_1 ?_
  obtain ⟨M5, eM5, h⟩ := zlet_ex h
  refine j_put hC dX1_read_2 f_X1_30 pF_X1 (zFx_kd hF 2 rfl) (Or.inl rfl) rfl 4 rfl (w_id kR_0) kR_0 eM5 ?_
  refine j_aload_n hC 0 dX1_read_5 rfl rfl ?_
  refine j_iconst hC dX1_read_6 ?_
  obtain ⟨M6, eM6, h⟩ := zlet_ex h
  refine j_put hC dX1_read_7 f_X1_21 pF_X1 (zFx_kd hF 2 rfl) (Or.inl rfl) rfl 2 rfl (w_id kR_0) kR_0 eM6 ?_
  refine j_aload_n hC 0 dX1_read_10 rfl rfl ?_
  obtain ⟨r7, M8, hy, h⟩ := zb2_ex h
  refine j_callVi (ci := 1) hC hE lk_X1_33 dX1_read_11 (c_X1_readKind l hlt g M6 S hF hy) [] [] (zFx_kd hF 2 rfl) ⟨_, rfl, by decide, rfl⟩ rfl rfl rfl (Nat.le_of_ble_eq_true rfl) (Nat.le_of_ble_eq_true rfl) (Nat.le_of_ble_eq_true rfl) (Nat.le_of_ble_eq_true rfl) (Nat.le_of_ble_eq_true rfl) (fun hp9 => ?_)
  have hr7 := hp9
  refine j_istore_n hC dX1_read_14 rfl (Nat.le_of_ble_eq_true rfl) rfl ?_
  refine j_iload_n hC 0 dX1_read_15 rfl rfl ?_
  by_cases c10 : r7 = 0
  · have h := zt c10 h
    refine j_tswIn hC 0 dX1_read_16 (w_id hr7) c10 (by decide) (by decide) rfl rfl ?_
    refine j_aload_n hC 1 dX1_read_48 rfl rfl ?_
    obtain ⟨r11, M12, hy, h⟩ := zb2_ex h
    refine j_callVi (ci := 1) hC hE lk_X1_37 dX1_read_49 (c_X1_readAxiom l hlt g M8 S hF hy) [] [] (zFx_kd hF 2 rfl) ⟨_, rfl, by decide, rfl⟩ rfl rfl rfl (Nat.le_of_ble_eq_true rfl) (Nat.le_of_ble_eq_true rfl) (Nat.le_of_ble_eq_true rfl) (Nat.le_of_ble_eq_true rfl) (Nat.le_of_ble_eq_true rfl) (fun hp13 => ?_)
    have hr11 := hp13
    refine j_istore_n hC dX1_read_52 rfl (Nat.le_of_ble_eq_true rfl) rfl ?_
    refine j_goto hC dX1_read_53 rfl ?_
    refine j_sub [2, 1, 0] rfl ?_
    exact J_82 r7 r11 hr7 hr11 M12 h
  have h := zf c10 h
  by_cases c14 : r7 = 1
  · have h := zt c14 h
    refine j_tswIn hC 1 dX1_read_16 (w_id hr7) c14 (by decide) (by decide) rfl rfl ?_
    refine j_aload_n hC 1 dX1_read_56 rfl rfl ?_
    obtain ⟨r15, M16, hy, h⟩ := zb2_ex h
    refine j_callVi (ci := 1) hC hE lk_X1_41 dX1_read_57 (c_X1_readContext l hlt g M8 S hF hy) [] [] (zFx_kd hF 2 rfl) ⟨_, rfl, by decide, rfl⟩ rfl rfl rfl (Nat.le_of_ble_eq_true rfl) (Nat.le_of_ble_eq_true rfl) (Nat.le_of_ble_eq_true rfl) (Nat.le_of_ble_eq_true rfl) (Nat.le_of_ble_eq_true rfl) (fun hp17 => ?_)
    have hr15 := hp17
    refine j_istore_n hC dX1_read_60 rfl (Nat.le_of_ble_eq_true rfl) rfl ?_
    refine j_goto hC dX1_read_61 rfl ?_
    refine j_sub [2, 1, 0] rfl ?_
    exact J_82 r7 r15 hr7 hr15 M16 h
  have h := zf c14 h
  by_cases c18 : r7 = 2
  · have h := zt c18 h
    refine j_tswIn hC 2 dX1_read_16 (w_id hr7) c18 (by decide) (by decide) rfl rfl ?_
    refine j_aload_n hC 1 dX1_read_64 rfl rfl ?_
    obtain ⟨r19, M20, hy, h⟩ := zb2_ex h
    refine j_callVi (ci := 1) hC hE lk_X1_44 dX1_read_65 (c_X1_readMode l hlt g M8 S hF hy) [] [] (zFx_kd hF 2 rfl) ⟨_, rfl, by decide, rfl⟩ rfl rfl rfl (Nat.le_of_ble_eq_true rfl) (Nat.le_of_ble_eq_true rfl) (Nat.le_of_ble_eq_true rfl) (Nat.le_of_ble_eq_true rfl) (Nat.le_of_ble_eq_true rfl) (fun hp21 => ?_)
    have hr19 := hp21
    refine j_istore_n hC dX1_read_68 rfl (Nat.le_of_ble_eq_true rfl) rfl ?_
    refine j_goto hC dX1_read_69 rfl ?_
    refine j_sub [2, 1, 0] rfl ?_
    exact J_82 r7 r19 hr7 hr19 M20 h
  have h := zf c18 h
  by_cases c22 : r7 = 3
  · have h := zt c22 h
    refine j_tswIn hC 3 dX1_read_16 (w_id hr7) c22 (by decide) (by decide) rfl rfl ?_
    refine j_aload_n hC 1 dX1_read_72 rfl rfl ?_
    obtain ⟨r23, M24, hy, h⟩ := zb2_ex h
    refine j_callVi (ci := 1) hC hE lk_X1_47 dX1_read_73 (c_X1_readLimit l hlt g M8 S hF hy) [] [] (zFx_kd hF 2 rfl) ⟨_, rfl, by decide, rfl⟩ rfl rfl rfl (Nat.le_of_ble_eq_true rfl) (Nat.le_of_ble_eq_true rfl) (Nat.le_of_ble_eq_true rfl) (Nat.le_of_ble_eq_true rfl) (Nat.le_of_ble_eq_true rfl) (fun hp25 => ?_)
    have hr23 := hp25
    refine j_istore_n hC dX1_read_76 rfl (Nat.le_of_ble_eq_true rfl) rfl ?_
    refine j_goto hC dX1_read_77 rfl ?_
    refine j_sub [2, 1, 0] rfl ?_
    exact J_82 r7 r23 hr7 hr23 M24 h
  have h := zf c22 h
  refine j_tswOut hC dX1_read_16 (w_id hr7) (by omega) rfl ?_
  refine j_iconst hC dX1_read_80 ?_
  refine j_istore_n hC dX1_read_81 rfl (Nat.le_of_ble_eq_true rfl) rfl ?_
  refine j_sub [2, 1, 0] rfl ?_
  exact J_82 r7 0 hr7 kR_0 M8 h
set_option maxHeartbeats 4000000 in
set_option maxRecDepth 100000 in
theorem c_X2_init (l : Launch) (hlt : l.stackTraces = false) (g : zG) (v0 : Nat) (M : zM) (S : zS) {M' : zM} {S' : zS} (h : F_X2_init v0 M S = some (M', S')) : zMet l g yX2_init cX2_init 1 none 2 2 11 [zr g v0] M S (.inl none) M' S' (True) := by
  refine zMet_of (by decide) hlt [(0, zr g v0)] (by simp only [lv_args, zr_cat, zc_i, zc_l, zc_d, zc_r] <;> rfl) (by rw [zsl_len]; simp only [List.map_cons, List.map_nil, zr_cat, zc_i, zc_l, zc_d, zc_r, List.sum_cons, List.sum_nil] <;> decide) (fun K hC hE hN => ?_)
  unfold F_X2_init at h
  refine j_aload_n hC 0 dX2_init_0 rfl rfl ?_
  obtain ⟨c1, h⟩ := zchk_ex h
  refine j_objI hC hE dX2_init_1 k170 k121 k122 c1 (Nat.le_of_ble_eq_true rfl) (Nat.le_of_ble_eq_true rfl) ?_
  refine j_aload_n hC 0 dX2_init_4 rfl rfl ?_
  refine j_bipush hC dX2_init_5 rfl ?_
  obtain ⟨q2, eq2, h⟩ := zlet_ex h
  obtain ⟨S3, eS3, h⟩ := zlet_ex h
  refine j_newa20 (N := 6) (mx := 6) hC hE ka_20 dX2_init_7 (w_id kR_6) rfl (Nat.le_of_ble_eq_true rfl) (Nat.le_of_ble_eq_true rfl) eq2 eS3 (Nat.le_of_ble_eq_true rfl) (Nat.le_of_ble_eq_true rfl) ?_
  obtain ⟨hk, h⟩ := zchk_ex h
  have hk4 := hk
  obtain ⟨S5, eS5, h⟩ := zlet_ex h
  refine j_putq hC hE dX2_init_9 f_X2_9 pF_X2 hk4 rfl rfl rfl 0 rfl eS5 ?_
  refine j_aload_n hC 0 dX2_init_12 rfl rfl ?_
  refine j_iconst hC dX2_init_13 ?_
  obtain ⟨q6, eq6, h⟩ := zlet_ex h
  obtain ⟨S7, eS7, h⟩ := zlet_ex h
  refine j_newa25 (N := 5) (mx := 5) hC hE an_X2_13 dX2_init_14 (w_id kR_5) rfl (Nat.le_of_ble_eq_true rfl) (Nat.le_of_ble_eq_true rfl) eq6 eS7 (Nat.le_of_ble_eq_true rfl) (Nat.le_of_ble_eq_true rfl) ?_
  obtain ⟨hk, h⟩ := zchk_ex h
  have hk8 := hk
  obtain ⟨S9, eS9, h⟩ := zlet_ex h
  refine j_putq hC hE dX2_init_17 f_X2_15 pF_X2 hk8 rfl rfl rfl 1 rfl eS9 ?_
  refine j_aload_n hC 0 dX2_init_20 rfl rfl ?_
  refine j_iconst hC dX2_init_21 ?_
  obtain ⟨hk, h⟩ := zchk_ex h
  have hk10 := hk
  obtain ⟨M11, eM11, h⟩ := zlet_ex h
  refine j_put hC dX2_init_22 f_X2_19 pF_X2 hk10 (Or.inl rfl) rfl 4 rfl (w_id kR_1) kR_1 eM11 ?_
  refine j_aload_n hC 0 dX2_init_25 rfl rfl ?_
  refine j_bipush hC dX2_init_26 rfl ?_
  obtain ⟨hk, h⟩ := zchk_ex h
  have hk12 := hk
  obtain ⟨M13, eM13, h⟩ := zlet_ex h
  refine j_put hC dX2_init_28 f_X2_23 pF_X2 hk12 (Or.inl rfl) rfl 5 rfl (w_id kR_6) kR_6 eM13 ?_
  obtain ⟨e1, e2⟩ := zpr2 (Option.some.inj h)
  exact j_vret hC hE dX2_init_31 rfl e1 e2 trivial (Nat.le_of_ble_eq_true rfl) (Nat.le_of_ble_eq_true rfl)
set_option maxHeartbeats 4000000 in
set_option maxRecDepth 100000 in
theorem c_X2_copyFrom_a (l : Launch) (hlt : l.stackTraces = false) (g : zG) (M : zM) (S : zS) (hF : zFx S) {M' : zM} {S' : zS} (h : F_X2_copyFrom_a M S = some (M', S')) : zMet l g yX2_copyFrom cX2_copyFrom 3 none 2 0 0 [zr g 5, zr g 8] M S (.inl none) M' S' (zFx S') := by
  refine zMet_of (by decide) hlt [(0, zr g 5), (1, zr g 8)] rfl (Nat.le_of_ble_eq_true rfl) (fun K hC hE hN => ?_)
  unfold F_X2_copyFrom_a at h
  have J_53 : ∀ (M : zM) (S : zS) (hF : zFx S) (_ : F_X2_copyFrom_a_J53 M S = some (M', S')), zJ K g 0 0 53 3 [(0, zr g 5), (1, zr g 8)] [] M S := by
    intro M S hF h
    unfold F_X2_copyFrom_a_J53 at h
    refine j_aload_n hC 0 dX2_copyFrom_53 rfl rfl ?_
    refine j_aload_n hC 1 dX2_copyFrom_54 rfl rfl ?_
    refine j_get hC dX2_copyFrom_55 f_X2_32 (zFx_kd hF 8 rfl) rfl 2 rfl (fun hg1 => ?_)
    obtain ⟨M2, eM2, h⟩ := zlet_ex h
    refine j_put hC dX2_copyFrom_58 f_X2_32 pF_X2 (zFx_kd hF 5 rfl) (Or.inl rfl) rfl 2 rfl (w_id hg1) hg1 eM2 ?_
    refine j_aload_n hC 0 dX2_copyFrom_61 rfl rfl ?_
    refine j_aload_n hC 1 dX2_copyFrom_62 rfl rfl ?_
    refine j_get hC dX2_copyFrom_63 f_X2_35 (zFx_kd hF 8 rfl) rfl 3 rfl (fun hg3 => ?_)
    obtain ⟨M4, eM4, h⟩ := zlet_ex h
    refine j_put hC dX2_copyFrom_66 f_X2_35 pF_X2 (zFx_kd hF 5 rfl) (Or.inl rfl) rfl 3 rfl (w_id hg3) hg3 eM4 ?_
    refine j_aload_n hC 0 dX2_copyFrom_69 rfl rfl ?_
    refine j_aload_n hC 1 dX2_copyFrom_70 rfl rfl ?_
    refine j_get hC dX2_copyFrom_71 f_X2_19 (zFx_kd hF 8 rfl) rfl 4 rfl (fun hg5 => ?_)
    obtain ⟨M6, eM6, h⟩ := zlet_ex h
    refine j_put hC dX2_copyFrom_74 f_X2_19 pF_X2 (zFx_kd hF 5 rfl) (Or.inl rfl) rfl 4 rfl (w_id hg5) hg5 eM6 ?_
    refine j_aload_n hC 0 dX2_copyFrom_77 rfl rfl ?_
    refine j_aload_n hC 1 dX2_copyFrom_78 rfl rfl ?_
    refine j_get hC dX2_copyFrom_79 f_X2_23 (zFx_kd hF 8 rfl) rfl 5 rfl (fun hg7 => ?_)
    obtain ⟨M8, eM8, h⟩ := zlet_ex h
    refine j_put hC dX2_copyFrom_82 f_X2_23 pF_X2 (zFx_kd hF 5 rfl) (Or.inl rfl) rfl 5 rfl (w_id hg7) hg7 eM8 ?_
    obtain ⟨e1, e2⟩ := zpr2 (Option.some.inj h)
    exact j_vret hC hE dX2_copyFrom_85 rfl e1 e2 (by rw [← e2]; exact hF) (Nat.le_of_ble_eq_true rfl) (Nat.le_of_ble_eq_true rfl)
  have L_17 : ∀ (v2 : Int) (hv2 : inR v2) (M : zM) (S : zS) (hF : zFx S) (_ : F_X2_copyFrom_a_L17 v2 M S = some (M', S')), zJ K g 0 0 17 3 [(0, zr g 5), (1, zr g 8), (2, .int (zi v2))] [] M S := by
    intro v2 hv2 M S hF h
    unfold F_X2_copyFrom_a_L17 at h
    obtain ⟨ex17, hl, hd17⟩ := zb1_ex h
    obtain ⟨bd17, ebd⟩ : ∃ f, f = (fun (s : Int × zS) => F_X2_copyFrom_a_B17 s.1 M s.2) := ⟨_, rfl⟩
    rw [← ebd] at hl
    have main : ∀ (n17 : Nat) (v2 : Int) (hv2 : inR v2) (S : zS) (hF : zFx S) (_ : zloop bd17 n17 (v2, S) = some ex17), zJ K g 0 0 17 3 [(0, zr g 5), (1, zr g 8), (2, .int (zi v2))] [] M S := by
      intro n17
      induction n17 with
      | zero => intro v2 hv2 S hF hl; exact zloop_0 hl
      | succ n17 ih17 =>
        intro v2 hv2 S hF hl
        obtain ⟨o, h, hT⟩ := zloop_ex hl
        have h : F_X2_copyFrom_a_B17 v2 M S = some o := by rw [ebd] at h; exact h
        unfold F_X2_copyFrom_a_B17 at h
        refine j_iload_n hC 2 dX2_copyFrom_17 rfl rfl ?_
        refine j_aload_n hC 0 dX2_copyFrom_18 rfl rfl ?_
        refine j_getq (q := 7) hC dX2_copyFrom_19 f_X2_15 (zFx_kd hF 5 rfl) rfl 1 rfl (zFx_rf hF 5 1 rfl) ?_
        refine j_alen (k := 25) (n := 5) hC dX2_copyFrom_22 (zFx_kd hF 7 rfl) (Nat.le_of_ble_eq_true rfl) (Nat.le_of_ble_eq_true rfl) (zFx_ln hF 7 rfl) (fun _ => ?_)
        refine j_icmp_ge hC dX2_copyFrom_23 rfl (w_id hv2) (w_id kR_5) (fun c9 => ?_) (fun c9 => ?_)
        · have h := zf c9 h
          obtain rfl := Option.some.inj h
          have hx17 := hd17
          rw [← show _ = ex17 from hT] at hx17
          refine j_sub [0, 1] rfl ?_
          exact J_53 M S hF hx17
        · have h := zt c9 h
          refine j_iload_n hC 2 dX2_copyFrom_26 rfl rfl ?_
          refine j_aload_n hC 1 dX2_copyFrom_27 rfl rfl ?_
          refine j_getq (q := 10) hC dX2_copyFrom_28 f_X2_15 (zFx_kd hF 8 rfl) rfl 1 rfl (zFx_rf hF 8 1 rfl) ?_
          refine j_alen (k := 25) (n := 5) hC dX2_copyFrom_31 (zFx_kd hF 10 rfl) (Nat.le_of_ble_eq_true rfl) (Nat.le_of_ble_eq_true rfl) (zFx_ln hF 10 rfl) (fun _ => ?_)
          refine j_icmp_ge hC dX2_copyFrom_32 rfl (w_id hv2) (w_id kR_5) (fun c10 => ?_) (fun c10 => ?_)
          · have h := zf c10 h
            obtain rfl := Option.some.inj h
            have hx17 := hd17
            rw [← show _ = ex17 from hT] at hx17
            refine j_sub [0, 1] rfl ?_
            exact J_53 M S hF hx17
          · have h := zt c10 h
            refine j_aload_n hC 0 dX2_copyFrom_35 rfl rfl ?_
            refine j_getq (q := 7) hC dX2_copyFrom_36 f_X2_15 (zFx_kd hF 5 rfl) rfl 1 rfl (zFx_rf hF 5 1 rfl) ?_
            refine j_iload_n hC 2 dX2_copyFrom_39 rfl rfl ?_
            refine j_aload_n hC 1 dX2_copyFrom_40 rfl rfl ?_
            refine j_getq (q := 10) hC dX2_copyFrom_41 f_X2_15 (zFx_kd hF 8 rfl) rfl 1 rfl (zFx_rf hF 8 1 rfl) ?_
            refine j_iload_n hC 2 dX2_copyFrom_44 rfl rfl ?_
            obtain ⟨c11, h⟩ := zchk_ex h
            refine j_aald (k := 25) (n := 5) hC dX2_copyFrom_45 (w_id hv2) (zFx_kd hF 10 rfl) (Nat.le_of_ble_eq_true rfl) (Nat.le_of_ble_eq_true rfl) (zFx_ln hF 10 rfl) c11.1 c11.2 ?_
            obtain ⟨c12, h⟩ := zchk_ex h
            obtain ⟨c13, h⟩ := zchk_ex h
            obtain ⟨S14, eS14, h⟩ := zlet_ex h
            refine j_aast25 (n := 5) hC hE dX2_copyFrom_46 (w_id hv2) (zFx_kd hF 7 rfl) (zFx_ln hF 7 rfl) c12.1 c12.2 c13 eS14 ?_
            have hF15 : zFx S14 := zFx_aq hF eS14 rfl
            obtain ⟨x16, ex16, h⟩ := zlet_ex h
            have hx16 : inR x16 := by rw [ex16]; exact inR_w _
            refine j_iinc hC 2 dX2_copyFrom_47 rfl ex16 (Nat.le_of_ble_eq_true rfl) rfl ?_
            refine j_goto hC dX2_copyFrom_50 rfl ?_
            obtain rfl := Option.some.inj h
            refine j_sub [1, 2, 0] rfl ?_
            exact ih17 x16 hx16 S14 hF15 hT
    exact main zN v2 hv2 S hF hl
  refine j_aload_n hC 1 dX2_copyFrom_0 rfl rfl ?_
  refine j_getq (q := 9) hC dX2_copyFrom_1 f_X2_9 (zFx_kd hF 8 rfl) rfl 0 rfl (zFx_rf hF 8 0 rfl) ?_
  refine j_iconst hC dX2_copyFrom_4 ?_
  refine j_aload_n hC 0 dX2_copyFrom_5 rfl rfl ?_
  refine j_getq (q := 6) hC dX2_copyFrom_6 f_X2_9 (zFx_kd hF 5 rfl) rfl 0 rfl (zFx_rf hF 5 0 rfl) ?_
  refine j_iconst hC dX2_copyFrom_9 ?_
  refine j_bipush hC dX2_copyFrom_10 rfl ?_
  obtain ⟨c17, h⟩ := zchk_ex h
  obtain ⟨M18, eM18, h⟩ := zlet_ex h
  refine j_copy hC hE lk_X2_26 dX2_copyFrom_12 (zFx_kd hF 9 rfl) (zFx_kd hF 6 rfl) (zFx_ln hF 9 rfl) (zFx_ln hF 6 rfl) (w_id kR_0) (w_id kR_0) (w_id kR_6) c17 eM18 (Nat.le_of_ble_eq_true rfl) (Nat.le_of_ble_eq_true rfl) ?_
  refine j_iconst hC dX2_copyFrom_15 ?_
  refine j_istore_n hC dX2_copyFrom_16 rfl (Nat.le_of_ble_eq_true rfl) rfl ?_
  refine j_sub [1, 2, 0] rfl ?_
  exact L_17 0 kR_0 M18 S hF h
set_option maxHeartbeats 4000000 in
set_option maxRecDepth 100000 in
theorem c_X2_copyFrom_b (l : Launch) (hlt : l.stackTraces = false) (g : zG) (M : zM) (S : zS) (hF : zFx S) {M' : zM} {S' : zS} (h : F_X2_copyFrom_b M S = some (M', S')) : zMet l g yX2_copyFrom cX2_copyFrom 3 none 2 0 0 [zr g 8, zr g 5] M S (.inl none) M' S' (zFx S') := by
  refine zMet_of (by decide) hlt [(0, zr g 8), (1, zr g 5)] rfl (Nat.le_of_ble_eq_true rfl) (fun K hC hE hN => ?_)
  unfold F_X2_copyFrom_b at h
  have J_53 : ∀ (M : zM) (S : zS) (hF : zFx S) (_ : F_X2_copyFrom_b_J53 M S = some (M', S')), zJ K g 0 0 53 3 [(0, zr g 8), (1, zr g 5)] [] M S := by
    intro M S hF h
    unfold F_X2_copyFrom_b_J53 at h
    refine j_aload_n hC 0 dX2_copyFrom_53 rfl rfl ?_
    refine j_aload_n hC 1 dX2_copyFrom_54 rfl rfl ?_
    refine j_get hC dX2_copyFrom_55 f_X2_32 (zFx_kd hF 5 rfl) rfl 2 rfl (fun hg1 => ?_)
    obtain ⟨M2, eM2, h⟩ := zlet_ex h
    refine j_put hC dX2_copyFrom_58 f_X2_32 pF_X2 (zFx_kd hF 8 rfl) (Or.inl rfl) rfl 2 rfl (w_id hg1) hg1 eM2 ?_
    refine j_aload_n hC 0 dX2_copyFrom_61 rfl rfl ?_
    refine j_aload_n hC 1 dX2_copyFrom_62 rfl rfl ?_
    refine j_get hC dX2_copyFrom_63 f_X2_35 (zFx_kd hF 5 rfl) rfl 3 rfl (fun hg3 => ?_)
    obtain ⟨M4, eM4, h⟩ := zlet_ex h
    refine j_put hC dX2_copyFrom_66 f_X2_35 pF_X2 (zFx_kd hF 8 rfl) (Or.inl rfl) rfl 3 rfl (w_id hg3) hg3 eM4 ?_
    refine j_aload_n hC 0 dX2_copyFrom_69 rfl rfl ?_
    refine j_aload_n hC 1 dX2_copyFrom_70 rfl rfl ?_
    refine j_get hC dX2_copyFrom_71 f_X2_19 (zFx_kd hF 5 rfl) rfl 4 rfl (fun hg5 => ?_)
    obtain ⟨M6, eM6, h⟩ := zlet_ex h
    refine j_put hC dX2_copyFrom_74 f_X2_19 pF_X2 (zFx_kd hF 8 rfl) (Or.inl rfl) rfl 4 rfl (w_id hg5) hg5 eM6 ?_
    refine j_aload_n hC 0 dX2_copyFrom_77 rfl rfl ?_
    refine j_aload_n hC 1 dX2_copyFrom_78 rfl rfl ?_
    refine j_get hC dX2_copyFrom_79 f_X2_23 (zFx_kd hF 5 rfl) rfl 5 rfl (fun hg7 => ?_)
    obtain ⟨M8, eM8, h⟩ := zlet_ex h
    refine j_put hC dX2_copyFrom_82 f_X2_23 pF_X2 (zFx_kd hF 8 rfl) (Or.inl rfl) rfl 5 rfl (w_id hg7) hg7 eM8 ?_
    obtain ⟨e1, e2⟩ := zpr2 (Option.some.inj h)
    exact j_vret hC hE dX2_copyFrom_85 rfl e1 e2 (by rw [← e2]; exact hF) (Nat.le_of_ble_eq_true rfl) (Nat.le_of_ble_eq_true rfl)
  have L_17 : ∀ (v2 : Int) (hv2 : inR v2) (M : zM) (S : zS) (hF : zFx S) (_ : F_X2_copyFrom_b_L17 v2 M S = some (M', S')), zJ K g 0 0 17 3 [(0, zr g 8), (1, zr g 5), (2, .int (zi v2))] [] M S := by
    intro v2 hv2 M S hF h
    unfold F_X2_copyFrom_b_L17 at h
    obtain ⟨ex17, hl, hd17⟩ := zb1_ex h
    obtain ⟨bd17, ebd⟩ : ∃ f, f = (fun (s : Int × zS) => F_X2_copyFrom_b_B17 s.1 M s.2) := ⟨_, rfl⟩
    rw [← ebd] at hl
    have main : ∀ (n17 : Nat) (v2 : Int) (hv2 : inR v2) (S : zS) (hF : zFx S) (_ : zloop bd17 n17 (v2, S) = some ex17), zJ K g 0 0 17 3 [(0, zr g 8), (1, zr g 5), (2, .int (zi v2))] [] M S := by
      intro n17
      induction n17 with
      | zero => intro v2 hv2 S hF hl; exact zloop_0 hl
      | succ n17 ih17 =>
        intro v2 hv2 S hF hl
        obtain ⟨o, h, hT⟩ := zloop_ex hl
        have h : F_X2_copyFrom_b_B17 v2 M S = some o := by rw [ebd] at h; exact h
        unfold F_X2_copyFrom_b_B17 at h
        refine j_iload_n hC 2 dX2_copyFrom_17 rfl rfl ?_
        refine j_aload_n hC 0 dX2_copyFrom_18 rfl rfl ?_
        refine j_getq (q := 10) hC dX2_copyFrom_19 f_X2_15 (zFx_kd hF 8 rfl) rfl 1 rfl (zFx_rf hF 8 1 rfl) ?_
        refine j_alen (k := 25) (n := 5) hC dX2_copyFrom_22 (zFx_kd hF 10 rfl) (Nat.le_of_ble_eq_true rfl) (Nat.le_of_ble_eq_true rfl) (zFx_ln hF 10 rfl) (fun _ => ?_)
        refine j_icmp_ge hC dX2_copyFrom_23 rfl (w_id hv2) (w_id kR_5) (fun c9 => ?_) (fun c9 => ?_)
        · have h := zf c9 h
          obtain rfl := Option.some.inj h
          have hx17 := hd17
          rw [← show _ = ex17 from hT] at hx17
          refine j_sub [0, 1] rfl ?_
          exact J_53 M S hF hx17
        · have h := zt c9 h
          refine j_iload_n hC 2 dX2_copyFrom_26 rfl rfl ?_
          refine j_aload_n hC 1 dX2_copyFrom_27 rfl rfl ?_
          refine j_getq (q := 7) hC dX2_copyFrom_28 f_X2_15 (zFx_kd hF 5 rfl) rfl 1 rfl (zFx_rf hF 5 1 rfl) ?_
          refine j_alen (k := 25) (n := 5) hC dX2_copyFrom_31 (zFx_kd hF 7 rfl) (Nat.le_of_ble_eq_true rfl) (Nat.le_of_ble_eq_true rfl) (zFx_ln hF 7 rfl) (fun _ => ?_)
          refine j_icmp_ge hC dX2_copyFrom_32 rfl (w_id hv2) (w_id kR_5) (fun c10 => ?_) (fun c10 => ?_)
          · have h := zf c10 h
            obtain rfl := Option.some.inj h
            have hx17 := hd17
            rw [← show _ = ex17 from hT] at hx17
            refine j_sub [0, 1] rfl ?_
            exact J_53 M S hF hx17
          · have h := zt c10 h
            refine j_aload_n hC 0 dX2_copyFrom_35 rfl rfl ?_
            refine j_getq (q := 10) hC dX2_copyFrom_36 f_X2_15 (zFx_kd hF 8 rfl) rfl 1 rfl (zFx_rf hF 8 1 rfl) ?_
            refine j_iload_n hC 2 dX2_copyFrom_39 rfl rfl ?_
            refine j_aload_n hC 1 dX2_copyFrom_40 rfl rfl ?_
            refine j_getq (q := 7) hC dX2_copyFrom_41 f_X2_15 (zFx_kd hF 5 rfl) rfl 1 rfl (zFx_rf hF 5 1 rfl) ?_
            refine j_iload_n hC 2 dX2_copyFrom_44 rfl rfl ?_
            obtain ⟨c11, h⟩ := zchk_ex h
            refine j_aald (k := 25) (n := 5) hC dX2_copyFrom_45 (w_id hv2) (zFx_kd hF 7 rfl) (Nat.le_of_ble_eq_true rfl) (Nat.le_of_ble_eq_true rfl) (zFx_ln hF 7 rfl) c11.1 c11.2 ?_
            obtain ⟨c12, h⟩ := zchk_ex h
            obtain ⟨c13, h⟩ := zchk_ex h
            obtain ⟨S14, eS14, h⟩ := zlet_ex h
            refine j_aast25 (n := 5) hC hE dX2_copyFrom_46 (w_id hv2) (zFx_kd hF 10 rfl) (zFx_ln hF 10 rfl) c12.1 c12.2 c13 eS14 ?_
            have hF15 : zFx S14 := zFx_aq hF eS14 rfl
            obtain ⟨x16, ex16, h⟩ := zlet_ex h
            have hx16 : inR x16 := by rw [ex16]; exact inR_w _
            refine j_iinc hC 2 dX2_copyFrom_47 rfl ex16 (Nat.le_of_ble_eq_true rfl) rfl ?_
            refine j_goto hC dX2_copyFrom_50 rfl ?_
            obtain rfl := Option.some.inj h
            refine j_sub [1, 2, 0] rfl ?_
            exact ih17 x16 hx16 S14 hF15 hT
    exact main zN v2 hv2 S hF hl
  refine j_aload_n hC 1 dX2_copyFrom_0 rfl rfl ?_
  refine j_getq (q := 6) hC dX2_copyFrom_1 f_X2_9 (zFx_kd hF 5 rfl) rfl 0 rfl (zFx_rf hF 5 0 rfl) ?_
  refine j_iconst hC dX2_copyFrom_4 ?_
  refine j_aload_n hC 0 dX2_copyFrom_5 rfl rfl ?_
  refine j_getq (q := 9) hC dX2_copyFrom_6 f_X2_9 (zFx_kd hF 8 rfl) rfl 0 rfl (zFx_rf hF 8 0 rfl) ?_
  refine j_iconst hC dX2_copyFrom_9 ?_
  refine j_bipush hC dX2_copyFrom_10 rfl ?_
  obtain ⟨c17, h⟩ := zchk_ex h
  obtain ⟨M18, eM18, h⟩ := zlet_ex h
  refine j_copy hC hE lk_X2_26 dX2_copyFrom_12 (zFx_kd hF 6 rfl) (zFx_kd hF 9 rfl) (zFx_ln hF 6 rfl) (zFx_ln hF 9 rfl) (w_id kR_0) (w_id kR_0) (w_id kR_6) c17 eM18 (Nat.le_of_ble_eq_true rfl) (Nat.le_of_ble_eq_true rfl) ?_
  refine j_iconst hC dX2_copyFrom_15 ?_
  refine j_istore_n hC dX2_copyFrom_16 rfl (Nat.le_of_ble_eq_true rfl) rfl ?_
  refine j_sub [1, 2, 0] rfl ?_
  exact L_17 0 kR_0 M18 S hF h
set_option maxHeartbeats 4000000 in
set_option maxRecDepth 100000 in
theorem c_X2_axiom (l : Launch) (hlt : l.stackTraces = false) (g : zG) (v1 : Int) (hv1 : inR v1) (M : zM) (S : zS) (hF : zFx S) {r : Int} (h : F_X2_axiom v1 M S = some r) : zMet l g yX2_axiom cX2_axiom 2 (some .int) 2 0 0 [zr g 5, .int (zi v1)] M S (.inl (some (.int (zi r)))) M S (inR r) := by
  refine zMet_of (by decide) hlt [(0, zr g 5), (1, .int (zi v1))] rfl (Nat.le_of_ble_eq_true rfl) (fun K hC hE hN => ?_)
  unfold F_X2_axiom at h
  refine j_aload_n hC 0 dX2_axiom_0 rfl rfl ?_
  refine j_getq (q := 6) hC dX2_axiom_1 f_X2_9 (zFx_kd hF 5 rfl) rfl 0 rfl (zFx_rf hF 5 0 rfl) ?_
  refine j_iload_n hC 1 dX2_axiom_4 rfl rfl ?_
  obtain ⟨r1, hy, h⟩ := zb1_ex h
  refine j_callSi hC hE lk_X2_38 dX2_axiom_5 (c_X6_at l hlt g 6 v1 hv1 M S hF hy) [zr g 6, .int (zi v1)] [] rfl rfl rfl (Nat.le_of_ble_eq_true rfl) (Nat.le_of_ble_eq_true rfl) (Nat.le_of_ble_eq_true rfl) (Nat.le_of_ble_eq_true rfl) (Nat.le_of_ble_eq_true rfl) (fun hp2 => ?_)
  have hr1 := hp2
  have e1 := Option.some.inj h
  exact j_iret hC hE dX2_axiom_8 (w_id hr1) (zn_i _) (by rw [← e1]) rfl rfl (by rw [← e1]; exact hr1) (Nat.le_of_ble_eq_true rfl) (Nat.le_of_ble_eq_true rfl)
set_option maxHeartbeats 4000000 in
set_option maxRecDepth 100000 in
theorem c_X2_hasAxiom (l : Launch) (hlt : l.stackTraces = false) (g : zG) (v1 : Int) (hv1 : inR v1) (M : zM) (S : zS) (hF : zFx S) {r : Int} (h : F_X2_hasAxiom v1 M S = some r) : zMet l g yX2_hasAxiom cX2_hasAxiom 3 (some .boolean) 3 0 0 [zr g 5, .int (zi v1)] M S (.inl (some (.int (zi r)))) M S (inR r) := by
  refine zMet_of (by decide) hlt [(0, zr g 5), (1, .int (zi v1))] rfl (Nat.le_of_ble_eq_true rfl) (fun K hC hE hN => ?_)
  unfold F_X2_hasAxiom at h
  have J_27 : ∀ (_ : F_X2_hasAxiom_J27 M S = some r), zJ K g 0 0 27 3 [] [] M S := by
    intro h
    unfold F_X2_hasAxiom_J27 at h
    refine j_iconst hC dX2_hasAxiom_27 ?_
    have e1 := Option.some.inj h
    exact j_iret hC hE dX2_hasAxiom_28 (w_id kR_0) (zn_z zb01_0) (by rw [← e1]) rfl rfl (by rw [← e1]; exact kR_0) (Nat.le_of_ble_eq_true rfl) (Nat.le_of_ble_eq_true rfl)
  have J_19 : ∀ (_ : F_X2_hasAxiom_J19 M S = some r), zJ K g 0 0 19 3 [] [] M S := by
    intro h
    unfold F_X2_hasAxiom_J19 at h
    refine j_iconst hC dX2_hasAxiom_19 ?_
    have e1 := Option.some.inj h
    exact j_iret hC hE dX2_hasAxiom_20 (w_id kR_1) (zn_z zb01_1) (by rw [← e1]) rfl rfl (by rw [← e1]; exact kR_1) (Nat.le_of_ble_eq_true rfl) (Nat.le_of_ble_eq_true rfl)
  have L_2 : ∀ (v1 : Int) (v2 : Int) (hv1 : inR v1) (hv2 : inR v2) (_ : F_X2_hasAxiom_L2 v1 v2 M S = some r), zJ K g 0 0 2 3 [(0, zr g 5), (1, .int (zi v1)), (2, .int (zi v2))] [] M S := by
    intro v1 v2 hv1 hv2 h
    unfold F_X2_hasAxiom_L2 at h
    obtain ⟨ex2, hl, hd2⟩ := zb1_ex h
    obtain ⟨bd2, ebd⟩ : ∃ f, f = (fun (s : Int) => F_X2_hasAxiom_B2 v1 s M S) := ⟨_, rfl⟩
    rw [← ebd] at hl
    have main : ∀ (n2 : Nat) (v2 : Int) (hv2 : inR v2) (_ : zloop bd2 n2 v2 = some ex2), zJ K g 0 0 2 3 [(0, zr g 5), (1, .int (zi v1)), (2, .int (zi v2))] [] M S := by
      intro n2
      induction n2 with
      | zero => intro v2 hv2 hl; exact zloop_0 hl
      | succ n2 ih2 =>
        intro v2 hv2 hl
        obtain ⟨o, h, hT⟩ := zloop_ex hl
        have h : F_X2_hasAxiom_B2 v1 v2 M S = some o := by rw [ebd] at h; exact h
        unfold F_X2_hasAxiom_B2 at h
        refine j_iload_n hC 2 dX2_hasAxiom_2 rfl rfl ?_
        refine j_aload_n hC 0 dX2_hasAxiom_3 rfl rfl ?_
        refine j_get hC dX2_hasAxiom_4 f_X2_32 (zFx_kd hF 5 rfl) rfl 2 rfl (fun hg1 => ?_)
        refine j_icmp_ge hC dX2_hasAxiom_7 rfl (w_id hv2) (w_id hg1) (fun c2 => ?_) (fun c2 => ?_)
        · have h := zf c2 h
          obtain rfl := Option.some.inj h
          have hx2 := hd2
          rw [← show _ = ex2 from hT] at hx2
          dsimp only [Sum.elim] at hx2
          refine j_sub [] rfl ?_
          exact J_27 hx2
        · have h := zt c2 h
          refine j_aload_n hC 0 dX2_hasAxiom_10 rfl rfl ?_
          refine j_iload_n hC 2 dX2_hasAxiom_11 rfl rfl ?_
          obtain ⟨r3, hy, h⟩ := zb1_ex h
          refine j_callVi (ci := 2) hC hE lk_X2_44 dX2_hasAxiom_12 (c_X2_axiom l hlt g v2 hv2 M S hF hy) [.int (zi v2)] [] (zFx_kd hF 5 rfl) ⟨_, rfl, by decide, rfl⟩ rfl rfl rfl (Nat.le_of_ble_eq_true rfl) (Nat.le_of_ble_eq_true rfl) (Nat.le_of_ble_eq_true rfl) (Nat.le_of_ble_eq_true rfl) (Nat.le_of_ble_eq_true rfl) (fun hp4 => ?_)
          have hr3 := hp4
          refine j_iload_n hC 1 dX2_hasAxiom_15 rfl rfl ?_
          refine j_icmp_ne hC dX2_hasAxiom_16 rfl (w_id hr3) (w_id hv1) (fun c5 => ?_) (fun c5 => ?_)
          · have h := zf c5 h
            obtain ⟨x6, ex6, h⟩ := zlet_ex h
            have hx6 : inR x6 := by rw [ex6]; exact inR_w _
            refine j_iinc hC 2 dX2_hasAxiom_21 rfl ex6 (Nat.le_of_ble_eq_true rfl) rfl ?_
            refine j_goto hC dX2_hasAxiom_24 rfl ?_
            obtain rfl := Option.some.inj h
            refine j_sub [1, 2, 0] rfl ?_
            exact ih2 x6 hx6 hT
          · have h := zt c5 h
            obtain rfl := Option.some.inj h
            have hx2 := hd2
            rw [← show _ = ex2 from hT] at hx2
            dsimp only [Sum.elim] at hx2
            refine j_sub [] rfl ?_
            exact J_19 hx2
    exact main zN v2 hv2 hl
  refine j_iconst hC dX2_hasAxiom_0 ?_
  refine j_istore_n hC dX2_hasAxiom_1 rfl (Nat.le_of_ble_eq_true rfl) rfl ?_
  refine j_sub [1, 2, 0] rfl ?_
  exact L_2 v1 0 hv1 kR_0 h
set_option maxHeartbeats 4000000 in
set_option maxRecDepth 100000 in
theorem c_X2_putAxiom (l : Launch) (hlt : l.stackTraces = false) (g : zG) (v1 : Int) (hv1 : inR v1) (M : zM) (S : zS) (hF : zFx S) {M' : zM} (h : F_X2_putAxiom v1 M S = some M') : zMet l g yX2_putAxiom cX2_putAxiom 2 none 2 0 0 [zr g 5, .int (zi v1)] M S (.inl none) M' S (True) := by
  refine zMet_of (by decide) hlt [(0, zr g 5), (1, .int (zi v1))] rfl (Nat.le_of_ble_eq_true rfl) (fun K hC hE hN => ?_)
  unfold F_X2_putAxiom at h
  refine j_aload_n hC 0 dX2_putAxiom_0 rfl rfl ?_
  refine j_getq (q := 6) hC dX2_putAxiom_1 f_X2_9 (zFx_kd hF 5 rfl) rfl 0 rfl (zFx_rf hF 5 0 rfl) ?_
  refine j_aload_n hC 0 dX2_putAxiom_4 rfl rfl ?_
  refine j_get hC dX2_putAxiom_5 f_X2_32 (zFx_kd hF 5 rfl) rfl 2 rfl (fun hg1 => ?_)
  refine j_iload_n hC 1 dX2_putAxiom_8 rfl rfl ?_
  obtain ⟨M2, hy, h⟩ := zb1_ex h
  refine j_callSv hC hE lk_X2_48 dX2_putAxiom_9 (c_X6_put l hlt g 6 (M 5 2) v1 hg1 hv1 M S hF hy) [zr g 6, .int (zi (M 5 2)), .int (zi v1)] [] rfl rfl rfl (Nat.le_of_ble_eq_true rfl) (Nat.le_of_ble_eq_true rfl) (Nat.le_of_ble_eq_true rfl) (Nat.le_of_ble_eq_true rfl) (Nat.le_of_ble_eq_true rfl) (fun hp3 => ?_)
  refine j_aload_n hC 0 dX2_putAxiom_12 rfl rfl ?_
  refine j_dup hC dX2_putAxiom_13 (zr_cat _ _) ?_
  refine j_get hC dX2_putAxiom_14 f_X2_32 (zFx_kd hF 5 rfl) rfl 2 rfl (fun hg4 => ?_)
  refine j_iconst hC dX2_putAxiom_17 ?_
  refine j_iadd hC dX2_putAxiom_18 ?_
  obtain ⟨M5, eM5, h⟩ := zlet_ex h
  refine j_put hC dX2_putAxiom_19 f_X2_32 pF_X2 (zFx_kd hF 5 rfl) (Or.inl rfl) rfl 2 rfl rfl (inR_w _) eM5 ?_
  have e1 := Option.some.inj h
  exact j_vret hC hE dX2_putAxiom_22 rfl e1 rfl trivial (Nat.le_of_ble_eq_true rfl) (Nat.le_of_ble_eq_true rfl)
set_option maxHeartbeats 4000000 in
set_option maxRecDepth 100000 in
theorem c_X2_dropAxiom (l : Launch) (hlt : l.stackTraces = false) (g : zG) (v1 : Int) (hv1 : inR v1) (M : zM) (S : zS) (hF : zFx S) {M' : zM} (h : F_X2_dropAxiom v1 M S = some M') : zMet l g yX2_dropAxiom cX2_dropAxiom 3 none 3 0 0 [zr g 5, .int (zi v1)] M S (.inl none) M' S (True) := by
  refine zMet_of (by decide) hlt [(0, zr g 5), (1, .int (zi v1))] rfl (Nat.le_of_ble_eq_true rfl) (fun K hC hE hN => ?_)
  unfold F_X2_dropAxiom at h
  have J_33 : ∀ (M : zM) (_ : F_X2_dropAxiom_J33 M S = some M'), zJ K g 0 0 33 3 [(0, zr g 5)] [] M S := by
    intro M h
    unfold F_X2_dropAxiom_J33 at h
    refine j_aload_n hC 0 dX2_dropAxiom_33 rfl rfl ?_
    refine j_dup hC dX2_dropAxiom_34 (zr_cat _ _) ?_
    refine j_get hC dX2_dropAxiom_35 f_X2_32 (zFx_kd hF 5 rfl) rfl 2 rfl (fun hg1 => ?_)
    refine j_iconst hC dX2_dropAxiom_38 ?_
    refine j_isub hC dX2_dropAxiom_39 ?_
    obtain ⟨M2, eM2, h⟩ := zlet_ex h
    refine j_put hC dX2_dropAxiom_40 f_X2_32 pF_X2 (zFx_kd hF 5 rfl) (Or.inl rfl) rfl 2 rfl rfl (inR_w _) eM2 ?_
    have e1 := Option.some.inj h
    exact j_vret hC hE dX2_dropAxiom_43 rfl e1 rfl trivial (Nat.le_of_ble_eq_true rfl) (Nat.le_of_ble_eq_true rfl)
  have L_4 : ∀ (v2 : Int) (hv2 : inR v2) (M : zM) (_ : F_X2_dropAxiom_L4 v2 M S = some M'), zJ K g 0 0 4 3 [(0, zr g 5), (2, .int (zi v2))] [] M S := by
    intro v2 hv2 M h
    unfold F_X2_dropAxiom_L4 at h
    obtain ⟨ex4, hl, hd4⟩ := zb1_ex h
    obtain ⟨bd4, ebd⟩ : ∃ f, f = (fun (s : Int × zM) => F_X2_dropAxiom_B4 s.1 s.2 S) := ⟨_, rfl⟩
    rw [← ebd] at hl
    have main : ∀ (n4 : Nat) (v2 : Int) (hv2 : inR v2) (M : zM) (_ : zloop bd4 n4 (v2, M) = some ex4), zJ K g 0 0 4 3 [(0, zr g 5), (2, .int (zi v2))] [] M S := by
      intro n4
      induction n4 with
      | zero => intro v2 hv2 M hl; exact zloop_0 hl
      | succ n4 ih4 =>
        intro v2 hv2 M hl
        obtain ⟨o, h, hT⟩ := zloop_ex hl
        have h : F_X2_dropAxiom_B4 v2 M S = some o := by rw [ebd] at h; exact h
        unfold F_X2_dropAxiom_B4 at h
        refine j_iload_n hC 1 dX2_dropAxiom_4 rfl rfl ?_
        refine j_aload_n hC 0 dX2_dropAxiom_5 rfl rfl ?_
        refine j_get hC dX2_dropAxiom_6 f_X2_32 (zFx_kd hF 5 rfl) rfl 2 rfl (fun hg3 => ?_)
        refine j_icmp_ge hC dX2_dropAxiom_9 rfl (w_id hv2) (w_id hg3) (fun c4 => ?_) (fun c4 => ?_)
        · have h := zf c4 h
          obtain rfl := Option.some.inj h
          have hx4 := hd4
          rw [← show _ = ex4 from hT] at hx4
          refine j_sub [0] rfl ?_
          exact J_33 M hx4
        · have h := zt c4 h
          refine j_aload_n hC 0 dX2_dropAxiom_12 rfl rfl ?_
          refine j_getq (q := 6) hC dX2_dropAxiom_13 f_X2_9 (zFx_kd hF 5 rfl) rfl 0 rfl (zFx_rf hF 5 0 rfl) ?_
          refine j_iload_n hC 1 dX2_dropAxiom_16 rfl rfl ?_
          refine j_iconst hC dX2_dropAxiom_17 ?_
          refine j_isub hC dX2_dropAxiom_18 ?_
          refine j_aload_n hC 0 dX2_dropAxiom_19 rfl rfl ?_
          refine j_iload_n hC 1 dX2_dropAxiom_20 rfl rfl ?_
          obtain ⟨r5, hy, h⟩ := zb1_ex h
          refine j_callVi (ci := 2) hC hE lk_X2_44 dX2_dropAxiom_21 (c_X2_axiom l hlt g v2 hv2 M S hF hy) [.int (zi v2)] [.int (zi (v2 - 1)), zr g 6] (zFx_kd hF 5 rfl) ⟨_, rfl, by decide, rfl⟩ rfl rfl rfl (Nat.le_of_ble_eq_true rfl) (Nat.le_of_ble_eq_true rfl) (Nat.le_of_ble_eq_true rfl) (Nat.le_of_ble_eq_true rfl) (Nat.le_of_ble_eq_true rfl) (fun hp6 => ?_)
          have hr5 := hp6
          obtain ⟨M7, hy, h⟩ := zb1_ex h
          refine j_callSv hC hE lk_X2_48 dX2_dropAxiom_24 (c_X6_put l hlt g 6 (w (v2 - 1)) r5 (inR_w _) hr5 M S hF hy) [zr g 6, .int (zi (v2 - 1)), .int (zi r5)] [] rfl (by simp only [zi_w, zl_wl]) rfl (Nat.le_of_ble_eq_true rfl) (Nat.le_of_ble_eq_true rfl) (Nat.le_of_ble_eq_true rfl) (Nat.le_of_ble_eq_true rfl) (Nat.le_of_ble_eq_true rfl) (fun hp8 => ?_)
          obtain ⟨x9, ex9, h⟩ := zlet_ex h
          have hx9 : inR x9 := by rw [ex9]; exact inR_w _
          refine j_iinc hC 1 dX2_dropAxiom_27 rfl ex9 (Nat.le_of_ble_eq_true rfl) rfl ?_
          refine j_goto hC dX2_dropAxiom_30 rfl ?_
          obtain rfl := Option.some.inj h
          refine j_sub [1, 0] rfl ?_
          exact ih4 x9 hx9 M7 hT
    exact main zN v2 hv2 M hl
  refine j_iload_n hC 1 dX2_dropAxiom_0 rfl rfl ?_
  refine j_iconst hC dX2_dropAxiom_1 ?_
  refine j_iadd hC dX2_dropAxiom_2 ?_
  obtain ⟨x10, ex10, h⟩ := zlet_ex h
  have hx10 : inR x10 := by rw [ex10]; exact inR_w _
  refine j_namei ex10 ?_
  refine j_istore_n hC dX2_dropAxiom_3 rfl (Nat.le_of_ble_eq_true rfl) rfl ?_
  refine j_sub [1, 0] rfl ?_
  exact L_4 x10 hx10 M h
set_option maxHeartbeats 4000000 in
set_option maxRecDepth 100000 in
theorem c_X2_context (l : Launch) (hlt : l.stackTraces = false) (g : zG) (v1 : Int) (hv1 : inR v1) (M : zM) (S : zS) (hF : zFx S) {r : Nat} (h : F_X2_context v1 S = some r) : zMet l g yX2_context cX2_context 2 (some (.object "ContextualGrammarLab$Context")) 1 0 0 [zr g 5, .int (zi v1)] M S (.inl (some (zr g r))) M S (True) := by
  refine zMet_of (by decide) hlt [(0, zr g 5), (1, .int (zi v1))] rfl (Nat.le_of_ble_eq_true rfl) (fun K hC hE hN => ?_)
  unfold F_X2_context at h
  have J_13 : ∀ (_ : F_X2_context_J13 S = some r), zJ K g 0 0 13 2 [] [] M S := by
    intro h
    unfold F_X2_context_J13 at h
    refine j_null hC dX2_context_13 ?_
    refine j_goto hC dX2_context_14 rfl ?_
    have e1 := Option.some.inj h
    exact j_aret hC hE dX2_context_23 (by rw [← e1]) rfl rfl trivial (Nat.le_of_ble_eq_true rfl) (Nat.le_of_ble_eq_true rfl)
  refine j_iload_n hC 1 dX2_context_0 rfl rfl ?_
  refine j_if_lt hC dX2_context_1 rfl (w_id hv1) (fun c1 => ?_) (fun c1 => ?_)
  · have h := zt c1 h
    refine j_sub [] rfl ?_
    exact J_13 h
  · have h := zf c1 h
    refine j_iload_n hC 1 dX2_context_4 rfl rfl ?_
    refine j_aload_n hC 0 dX2_context_5 rfl rfl ?_
    refine j_getq (q := 7) hC dX2_context_6 f_X2_15 (zFx_kd hF 5 rfl) rfl 1 rfl (zFx_rf hF 5 1 rfl) ?_
    refine j_alen (k := 25) (n := 5) hC dX2_context_9 (zFx_kd hF 7 rfl) (Nat.le_of_ble_eq_true rfl) (Nat.le_of_ble_eq_true rfl) (zFx_ln hF 7 rfl) (fun _ => ?_)
    refine j_icmp_lt hC dX2_context_10 rfl (w_id hv1) (w_id kR_5) (fun c2 => ?_) (fun c2 => ?_)
    · have h := zt c2 h
      refine j_aload_n hC 0 dX2_context_17 rfl rfl ?_
      refine j_getq (q := 7) hC dX2_context_18 f_X2_15 (zFx_kd hF 5 rfl) rfl 1 rfl (zFx_rf hF 5 1 rfl) ?_
      refine j_iload_n hC 1 dX2_context_21 rfl rfl ?_
      obtain ⟨c3, h⟩ := zchk_ex h
      refine j_aald (k := 25) (n := 5) hC dX2_context_22 (w_id hv1) (zFx_kd hF 7 rfl) (Nat.le_of_ble_eq_true rfl) (Nat.le_of_ble_eq_true rfl) (zFx_ln hF 7 rfl) c3.1 c3.2 ?_
      have e1 := Option.some.inj h
      exact j_aret hC hE dX2_context_23 (by rw [← e1]) rfl rfl trivial (Nat.le_of_ble_eq_true rfl) (Nat.le_of_ble_eq_true rfl)
    · have h := zf c2 h
      refine j_sub [] rfl ?_
      exact J_13 h
set_option maxHeartbeats 4000000 in
set_option maxRecDepth 100000 in
theorem c_X2_allContexts (l : Launch) (hlt : l.stackTraces = false) (g : zG) (M : zM) (S : zS) (hF : zFx S) {r : Int} (h : F_X2_allContexts M = some r) : zMet l g yX2_allContexts cX2_allContexts 1 (some .int) 1 0 0 [zr g 5] M S (.inl (some (.int (zi r)))) M S (inR r) := by
  refine zMet_of (by decide) hlt [(0, zr g 5)] rfl (Nat.le_of_ble_eq_true rfl) (fun K hC hE hN => ?_)
  unfold F_X2_allContexts at h
  refine j_iconst hC dX2_allContexts_0 ?_
  refine j_aload_n hC 0 dX2_allContexts_1 rfl rfl ?_
  refine j_get hC dX2_allContexts_2 f_X2_35 (zFx_kd hF 5 rfl) rfl 3 rfl (fun hg1 => ?_)
  refine j_ishl hC dX2_allContexts_5 ?_
  refine j_iconst hC dX2_allContexts_6 ?_
  refine j_isub hC dX2_allContexts_7 ?_
  have e1 := Option.some.inj h
  exact j_iret hC hE dX2_allContexts_8 rfl (zn_i _) (by rw [← e1]) rfl rfl (by rw [← e1]; exact (inR_w _)) (Nat.le_of_ble_eq_true rfl) (Nat.le_of_ble_eq_true rfl)
set_option maxHeartbeats 4000000 in
set_option maxRecDepth 100000 in
theorem c_X2_putContext (l : Launch) (hlt : l.stackTraces = false) (g : zG) (v1 : Nat) (M : zM) (S : zS) (hF : zFx S) {M' : zM} {S' : zS} (h : F_X2_putContext v1 M S = some (M', S')) : zMet l g yX2_putContext cX2_putContext 2 none 1 0 0 [zr g 5, zr g v1] M S (.inl none) M' S' (zFx S') := by
  refine zMet_of (by decide) hlt [(0, zr g 5), (1, zr g v1)] (by simp only [lv_args, zr_cat, zc_i, zc_l, zc_d, zc_r] <;> rfl) (by rw [zsl_len]; simp only [List.map_cons, List.map_nil, zr_cat, zc_i, zc_l, zc_d, zc_r, List.sum_cons, List.sum_nil] <;> decide) (fun K hC hE hN => ?_)
  unfold F_X2_putContext at h
  refine j_aload_n hC 0 dX2_putContext_0 rfl rfl ?_
  refine j_get hC dX2_putContext_1 f_X2_35 (zFx_kd hF 5 rfl) rfl 3 rfl (fun hg1 => ?_)
  refine j_if_lt hC dX2_putContext_4 rfl (w_id hg1) (fun c2 => ?_) (fun c2 => ?_)
  · have h := zt c2 h
    obtain ⟨e1, e2⟩ := zpr2 (Option.some.inj h)
    exact j_vret hC hE dX2_putContext_39 rfl e1 e2 (by rw [← e2]; exact hF) (Nat.le_of_ble_eq_true rfl) (Nat.le_of_ble_eq_true rfl)
  · have h := zf c2 h
    refine j_aload_n hC 0 dX2_putContext_7 rfl rfl ?_
    refine j_get hC dX2_putContext_8 f_X2_35 (zFx_kd hF 5 rfl) rfl 3 rfl (fun hg3 => ?_)
    refine j_aload_n hC 0 dX2_putContext_11 rfl rfl ?_
    refine j_getq (q := 7) hC dX2_putContext_12 f_X2_15 (zFx_kd hF 5 rfl) rfl 1 rfl (zFx_rf hF 5 1 rfl) ?_
    refine j_alen (k := 25) (n := 5) hC dX2_putContext_15 (zFx_kd hF 7 rfl) (Nat.le_of_ble_eq_true rfl) (Nat.le_of_ble_eq_true rfl) (zFx_ln hF 7 rfl) (fun _ => ?_)
    refine j_icmp_ge hC dX2_putContext_16 rfl (w_id hg3) (w_id kR_5) (fun c4 => ?_) (fun c4 => ?_)
    · have h := zf c4 h
      obtain ⟨e1, e2⟩ := zpr2 (Option.some.inj h)
      exact j_vret hC hE dX2_putContext_39 rfl e1 e2 (by rw [← e2]; exact hF) (Nat.le_of_ble_eq_true rfl) (Nat.le_of_ble_eq_true rfl)
    · have h := zt c4 h
      refine j_aload_n hC 0 dX2_putContext_19 rfl rfl ?_
      refine j_getq (q := 7) hC dX2_putContext_20 f_X2_15 (zFx_kd hF 5 rfl) rfl 1 rfl (zFx_rf hF 5 1 rfl) ?_
      refine j_aload_n hC 0 dX2_putContext_23 rfl rfl ?_
      refine j_get hC dX2_putContext_24 f_X2_35 (zFx_kd hF 5 rfl) rfl 3 rfl (fun hg5 => ?_)
      refine j_aload_n hC 1 dX2_putContext_27 rfl rfl ?_
      obtain ⟨c6, h⟩ := zchk_ex h
      obtain ⟨c7, h⟩ := zchk_ex h
      obtain ⟨S8, eS8, h⟩ := zlet_ex h
      refine j_aast25 (n := 5) hC hE dX2_putContext_28 (w_id hg5) (zFx_kd hF 7 rfl) (zFx_ln hF 7 rfl) c6.1 c6.2 c7 eS8 ?_
      have hF9 : zFx S8 := zFx_aq hF eS8 rfl
      refine j_aload_n hC 0 dX2_putContext_29 rfl rfl ?_
      refine j_dup hC dX2_putContext_30 (zr_cat _ _) ?_
      refine j_get hC dX2_putContext_31 f_X2_35 (zFx_kd hF9 5 rfl) rfl 3 rfl (fun hg10 => ?_)
      refine j_iconst hC dX2_putContext_34 ?_
      refine j_iadd hC dX2_putContext_35 ?_
      obtain ⟨M11, eM11, h⟩ := zlet_ex h
      refine j_put hC dX2_putContext_36 f_X2_35 pF_X2 (zFx_kd hF9 5 rfl) (Or.inl rfl) rfl 3 rfl rfl (inR_w _) eM11 ?_
      obtain ⟨e1, e2⟩ := zpr2 (Option.some.inj h)
      exact j_vret hC hE dX2_putContext_39 rfl e1 e2 (by rw [← e2]; exact hF9) (Nat.le_of_ble_eq_true rfl) (Nat.le_of_ble_eq_true rfl)
set_option maxHeartbeats 4000000 in
set_option maxRecDepth 100000 in
theorem c_X2_dropContext (l : Launch) (hlt : l.stackTraces = false) (g : zG) (v1 : Int) (hv1 : inR v1) (M : zM) (S : zS) (hF : zFx S) {M' : zM} {S' : zS} (h : F_X2_dropContext v1 M S = some (M', S')) : zMet l g yX2_dropContext cX2_dropContext 3 none 2 0 0 [zr g 5, .int (zi v1)] M S (.inl none) M' S' (zFx S') := by
  refine zMet_of (by decide) hlt [(0, zr g 5), (1, .int (zi v1))] rfl (Nat.le_of_ble_eq_true rfl) (fun K hC hE hN => ?_)
  unfold F_X2_dropContext at h
  have J_34 : ∀ (M : zM) (S : zS) (hF : zFx S) (_ : F_X2_dropContext_J34 M S = some (M', S')), zJ K g 0 0 34 3 [(0, zr g 5)] [] M S := by
    intro M S hF h
    unfold F_X2_dropContext_J34 at h
    refine j_aload_n hC 0 dX2_dropContext_34 rfl rfl ?_
    refine j_dup hC dX2_dropContext_35 (zr_cat _ _) ?_
    refine j_get hC dX2_dropContext_36 f_X2_35 (zFx_kd hF 5 rfl) rfl 3 rfl (fun hg1 => ?_)
    refine j_iconst hC dX2_dropContext_39 ?_
    refine j_isub hC dX2_dropContext_40 ?_
    obtain ⟨M2, eM2, h⟩ := zlet_ex h
    refine j_put hC dX2_dropContext_41 f_X2_35 pF_X2 (zFx_kd hF 5 rfl) (Or.inl rfl) rfl 3 rfl rfl (inR_w _) eM2 ?_
    obtain ⟨e1, e2⟩ := zpr2 (Option.some.inj h)
    exact j_vret hC hE dX2_dropContext_44 rfl e1 e2 (by rw [← e2]; exact hF) (Nat.le_of_ble_eq_true rfl) (Nat.le_of_ble_eq_true rfl)
  have L_2 : ∀ (v2 : Int) (hv2 : inR v2) (M : zM) (S : zS) (hF : zFx S) (_ : F_X2_dropContext_L2 v2 M S = some (M', S')), zJ K g 0 0 2 3 [(0, zr g 5), (2, .int (zi v2))] [] M S := by
    intro v2 hv2 M S hF h
    unfold F_X2_dropContext_L2 at h
    obtain ⟨ex2, hl, hd2⟩ := zb1_ex h
    obtain ⟨bd2, ebd⟩ : ∃ f, f = (fun (s : Int × zS) => F_X2_dropContext_B2 s.1 M s.2) := ⟨_, rfl⟩
    rw [← ebd] at hl
    have main : ∀ (n2 : Nat) (v2 : Int) (hv2 : inR v2) (S : zS) (hF : zFx S) (_ : zloop bd2 n2 (v2, S) = some ex2), zJ K g 0 0 2 3 [(0, zr g 5), (2, .int (zi v2))] [] M S := by
      intro n2
      induction n2 with
      | zero => intro v2 hv2 S hF hl; exact zloop_0 hl
      | succ n2 ih2 =>
        intro v2 hv2 S hF hl
        obtain ⟨o, h, hT⟩ := zloop_ex hl
        have h : F_X2_dropContext_B2 v2 M S = some o := by rw [ebd] at h; exact h
        unfold F_X2_dropContext_B2 at h
        refine j_iload_n hC 1 dX2_dropContext_2 rfl rfl ?_
        refine j_if_lt hC dX2_dropContext_3 rfl (w_id hv2) (fun c3 => ?_) (fun c3 => ?_)
        · have h := zt c3 h
          obtain rfl := Option.some.inj h
          have hx2 := hd2
          rw [← show _ = ex2 from hT] at hx2
          refine j_sub [0] rfl ?_
          exact J_34 M S hF hx2
        · have h := zf c3 h
          refine j_iload_n hC 1 dX2_dropContext_6 rfl rfl ?_
          refine j_aload_n hC 0 dX2_dropContext_7 rfl rfl ?_
          refine j_getq (q := 7) hC dX2_dropContext_8 f_X2_15 (zFx_kd hF 5 rfl) rfl 1 rfl (zFx_rf hF 5 1 rfl) ?_
          refine j_alen (k := 25) (n := 5) hC dX2_dropContext_11 (zFx_kd hF 7 rfl) (Nat.le_of_ble_eq_true rfl) (Nat.le_of_ble_eq_true rfl) (zFx_ln hF 7 rfl) (fun _ => ?_)
          refine j_icmp_ge hC dX2_dropContext_12 rfl (w_id hv2) (w_id kR_5) (fun c4 => ?_) (fun c4 => ?_)
          · have h := zf c4 h
            obtain rfl := Option.some.inj h
            have hx2 := hd2
            rw [← show _ = ex2 from hT] at hx2
            refine j_sub [0] rfl ?_
            exact J_34 M S hF hx2
          · have h := zt c4 h
            refine j_aload_n hC 0 dX2_dropContext_15 rfl rfl ?_
            refine j_getq (q := 7) hC dX2_dropContext_16 f_X2_15 (zFx_kd hF 5 rfl) rfl 1 rfl (zFx_rf hF 5 1 rfl) ?_
            refine j_iload_n hC 1 dX2_dropContext_19 rfl rfl ?_
            refine j_aload_n hC 0 dX2_dropContext_20 rfl rfl ?_
            refine j_iload_n hC 1 dX2_dropContext_21 rfl rfl ?_
            refine j_iconst hC dX2_dropContext_22 ?_
            refine j_iadd hC dX2_dropContext_23 ?_
            obtain ⟨r5, hy, h⟩ := zb1_ex h
            refine j_callVr (ci := 2) hC hE lk_X2_52 dX2_dropContext_24 (c_X2_context l hlt g (w (v2 + 1)) (inR_w _) M S hF hy) [.int (zi (v2 + 1))] [.int (zi v2), zr g 7] (zFx_kd hF 5 rfl) ⟨_, rfl, by decide, rfl⟩ rfl (by simp only [zi_w, zl_wl]) rfl (Nat.le_of_ble_eq_true rfl) (Nat.le_of_ble_eq_true rfl) (Nat.le_of_ble_eq_true rfl) (Nat.le_of_ble_eq_true rfl) (Nat.le_of_ble_eq_true rfl) (fun hp6 => ?_)
            obtain ⟨c7, h⟩ := zchk_ex h
            obtain ⟨c8, h⟩ := zchk_ex h
            obtain ⟨S9, eS9, h⟩ := zlet_ex h
            refine j_aast25 (n := 5) hC hE dX2_dropContext_27 (w_id hv2) (zFx_kd hF 7 rfl) (zFx_ln hF 7 rfl) c7.1 c7.2 c8 eS9 ?_
            have hF10 : zFx S9 := zFx_aq hF eS9 rfl
            obtain ⟨x11, ex11, h⟩ := zlet_ex h
            have hx11 : inR x11 := by rw [ex11]; exact inR_w _
            refine j_iinc hC 1 dX2_dropContext_28 rfl ex11 (Nat.le_of_ble_eq_true rfl) rfl ?_
            refine j_goto hC dX2_dropContext_31 rfl ?_
            obtain rfl := Option.some.inj h
            refine j_sub [1, 0] rfl ?_
            exact ih2 x11 hx11 S9 hF10 hT
    exact main zN v2 hv2 S hF hl
  refine j_iload_n hC 1 dX2_dropContext_0 rfl rfl ?_
  refine j_istore_n hC dX2_dropContext_1 rfl (Nat.le_of_ble_eq_true rfl) rfl ?_
  refine j_sub [1, 0] rfl ?_
  exact L_2 v1 hv1 M S hF h
set_option maxHeartbeats 4000000 in
set_option maxRecDepth 100000 in
theorem c_X2_findInsertions (l : Launch) (hlt : l.stackTraces = false) (g : zG) (v1 : Int) (v2 : Nat) (hv1 : inR v1) (M : zM) (S : zS) (hF : zFx S) {r : Int} {M' : zM} (h : F_X2_findInsertions v1 v2 M S = some (r, M')) : zMet l g yX2_findInsertions cX2_findInsertions 9 (some .int) 6 0 0 [zr g 5, .int (zi v1), zr g v2] M S (.inl (some (.int (zi r)))) M' S (inR r) := by
  refine zMet_of (by decide) hlt [(0, zr g 5), (1, .int (zi v1)), (2, zr g v2)] (by simp only [lv_args, zr_cat, zc_i, zc_l, zc_d, zc_r] <;> rfl) (by rw [zsl_len]; simp only [List.map_cons, List.map_nil, zr_cat, zc_i, zc_l, zc_d, zc_r, List.sum_cons, List.sum_nil] <;> decide) (fun K hC hE hN => ?_)
  unfold F_X2_findInsertions at h
  have J_134 : ∀ (v4 : Int) (hv4 : inR v4) (M : zM) (_ : F_X2_findInsertions_J134 v4 M S = some (r, M')), zJ K g 0 0 134 9 [(4, .int (zi v4))] [] M S := by
    intro v4 hv4 M h
    unfold F_X2_findInsertions_J134 at h
    refine j_iload hC 0 dX2_findInsertions_134 rfl ?_
    obtain ⟨e1, e2⟩ := zpr2 (Option.some.inj h)
    exact j_iret hC hE dX2_findInsertions_136 (w_id hv4) (zn_i _) (by rw [← e1]) e2 rfl (by rw [← e1]; exact hv4) (Nat.le_of_ble_eq_true rfl) (Nat.le_of_ble_eq_true rfl)
  have L_11 : ∀ (v1 : Int) (v2 : Nat) (v3 : Int) (v4 : Int) (v5 : Int) (hv1 : inR v1) (hv3 : inR v3) (hv4 : inR v4) (hv5 : inR v5) (M : zM) (_ : F_X2_findInsertions_L11 v1 v2 v3 v4 v5 M S = some (r, M')), zJ K g 0 0 11 9 [(0, zr g 5), (1, .int (zi v1)), (2, zr g v2), (3, .int (zi v3)), (4, .int (zi v4)), (5, .int (zi v5))] [] M S := by
    intro v1 v2 v3 v4 v5 hv1 hv3 hv4 hv5 M h
    unfold F_X2_findInsertions_L11 at h
    obtain ⟨ex11, hl, hd11⟩ := zb1_ex h
    obtain ⟨bd11, ebd⟩ : ∃ f, f = (fun (s : Int × Int × zM) => F_X2_findInsertions_B11 v1 v2 v3 s.1 s.2.1 s.2.2 S) := ⟨_, rfl⟩
    rw [← ebd] at hl
    have main : ∀ (n11 : Nat) (v4 : Int) (v5 : Int) (hv4 : inR v4) (hv5 : inR v5) (M : zM) (_ : zloop bd11 n11 (v4, v5, M) = some ex11), zJ K g 0 0 11 9 [(0, zr g 5), (1, .int (zi v1)), (2, zr g v2), (3, .int (zi v3)), (4, .int (zi v4)), (5, .int (zi v5))] [] M S := by
      intro n11
      induction n11 with
      | zero => intro v4 v5 hv4 hv5 M hl; exact zloop_0 hl
      | succ n11 ih11 =>
        have J_128 : ∀ (v4 : Int) (v5 : Int) (hv4 : inR v4) (hv5 : inR v5) (M : zM) (o : _) (_ : F_X2_findInsertions_J128 v1 v2 v3 v4 v5 M S = some o), zAft (bd11) n11 ex11 o → zJ K g 0 0 128 9 [(0, zr g 5), (1, .int (zi v1)), (2, zr g v2), (3, .int (zi v3)), (4, .int (zi v4)), (5, .int (zi v5))] [] M S := by
          intro v4 v5 hv4 hv5 M o h hT
          unfold F_X2_findInsertions_J128 at h
          obtain ⟨x1, ex1, h⟩ := zlet_ex h
          have hx1 : inR x1 := by rw [ex1]; exact inR_w _
          refine j_iinc hC 5 dX2_findInsertions_128 rfl ex1 (Nat.le_of_ble_eq_true rfl) rfl ?_
          refine j_goto hC dX2_findInsertions_131 rfl ?_
          obtain rfl := Option.some.inj h
          refine j_sub [1, 2, 3, 4, 5, 0] rfl ?_
          exact ih11 v4 x1 hv4 hx1 M hT
        have L_53 : ∀ (v4 : Int) (v5 : Int) (v6 : Nat) (v7 : Int) (hv4 : inR v4) (hv5 : inR v5) (hv7 : inR v7) (M : zM) (o : _) (_ : F_X2_findInsertions_L53 v1 v2 v3 v4 v5 v6 v7 M S = some o), zAft (bd11) n11 ex11 o → zJ K g 0 0 53 9 [(0, zr g 5), (1, .int (zi v1)), (2, zr g v2), (3, .int (zi v3)), (4, .int (zi v4)), (5, .int (zi v5)), (6, zr g v6), (7, .int (zi v7))] [] M S := by
          intro v4 v5 v6 v7 hv4 hv5 hv7 M oh53 h hT53
          unfold F_X2_findInsertions_L53 at h
          obtain ⟨ex53, hl, hd53⟩ := zb1_ex h
          obtain ⟨bd53, ebd⟩ : ∃ f, f = (fun (s : Int × Int × zM) => F_X2_findInsertions_B53 v1 v2 v3 s.1 v5 v6 s.2.1 s.2.2 S) := ⟨_, rfl⟩
          rw [← ebd] at hl
          have main : ∀ (n53 : Nat) (v4 : Int) (v7 : Int) (hv4 : inR v4) (hv7 : inR v7) (M : zM) (_ : zloop bd53 n53 (v4, v7, M) = some ex53), zJ K g 0 0 53 9 [(0, zr g 5), (1, .int (zi v1)), (2, zr g v2), (3, .int (zi v3)), (4, .int (zi v4)), (5, .int (zi v5)), (6, zr g v6), (7, .int (zi v7))] [] M S := by
            intro n53
            induction n53 with
            | zero => intro v4 v7 hv4 hv7 M hl; exact zloop_0 hl
            | succ n53 ih53 =>
              have J_122 : ∀ (v4 : Int) (v7 : Int) (hv4 : inR v4) (hv7 : inR v7) (M : zM) (o : _) (_ : F_X2_findInsertions_J122 v1 v2 v3 v4 v5 v6 v7 M S = some o), zAft (bd53) n53 ex53 o → zJ K g 0 0 122 9 [(0, zr g 5), (1, .int (zi v1)), (2, zr g v2), (3, .int (zi v3)), (4, .int (zi v4)), (5, .int (zi v5)), (6, zr g v6), (7, .int (zi v7))] [] M S := by
                intro v4 v7 hv4 hv7 M o h hT
                unfold F_X2_findInsertions_J122 at h
                obtain ⟨x2, ex2, h⟩ := zlet_ex h
                have hx2 : inR x2 := by rw [ex2]; exact inR_w _
                refine j_iinc (lv1 := [(7, .int (zi x2)), (0, zr g 5), (1, .int (zi v1)), (2, zr g v2), (3, .int (zi v3)), (4, .int (zi v4)), (5, .int (zi v5)), (6, zr g v6)]) hC 7 dX2_findInsertions_122 rfl ex2 (Nat.le_of_ble_eq_true rfl) (by simp only [List.filter_cons, List.filter_nil, zr_cat]; rfl) ?_
                refine j_goto hC dX2_findInsertions_125 rfl ?_
                obtain rfl := Option.some.inj h
                refine j_sub [1, 2, 3, 4, 5, 6, 7, 0] rfl ?_
                exact ih53 v4 x2 hv4 hx2 M hT
              have L_63 : ∀ (v4 : Int) (v7 : Int) (v8 : Int) (hv4 : inR v4) (hv7 : inR v7) (hv8 : inR v8) (M : zM) (o : _) (_ : F_X2_findInsertions_L63 v1 v2 v3 v4 v5 v6 v7 v8 M S = some o), zAft (bd53) n53 ex53 o → zJ K g 0 0 63 9 [(0, zr g 5), (1, .int (zi v1)), (2, zr g v2), (3, .int (zi v3)), (4, .int (zi v4)), (5, .int (zi v5)), (6, zr g v6), (7, .int (zi v7)), (8, .int (zi v8))] [] M S := by
                intro v4 v7 v8 hv4 hv7 hv8 M oh63 h hT63
                unfold F_X2_findInsertions_L63 at h
                obtain ⟨ex63, hl, hd63⟩ := zb1_ex h
                obtain ⟨bd63, ebd⟩ : ∃ f, f = (fun (s : Int × Int × zM) => F_X2_findInsertions_B63 v1 v2 v3 s.1 v5 v6 v7 s.2.1 s.2.2 S) := ⟨_, rfl⟩
                rw [← ebd] at hl
                have main : ∀ (n63 : Nat) (v4 : Int) (v8 : Int) (hv4 : inR v4) (hv8 : inR v8) (M : zM) (_ : zloop bd63 n63 (v4, v8, M) = some ex63), zJ K g 0 0 63 9 [(0, zr g 5), (1, .int (zi v1)), (2, zr g v2), (3, .int (zi v3)), (4, .int (zi v4)), (5, .int (zi v5)), (6, zr g v6), (7, .int (zi v7)), (8, .int (zi v8))] [] M S := by
                  intro n63
                  induction n63 with
                  | zero => intro v4 v8 hv4 hv8 M hl; exact zloop_0 hl
                  | succ n63 ih63 =>
                    have J_116 : ∀ (v4 : Int) (v8 : Int) (hv4 : inR v4) (hv8 : inR v8) (M : zM) (o : _) (_ : F_X2_findInsertions_J116 v1 v2 v3 v4 v5 v6 v7 v8 M S = some o), zAft (bd63) n63 ex63 o → zJ K g 0 0 116 9 [(0, zr g 5), (1, .int (zi v1)), (2, zr g v2), (3, .int (zi v3)), (4, .int (zi v4)), (5, .int (zi v5)), (6, zr g v6), (7, .int (zi v7)), (8, .int (zi v8))] [] M S := by
                      intro v4 v8 hv4 hv8 M o h hT
                      unfold F_X2_findInsertions_J116 at h
                      obtain ⟨x3, ex3, h⟩ := zlet_ex h
                      have hx3 : inR x3 := by rw [ex3]; exact inR_w _
                      refine j_iinc hC 8 dX2_findInsertions_116 rfl ex3 (Nat.le_of_ble_eq_true rfl) rfl ?_
                      refine j_goto hC dX2_findInsertions_119 rfl ?_
                      obtain rfl := Option.some.inj h
                      refine j_sub [1, 2, 3, 4, 5, 6, 7, 8, 0] rfl ?_
                      exact ih63 v4 x3 hv4 hx3 M hT
                    intro v4 v8 hv4 hv8 M hl
                    obtain ⟨o, h, hT⟩ := zloop_ex hl
                    have h : F_X2_findInsertions_B63 v1 v2 v3 v4 v5 v6 v7 v8 M S = some o := by rw [ebd] at h; exact h
                    unfold F_X2_findInsertions_B63 at h
                    refine j_iload hC 8 dX2_findInsertions_63 rfl ?_
                    refine j_iload_n hC 3 dX2_findInsertions_65 rfl rfl ?_
                    refine j_icmp_gt hC dX2_findInsertions_66 rfl (w_id hv8) (w_id hv3) (fun c4 => ?_) (fun c4 => ?_)
                    · have h := zt c4 h
                      obtain rfl := Option.some.inj h
                      have hx63 := hd63
                      rw [← show _ = ex63 from hT] at hx63
                      refine j_sub [0, 1, 2, 3, 4, 5, 6, 7] rfl ?_
                      exact J_122 v4 v7 hv4 hv7 M _ hx63 hT63
                    · have h := zf c4 h
                      refine j_aload hC 6 dX2_findInsertions_69 rfl ?_
                      refine j_aload_n hC 0 dX2_findInsertions_71 rfl rfl ?_
                      refine j_get hC dX2_findInsertions_72 f_X2_19 (zFx_kd hF 5 rfl) rfl 4 rfl (fun hg5 => ?_)
                      refine j_iload_n hC 1 dX2_findInsertions_75 rfl rfl ?_
                      refine j_iload_n hC 3 dX2_findInsertions_76 rfl rfl ?_
                      refine j_iload hC 7 dX2_findInsertions_77 rfl ?_
                      refine j_iload hC 8 dX2_findInsertions_79 rfl ?_
                      obtain ⟨hk, h⟩ := zchk_ex h
                      have hk6 := hk
                      obtain ⟨r7, M8, hy, h⟩ := zb2_ex h
                      refine j_callVi (ci := 0) hC hE lk_X2_65 dX2_findInsertions_81 (c_X0_selects l hlt g v6 (M 5 4) v1 v3 v7 v8 hg5 hv1 hv3 hv7 hv8 M S hF hy) [.int (zi (M 5 4)), .int (zi v1), .int (zi v3), .int (zi v7), .int (zi v8)] [] hk6 ⟨_, rfl, by decide, rfl⟩ rfl rfl rfl (Nat.le_of_ble_eq_true rfl) (Nat.le_of_ble_eq_true rfl) (Nat.le_of_ble_eq_true rfl) (Nat.le_of_ble_eq_true rfl) (Nat.le_of_ble_eq_true rfl) (fun hp9 => ?_)
                      have hr7 := hp9
                      refine j_if_eq hC dX2_findInsertions_84 rfl (w_id hr7) (fun c10 => ?_) (fun c10 => ?_)
                      · have h := zt c10 h
                        exact J_116 v4 v8 hv4 hv8 M8 _ h hT
                      · have h := zf c10 h
                        refine j_aload_n hC 2 dX2_findInsertions_87 rfl rfl ?_
                        refine j_iload hC 4 dX2_findInsertions_88 rfl ?_
                        refine j_aload hC 6 dX2_findInsertions_90 rfl ?_
                        refine j_iload_n hC 1 dX2_findInsertions_92 rfl rfl ?_
                        refine j_iload_n hC 3 dX2_findInsertions_93 rfl rfl ?_
                        refine j_iload hC 7 dX2_findInsertions_94 rfl ?_
                        refine j_iload hC 8 dX2_findInsertions_96 rfl ?_
                        obtain ⟨hk, h⟩ := zchk_ex h
                        have hk11 := hk
                        obtain ⟨r12, hy, h⟩ := zb1_ex h
                        refine j_callVi (ci := 0) hC hE lk_X2_69 dX2_findInsertions_98 (c_X0_putAround l hlt g v6 v1 v3 v7 v8 hv1 hv3 hv7 hv8 M8 S hF hy) [.int (zi v1), .int (zi v3), .int (zi v7), .int (zi v8)] [.int (zi v4), zr g v2] hk11 ⟨_, rfl, by decide, rfl⟩ rfl rfl rfl (Nat.le_of_ble_eq_true rfl) (Nat.le_of_ble_eq_true rfl) (Nat.le_of_ble_eq_true rfl) (Nat.le_of_ble_eq_true rfl) (Nat.le_of_ble_eq_true rfl) (fun hp13 => ?_)
                        have hr12 := hp13
                        refine j_iload hC 5 dX2_findInsertions_101 rfl ?_
                        refine j_iload hC 7 dX2_findInsertions_103 rfl ?_
                        refine j_iload hC 8 dX2_findInsertions_105 rfl ?_
                        obtain ⟨r14, hy, h⟩ := zb1_ex h
                        refine j_callSi hC hE lk_X2_73 dX2_findInsertions_107 (c_X4_of l hlt g r12 v5 v7 v8 hr12 hv5 hv7 hv8 M8 S hy) [.int (zi r12), .int (zi v5), .int (zi v7), .int (zi v8)] [.int (zi v4), zr g v2] rfl rfl rfl (Nat.le_of_ble_eq_true rfl) (Nat.le_of_ble_eq_true rfl) (Nat.le_of_ble_eq_true rfl) (Nat.le_of_ble_eq_true rfl) (Nat.le_of_ble_eq_true rfl) (fun hp15 => ?_)
                        have hr14 := hp15
                        obtain ⟨M16, hy, h⟩ := zb1_ex h
                        refine j_callSv hC hE lk_X2_48 dX2_findInsertions_110 (c_X6_put l hlt g v2 v4 r14 hv4 hr14 M8 S hF hy) [zr g v2, .int (zi v4), .int (zi r14)] [] rfl rfl rfl (Nat.le_of_ble_eq_true rfl) (Nat.le_of_ble_eq_true rfl) (Nat.le_of_ble_eq_true rfl) (Nat.le_of_ble_eq_true rfl) (Nat.le_of_ble_eq_true rfl) (fun hp17 => ?_)
                        obtain ⟨x18, ex18, h⟩ := zlet_ex h
                        have hx18 : inR x18 := by rw [ex18]; exact inR_w _
                        refine j_iinc hC 4 dX2_findInsertions_113 rfl ex18 (Nat.le_of_ble_eq_true rfl) rfl ?_
                        refine j_sub [1, 2, 3, 4, 0, 5, 6, 7, 8] rfl ?_
                        exact J_116 x18 v8 hx18 hv8 M16 _ h hT
                exact main zN v4 v8 hv4 hv8 M hl
              intro v4 v7 hv4 hv7 M hl
              obtain ⟨o, h, hT⟩ := zloop_ex hl
              have h : F_X2_findInsertions_B53 v1 v2 v3 v4 v5 v6 v7 M S = some o := by rw [ebd] at h; exact h
              unfold F_X2_findInsertions_B53 at h
              refine j_iload hC 7 dX2_findInsertions_53 rfl ?_
              refine j_iload_n hC 3 dX2_findInsertions_55 rfl rfl ?_
              refine j_icmp_gt hC dX2_findInsertions_56 rfl (w_id hv7) (w_id hv3) (fun c19 => ?_) (fun c19 => ?_)
              · have h := zt c19 h
                obtain rfl := Option.some.inj h
                have hx53 := hd53
                rw [← show _ = ex53 from hT] at hx53
                refine j_sub [0, 1, 2, 3, 4, 5] rfl ?_
                exact J_128 v4 v5 hv4 hv5 M _ hx53 hT53
              · have h := zf c19 h
                refine j_iload hC 7 dX2_findInsertions_59 rfl ?_
                refine j_istore hC dX2_findInsertions_61 (Nat.le_of_ble_eq_true rfl) rfl ?_
                refine j_sub [1, 2, 3, 4, 5, 6, 7, 8, 0] rfl ?_
                exact L_63 v4 v7 v7 hv4 hv7 hv7 M _ h hT
          exact main zN v4 v7 hv4 hv7 M hl
        intro v4 v5 hv4 hv5 M hl
        obtain ⟨o, h, hT⟩ := zloop_ex hl
        have h : F_X2_findInsertions_B11 v1 v2 v3 v4 v5 M S = some o := by rw [ebd] at h; exact h
        unfold F_X2_findInsertions_B11 at h
        refine j_iload hC 5 dX2_findInsertions_11 rfl ?_
        refine j_aload_n hC 0 dX2_findInsertions_13 rfl rfl ?_
        refine j_get hC dX2_findInsertions_14 f_X2_35 (zFx_kd hF 5 rfl) rfl 3 rfl (fun hg20 => ?_)
        refine j_icmp_ge hC dX2_findInsertions_17 rfl (w_id hv5) (w_id hg20) (fun c21 => ?_) (fun c21 => ?_)
        · have h := zf c21 h
          obtain rfl := Option.some.inj h
          have hx11 := hd11
          rw [← show _ = ex11 from hT] at hx11
          refine j_sub [4] rfl ?_
          exact J_134 v4 hv4 M hx11
        · have h := zt c21 h
          refine j_aload_n hC 0 dX2_findInsertions_20 rfl rfl ?_
          refine j_iload hC 5 dX2_findInsertions_21 rfl ?_
          obtain ⟨r22, hy, h⟩ := zb1_ex h
          refine j_callVr (ci := 2) hC hE lk_X2_52 dX2_findInsertions_23 (c_X2_context l hlt g v5 hv5 M S hF hy) [.int (zi v5)] [] (zFx_kd hF 5 rfl) ⟨_, rfl, by decide, rfl⟩ rfl rfl rfl (Nat.le_of_ble_eq_true rfl) (Nat.le_of_ble_eq_true rfl) (Nat.le_of_ble_eq_true rfl) (Nat.le_of_ble_eq_true rfl) (Nat.le_of_ble_eq_true rfl) (fun hp23 => ?_)
          refine j_astore hC dX2_findInsertions_26 (Nat.le_of_ble_eq_true rfl) rfl ?_
          refine j_aload hC 0 dX2_findInsertions_28 rfl ?_
          refine j_ifnull hC dX2_findInsertions_30 rfl (fun c24 => ?_) (fun c24 => ?_)
          · have h := zt c24 h
            refine j_sub [1, 2, 3, 4, 5, 6] rfl ?_
            exact J_128 v4 v5 hv4 hv5 M _ h hT
          · have h := zf c24 h
            refine j_iload_n hC 4 dX2_findInsertions_33 rfl rfl ?_
            refine j_aload hC 0 dX2_findInsertions_34 rfl ?_
            obtain ⟨hk, h⟩ := zchk_ex h
            have hk25 := hk
            obtain ⟨r26, hy, h⟩ := zb1_ex h
            refine j_callVi (ci := 0) hC hE lk_X2_61 dX2_findInsertions_36 (c_X0_growth l hlt g r22 M S hF hy) [] [.int (zi v3)] hk25 ⟨_, rfl, by decide, rfl⟩ rfl rfl rfl (Nat.le_of_ble_eq_true rfl) (Nat.le_of_ble_eq_true rfl) (Nat.le_of_ble_eq_true rfl) (Nat.le_of_ble_eq_true rfl) (Nat.le_of_ble_eq_true rfl) (fun hp27 => ?_)
            have hr26 := hp27
            refine j_iadd hC dX2_findInsertions_39 ?_
            refine j_aload_n hC 1 dX2_findInsertions_40 rfl rfl ?_
            refine j_get hC dX2_findInsertions_41 f_X2_23 (zFx_kd hF 5 rfl) rfl 5 rfl (fun hg28 => ?_)
            refine j_icmp_le hC dX2_findInsertions_44 rfl rfl (w_id hg28) (fun c29 => ?_) (fun c29 => ?_)
            · have h := zf c29 h
              refine j_iconst hC dX2_findInsertions_50 ?_
              refine j_istore (lv1 := [(7, .int (zi 0)), (6, zr g r22), (0, zr g 5), (1, .int (zi v1)), (2, zr g v2), (3, .int (zi v3)), (4, .int (zi v4)), (5, .int (zi v5))]) hC dX2_findInsertions_51 (Nat.le_of_ble_eq_true rfl) (by simp only [List.filter_cons, List.filter_nil, zr_cat]; rfl) ?_
              refine j_sub [2, 3, 4, 5, 6, 7, 1, 0] rfl ?_
              exact L_53 v4 v5 r22 0 hv4 hv5 kR_0 M _ h hT
            · have h := zt c29 h
              refine j_goto hC dX2_findInsertions_47 rfl ?_
              refine j_sub [1, 2, 3, 4, 5, 6] rfl ?_
              exact J_128 v4 v5 hv4 hv5 M _ h hT
    exact main zN v4 v5 hv4 hv5 M hl
  refine j_iload_n hC 1 dX2_findInsertions_0 rfl rfl ?_
  obtain ⟨r30, hy, h⟩ := zb1_ex h
  refine j_callSi hC hE lk_X2_56 dX2_findInsertions_1 (c_X9_length l hlt g v1 hv1 M S hy) [.int (zi v1)] [] rfl rfl rfl (Nat.le_of_ble_eq_true rfl) (Nat.le_of_ble_eq_true rfl) (Nat.le_of_ble_eq_true rfl) (Nat.le_of_ble_eq_true rfl) (Nat.le_of_ble_eq_true rfl) (fun hp31 => ?_)
  have hr30 := hp31
  refine j_istore_n (lv1 := [(3, .int (zi r30)), (0, zr g 5), (1, .int (zi v1)), (2, zr g v2)]) hC dX2_findInsertions_4 rfl (Nat.le_of_ble_eq_true rfl) (by simp only [List.filter_cons, List.filter_nil, zr_cat]; rfl) ?_
  refine j_iconst hC dX2_findInsertions_5 ?_
  refine j_istore hC dX2_findInsertions_6 (Nat.le_of_ble_eq_true rfl) rfl ?_
  refine j_iconst hC dX2_findInsertions_8 ?_
  refine j_istore hC dX2_findInsertions_9 (Nat.le_of_ble_eq_true rfl) rfl ?_
  refine j_sub [3, 4, 5, 2, 1, 0] rfl ?_
  exact L_11 v1 v2 r30 0 0 hv1 hr30 kR_0 kR_0 M h
set_option maxHeartbeats 4000000 in
set_option maxRecDepth 100000 in
theorem c_X2_findReductions (l : Launch) (hlt : l.stackTraces = false) (g : zG) (v1 : Int) (v2 : Nat) (hv1 : inR v1) (M : zM) (S : zS) (hF : zFx S) {r : Int} {M' : zM} (h : F_X2_findReductions v1 v2 M S = some (r, M')) : zMet l g yX2_findReductions cX2_findReductions 11 (some .int) 6 0 0 [zr g 5, .int (zi v1), zr g v2] M S (.inl (some (.int (zi r)))) M' S (inR r) := by
  refine zMet_of (by decide) hlt [(0, zr g 5), (1, .int (zi v1)), (2, zr g v2)] (by simp only [lv_args, zr_cat, zc_i, zc_l, zc_d, zc_r] <;> rfl) (by rw [zsl_len]; simp only [List.map_cons, List.map_nil, zr_cat, zc_i, zc_l, zc_d, zc_r, List.sum_cons, List.sum_nil] <;> decide) (fun K hC hE hN => ?_)
  unfold F_X2_findReductions at h
  have J_165 : ∀ (v4 : Int) (hv4 : inR v4) (M : zM) (_ : F_X2_findReductions_J165 v4 M S = some (r, M')), zJ K g 0 0 165 11 [(4, .int (zi v4))] [] M S := by
    intro v4 hv4 M h
    unfold F_X2_findReductions_J165 at h
    refine j_iload hC 0 dX2_findReductions_165 rfl ?_
    obtain ⟨e1, e2⟩ := zpr2 (Option.some.inj h)
    exact j_iret hC hE dX2_findReductions_167 (w_id hv4) (zn_i _) (by rw [← e1]) e2 rfl (by rw [← e1]; exact hv4) (Nat.le_of_ble_eq_true rfl) (Nat.le_of_ble_eq_true rfl)
  have L_11 : ∀ (v1 : Int) (v2 : Nat) (v3 : Int) (v4 : Int) (v5 : Int) (hv1 : inR v1) (hv3 : inR v3) (hv4 : inR v4) (hv5 : inR v5) (M : zM) (_ : F_X2_findReductions_L11 v1 v2 v3 v4 v5 M S = some (r, M')), zJ K g 0 0 11 11 [(0, zr g 5), (1, .int (zi v1)), (2, zr g v2), (3, .int (zi v3)), (4, .int (zi v4)), (5, .int (zi v5))] [] M S := by
    intro v1 v2 v3 v4 v5 hv1 hv3 hv4 hv5 M h
    unfold F_X2_findReductions_L11 at h
    obtain ⟨ex11, hl, hd11⟩ := zb1_ex h
    obtain ⟨bd11, ebd⟩ : ∃ f, f = (fun (s : Int × Int × zM) => F_X2_findReductions_B11 v1 v2 v3 s.1 s.2.1 s.2.2 S) := ⟨_, rfl⟩
    rw [← ebd] at hl
    have main : ∀ (n11 : Nat) (v4 : Int) (v5 : Int) (hv4 : inR v4) (hv5 : inR v5) (M : zM) (_ : zloop bd11 n11 (v4, v5, M) = some ex11), zJ K g 0 0 11 11 [(0, zr g 5), (1, .int (zi v1)), (2, zr g v2), (3, .int (zi v3)), (4, .int (zi v4)), (5, .int (zi v5))] [] M S := by
      intro n11
      induction n11 with
      | zero => intro v4 v5 hv4 hv5 M hl; exact zloop_0 hl
      | succ n11 ih11 =>
        have J_159 : ∀ (v4 : Int) (v5 : Int) (hv4 : inR v4) (hv5 : inR v5) (M : zM) (o : _) (_ : F_X2_findReductions_J159 v1 v2 v3 v4 v5 M S = some o), zAft (bd11) n11 ex11 o → zJ K g 0 0 159 11 [(0, zr g 5), (1, .int (zi v1)), (2, zr g v2), (3, .int (zi v3)), (4, .int (zi v4)), (5, .int (zi v5))] [] M S := by
          intro v4 v5 hv4 hv5 M o h hT
          unfold F_X2_findReductions_J159 at h
          obtain ⟨x1, ex1, h⟩ := zlet_ex h
          have hx1 : inR x1 := by rw [ex1]; exact inR_w _
          refine j_iinc hC 5 dX2_findReductions_159 rfl ex1 (Nat.le_of_ble_eq_true rfl) rfl ?_
          refine j_goto hC dX2_findReductions_162 rfl ?_
          obtain rfl := Option.some.inj h
          refine j_sub [1, 2, 3, 4, 5, 0] rfl ?_
          exact ih11 v4 x1 hv4 hx1 M hT
        have L_56 : ∀ (v4 : Int) (v5 : Int) (v6 : Nat) (v7 : Int) (v8 : Int) (hv4 : inR v4) (hv5 : inR v5) (hv7 : inR v7) (hv8 : inR v8) (M : zM) (o : _) (_ : F_X2_findReductions_L56 v1 v2 v3 v4 v5 v6 v7 v8 M S = some o), zAft (bd11) n11 ex11 o → zJ K g 0 0 56 11 [(0, zr g 5), (1, .int (zi v1)), (2, zr g v2), (3, .int (zi v3)), (4, .int (zi v4)), (5, .int (zi v5)), (6, zr g v6), (7, .int (zi v7)), (8, .int (zi v8))] [] M S := by
          intro v4 v5 v6 v7 v8 hv4 hv5 hv7 hv8 M oh56 h hT56
          unfold F_X2_findReductions_L56 at h
          obtain ⟨ex56, hl, hd56⟩ := zb1_ex h
          obtain ⟨bd56, ebd⟩ : ∃ f, f = (fun (s : Int × Int × zM) => F_X2_findReductions_B56 v1 v2 v3 s.1 v5 v6 v7 s.2.1 s.2.2 S) := ⟨_, rfl⟩
          rw [← ebd] at hl
          have main : ∀ (n56 : Nat) (v4 : Int) (v8 : Int) (hv4 : inR v4) (hv8 : inR v8) (M : zM) (_ : zloop bd56 n56 (v4, v8, M) = some ex56), zJ K g 0 0 56 11 [(0, zr g 5), (1, .int (zi v1)), (2, zr g v2), (3, .int (zi v3)), (4, .int (zi v4)), (5, .int (zi v5)), (6, zr g v6), (7, .int (zi v7)), (8, .int (zi v8))] [] M S := by
            intro n56
            induction n56 with
            | zero => intro v4 v8 hv4 hv8 M hl; exact zloop_0 hl
            | succ n56 ih56 =>
              have J_153 : ∀ (v4 : Int) (v8 : Int) (hv4 : inR v4) (hv8 : inR v8) (M : zM) (o : _) (_ : F_X2_findReductions_J153 v1 v2 v3 v4 v5 v6 v7 v8 M S = some o), zAft (bd56) n56 ex56 o → zJ K g 0 0 153 11 [(0, zr g 5), (1, .int (zi v1)), (2, zr g v2), (3, .int (zi v3)), (4, .int (zi v4)), (5, .int (zi v5)), (6, zr g v6), (7, .int (zi v7)), (8, .int (zi v8))] [] M S := by
                intro v4 v8 hv4 hv8 M o h hT
                unfold F_X2_findReductions_J153 at h
                obtain ⟨x2, ex2, h⟩ := zlet_ex h
                have hx2 : inR x2 := by rw [ex2]; exact inR_w _
                refine j_iinc hC 8 dX2_findReductions_153 rfl ex2 (Nat.le_of_ble_eq_true rfl) rfl ?_
                refine j_goto hC dX2_findReductions_156 rfl ?_
                obtain rfl := Option.some.inj h
                refine j_sub [1, 2, 3, 4, 5, 6, 7, 8, 0] rfl ?_
                exact ih56 v4 x2 hv4 hx2 M hT
              have L_82 : ∀ (v4 : Int) (v8 : Int) (v9 : Int) (hv4 : inR v4) (hv8 : inR v8) (hv9 : inR v9) (M : zM) (o : _) (_ : F_X2_findReductions_L82 v1 v2 v3 v4 v5 v6 v7 v8 v9 M S = some o), zAft (bd56) n56 ex56 o → zJ K g 0 0 82 11 [(0, zr g 5), (1, .int (zi v1)), (2, zr g v2), (3, .int (zi v3)), (4, .int (zi v4)), (5, .int (zi v5)), (6, zr g v6), (7, .int (zi v7)), (8, .int (zi v8)), (9, .int (zi v9))] [] M S := by
                intro v4 v8 v9 hv4 hv8 hv9 M oh82 h hT82
                unfold F_X2_findReductions_L82 at h
                obtain ⟨ex82, hl, hd82⟩ := zb1_ex h
                obtain ⟨bd82, ebd⟩ : ∃ f, f = (fun (s : Int × Int × zM) => F_X2_findReductions_B82 v1 v2 v3 s.1 v5 v6 v7 v8 s.2.1 s.2.2 S) := ⟨_, rfl⟩
                rw [← ebd] at hl
                have main : ∀ (n82 : Nat) (v4 : Int) (v9 : Int) (hv4 : inR v4) (hv9 : inR v9) (M : zM) (_ : zloop bd82 n82 (v4, v9, M) = some ex82), zJ K g 0 0 82 11 [(0, zr g 5), (1, .int (zi v1)), (2, zr g v2), (3, .int (zi v3)), (4, .int (zi v4)), (5, .int (zi v5)), (6, zr g v6), (7, .int (zi v7)), (8, .int (zi v8)), (9, .int (zi v9))] [] M S := by
                  intro n82
                  induction n82 with
                  | zero => intro v4 v9 hv4 hv9 M hl; exact zloop_0 hl
                  | succ n82 ih82 =>
                    have J_147 : ∀ (v4 : Int) (v9 : Int) (hv4 : inR v4) (hv9 : inR v9) (M : zM) (o : _) (_ : F_X2_findReductions_J147 v1 v2 v3 v4 v5 v6 v7 v8 v9 M S = some o), zAft (bd82) n82 ex82 o → zJ K g 0 0 147 11 [(0, zr g 5), (1, .int (zi v1)), (2, zr g v2), (3, .int (zi v3)), (4, .int (zi v4)), (5, .int (zi v5)), (6, zr g v6), (7, .int (zi v7)), (8, .int (zi v8)), (9, .int (zi v9))] [] M S := by
                      intro v4 v9 hv4 hv9 M o h hT
                      unfold F_X2_findReductions_J147 at h
                      obtain ⟨x3, ex3, h⟩ := zlet_ex h
                      have hx3 : inR x3 := by rw [ex3]; exact inR_w _
                      refine j_iinc hC 9 dX2_findReductions_147 rfl ex3 (Nat.le_of_ble_eq_true rfl) rfl ?_
                      refine j_goto hC dX2_findReductions_150 rfl ?_
                      obtain rfl := Option.some.inj h
                      refine j_sub [1, 2, 3, 4, 5, 6, 7, 8, 9, 0] rfl ?_
                      exact ih82 v4 x3 hv4 hx3 M hT
                    intro v4 v9 hv4 hv9 M hl
                    obtain ⟨o, h, hT⟩ := zloop_ex hl
                    have h : F_X2_findReductions_B82 v1 v2 v3 v4 v5 v6 v7 v8 v9 M S = some o := by rw [ebd] at h; exact h
                    unfold F_X2_findReductions_B82 at h
                    refine j_iload hC 9 dX2_findReductions_82 rfl ?_
                    refine j_iload hC 7 dX2_findReductions_84 rfl ?_
                    refine j_icmp_gt hC dX2_findReductions_86 rfl (w_id hv9) (w_id hv7) (fun c4 => ?_) (fun c4 => ?_)
                    · have h := zt c4 h
                      obtain rfl := Option.some.inj h
                      have hx82 := hd82
                      rw [← show _ = ex82 from hT] at hx82
                      refine j_sub [0, 1, 2, 3, 4, 5, 6, 7, 8] rfl ?_
                      exact J_153 v4 v8 hv4 hv8 M _ hx82 hT82
                    · have h := zf c4 h
                      refine j_aload hC 6 dX2_findReductions_89 rfl ?_
                      refine j_iload_n hC 1 dX2_findReductions_91 rfl rfl ?_
                      refine j_iload_n hC 3 dX2_findReductions_92 rfl rfl ?_
                      refine j_iload hC 8 dX2_findReductions_93 rfl ?_
                      refine j_iload hC 9 dX2_findReductions_95 rfl ?_
                      obtain ⟨hk, h⟩ := zchk_ex h
                      have hk5 := hk
                      obtain ⟨r6, hy, h⟩ := zb1_ex h
                      refine j_callVi (ci := 0) hC hE lk_X2_82 dX2_findReductions_97 (c_X0_takeAway l hlt g v6 v1 v3 v8 v9 hv1 hv3 hv8 hv9 M S hF hy) [.int (zi v1), .int (zi v3), .int (zi v8), .int (zi v9)] [] hk5 ⟨_, rfl, by decide, rfl⟩ rfl rfl rfl (Nat.le_of_ble_eq_true rfl) (Nat.le_of_ble_eq_true rfl) (Nat.le_of_ble_eq_true rfl) (Nat.le_of_ble_eq_true rfl) (Nat.le_of_ble_eq_true rfl) (fun hp7 => ?_)
                      have hr6 := hp7
                      refine j_istore hC dX2_findReductions_100 (Nat.le_of_ble_eq_true rfl) rfl ?_
                      refine j_iload hC 0 dX2_findReductions_102 rfl ?_
                      refine j_if_lt hC dX2_findReductions_104 rfl (w_id hr6) (fun c8 => ?_) (fun c8 => ?_)
                      · have h := zt c8 h
                        refine j_sub [1, 2, 3, 4, 5, 6, 7, 8, 9, 10] rfl ?_
                        exact J_147 v4 v9 hv4 hv9 M _ h hT
                      · have h := zf c8 h
                        refine j_aload hC 7 dX2_findReductions_107 rfl ?_
                        refine j_aload_n hC 1 dX2_findReductions_109 rfl rfl ?_
                        refine j_get hC dX2_findReductions_110 f_X2_19 (zFx_kd hF 5 rfl) rfl 4 rfl (fun hg9 => ?_)
                        refine j_iload hC 0 dX2_findReductions_113 rfl ?_
                        refine j_iload hC 8 dX2_findReductions_115 rfl ?_
                        refine j_iload hC 9 dX2_findReductions_117 rfl ?_
                        refine j_iload hC 10 dX2_findReductions_119 rfl ?_
                        obtain ⟨hk, h⟩ := zchk_ex h
                        have hk10 := hk
                        obtain ⟨r11, M12, hy, h⟩ := zb2_ex h
                        refine j_callVi (ci := 0) hC hE lk_X2_65 dX2_findReductions_121 (c_X0_selects l hlt g v6 (M 5 4) r6 v7 v8 v9 hg9 hr6 hv7 hv8 hv9 M S hF hy) [.int (zi (M 5 4)), .int (zi r6), .int (zi v7), .int (zi v8), .int (zi v9)] [] hk10 ⟨_, rfl, by decide, rfl⟩ rfl rfl rfl (Nat.le_of_ble_eq_true rfl) (Nat.le_of_ble_eq_true rfl) (Nat.le_of_ble_eq_true rfl) (Nat.le_of_ble_eq_true rfl) (Nat.le_of_ble_eq_true rfl) (fun hp13 => ?_)
                        have hr11 := hp13
                        refine j_if_eq hC dX2_findReductions_124 rfl (w_id hr11) (fun c14 => ?_) (fun c14 => ?_)
                        · have h := zt c14 h
                          refine j_sub [1, 2, 3, 4, 5, 6, 7, 8, 9, 10] rfl ?_
                          exact J_147 v4 v9 hv4 hv9 M12 _ h hT
                        · have h := zf c14 h
                          refine j_aload_n hC 3 dX2_findReductions_127 rfl rfl ?_
                          refine j_iload hC 5 dX2_findReductions_128 rfl ?_
                          refine j_iload hC 0 dX2_findReductions_130 rfl ?_
                          refine j_iload hC 6 dX2_findReductions_132 rfl ?_
                          refine j_iload hC 9 dX2_findReductions_134 rfl ?_
                          refine j_iload hC 10 dX2_findReductions_136 rfl ?_
                          obtain ⟨r15, hy, h⟩ := zb1_ex h
                          refine j_callSi hC hE lk_X2_73 dX2_findReductions_138 (c_X4_of l hlt g r6 v5 v8 v9 hr6 hv5 hv8 hv9 M12 S hy) [.int (zi r6), .int (zi v5), .int (zi v8), .int (zi v9)] [.int (zi v4), zr g v2] rfl rfl rfl (Nat.le_of_ble_eq_true rfl) (Nat.le_of_ble_eq_true rfl) (Nat.le_of_ble_eq_true rfl) (Nat.le_of_ble_eq_true rfl) (Nat.le_of_ble_eq_true rfl) (fun hp16 => ?_)
                          have hr15 := hp16
                          obtain ⟨M17, hy, h⟩ := zb1_ex h
                          refine j_callSv hC hE lk_X2_48 dX2_findReductions_141 (c_X6_put l hlt g v2 v4 r15 hv4 hr15 M12 S hF hy) [zr g v2, .int (zi v4), .int (zi r15)] [] rfl rfl rfl (Nat.le_of_ble_eq_true rfl) (Nat.le_of_ble_eq_true rfl) (Nat.le_of_ble_eq_true rfl) (Nat.le_of_ble_eq_true rfl) (Nat.le_of_ble_eq_true rfl) (fun hp18 => ?_)
                          obtain ⟨x19, ex19, h⟩ := zlet_ex h
                          have hx19 : inR x19 := by rw [ex19]; exact inR_w _
                          refine j_iinc hC 5 dX2_findReductions_144 rfl ex19 (Nat.le_of_ble_eq_true rfl) rfl ?_
                          refine j_sub [2, 3, 4, 5, 0, 6, 7, 8, 9, 10] rfl ?_
                          exact J_147 x19 v9 hx19 hv9 M17 _ h hT
                exact main zN v4 v9 hv4 hv9 M hl
              intro v4 v8 hv4 hv8 M hl
              obtain ⟨o, h, hT⟩ := zloop_ex hl
              have h : F_X2_findReductions_B56 v1 v2 v3 v4 v5 v6 v7 v8 M S = some o := by rw [ebd] at h; exact h
              unfold F_X2_findReductions_B56 at h
              refine j_iload hC 8 dX2_findReductions_56 rfl ?_
              refine j_iload hC 7 dX2_findReductions_58 rfl ?_
              refine j_icmp_gt hC dX2_findReductions_60 rfl (w_id hv8) (w_id hv7) (fun c20 => ?_) (fun c20 => ?_)
              · have h := zt c20 h
                obtain rfl := Option.some.inj h
                have hx56 := hd56
                rw [← show _ = ex56 from hT] at hx56
                refine j_sub [0, 1, 2, 3, 4, 5] rfl ?_
                exact J_159 v4 v5 hv4 hv5 M _ hx56 hT56
              · have h := zf c20 h
                refine j_aload hC 6 dX2_findReductions_63 rfl ?_
                refine j_iload_n hC 1 dX2_findReductions_65 rfl rfl ?_
                refine j_iload_n hC 3 dX2_findReductions_66 rfl rfl ?_
                refine j_iload hC 8 dX2_findReductions_67 rfl ?_
                obtain ⟨hk, h⟩ := zchk_ex h
                have hk21 := hk
                obtain ⟨r22, hy, h⟩ := zb1_ex h
                refine j_callVi (ci := 0) hC hE lk_X2_78 dX2_findReductions_69 (c_X0_leftStandsAt l hlt g v6 v1 v3 v8 hv1 hv3 hv8 M S hF hy) [.int (zi v1), .int (zi v3), .int (zi v8)] [] hk21 ⟨_, rfl, by decide, rfl⟩ rfl rfl rfl (Nat.le_of_ble_eq_true rfl) (Nat.le_of_ble_eq_true rfl) (Nat.le_of_ble_eq_true rfl) (Nat.le_of_ble_eq_true rfl) (Nat.le_of_ble_eq_true rfl) (fun hp23 => ?_)
                have hr22 := hp23
                refine j_if_ne hC dX2_findReductions_72 rfl (w_id hr22) (fun c24 => ?_) (fun c24 => ?_)
                · have h := zf c24 h
                  refine j_iload hC 8 dX2_findReductions_78 rfl ?_
                  refine j_istore hC dX2_findReductions_80 (Nat.le_of_ble_eq_true rfl) rfl ?_
                  refine j_sub [1, 2, 3, 4, 5, 6, 7, 8, 9, 0] rfl ?_
                  exact L_82 v4 v8 v8 hv4 hv8 hv8 M _ h hT
                · have h := zt c24 h
                  refine j_goto hC dX2_findReductions_75 rfl ?_
                  exact J_153 v4 v8 hv4 hv8 M _ h hT
          exact main zN v4 v8 hv4 hv8 M hl
        intro v4 v5 hv4 hv5 M hl
        obtain ⟨o, h, hT⟩ := zloop_ex hl
        have h : F_X2_findReductions_B11 v1 v2 v3 v4 v5 M S = some o := by rw [ebd] at h; exact h
        unfold F_X2_findReductions_B11 at h
        refine j_iload hC 5 dX2_findReductions_11 rfl ?_
        refine j_aload_n hC 0 dX2_findReductions_13 rfl rfl ?_
        refine j_get hC dX2_findReductions_14 f_X2_35 (zFx_kd hF 5 rfl) rfl 3 rfl (fun hg25 => ?_)
        refine j_icmp_ge hC dX2_findReductions_17 rfl (w_id hv5) (w_id hg25) (fun c26 => ?_) (fun c26 => ?_)
        · have h := zf c26 h
          obtain rfl := Option.some.inj h
          have hx11 := hd11
          rw [← show _ = ex11 from hT] at hx11
          refine j_sub [4] rfl ?_
          exact J_165 v4 hv4 M hx11
        · have h := zt c26 h
          refine j_iload_n hC 3 dX2_findReductions_20 rfl rfl ?_
          refine j_aload_n hC 0 dX2_findReductions_21 rfl rfl ?_
          refine j_get hC dX2_findReductions_22 f_X2_23 (zFx_kd hF 5 rfl) rfl 5 rfl (fun hg27 => ?_)
          refine j_icmp_gt hC dX2_findReductions_25 rfl (w_id hv3) (w_id hg27) (fun c28 => ?_) (fun c28 => ?_)
          · have h := zt c28 h
            obtain rfl := Option.some.inj h
            have hx11 := hd11
            rw [← show _ = ex11 from hT] at hx11
            refine j_sub [4] rfl ?_
            exact J_165 v4 hv4 M hx11
          · have h := zf c28 h
            refine j_aload_n hC 0 dX2_findReductions_28 rfl rfl ?_
            refine j_iload hC 5 dX2_findReductions_29 rfl ?_
            obtain ⟨r29, hy, h⟩ := zb1_ex h
            refine j_callVr (ci := 2) hC hE lk_X2_52 dX2_findReductions_31 (c_X2_context l hlt g v5 hv5 M S hF hy) [.int (zi v5)] [] (zFx_kd hF 5 rfl) ⟨_, rfl, by decide, rfl⟩ rfl rfl rfl (Nat.le_of_ble_eq_true rfl) (Nat.le_of_ble_eq_true rfl) (Nat.le_of_ble_eq_true rfl) (Nat.le_of_ble_eq_true rfl) (Nat.le_of_ble_eq_true rfl) (fun hp30 => ?_)
            refine j_astore hC dX2_findReductions_34 (Nat.le_of_ble_eq_true rfl) rfl ?_
            refine j_aload hC 0 dX2_findReductions_36 rfl ?_
            refine j_ifnonnull hC dX2_findReductions_38 rfl (fun c31 => ?_) (fun c31 => ?_)
            · have h := zf c31 h
              refine j_iload_n hC 4 dX2_findReductions_44 rfl rfl ?_
              refine j_aload hC 0 dX2_findReductions_45 rfl ?_
              obtain ⟨hk, h⟩ := zchk_ex h
              have hk32 := hk
              obtain ⟨r33, hy, h⟩ := zb1_ex h
              refine j_callVi (ci := 0) hC hE lk_X2_61 dX2_findReductions_47 (c_X0_growth l hlt g r29 M S hF hy) [] [.int (zi v3)] hk32 ⟨_, rfl, by decide, rfl⟩ rfl rfl rfl (Nat.le_of_ble_eq_true rfl) (Nat.le_of_ble_eq_true rfl) (Nat.le_of_ble_eq_true rfl) (Nat.le_of_ble_eq_true rfl) (Nat.le_of_ble_eq_true rfl) (fun hp34 => ?_)
              have hr33 := hp34
              refine j_isub hC dX2_findReductions_50 ?_
              obtain ⟨x35, ex35, h⟩ := zlet_ex h
              have hx35 : inR x35 := by rw [ex35]; exact inR_w _
              refine j_namei ex35 ?_
              refine j_istore (lv1 := [(7, .int (zi x35)), (6, zr g r29), (0, zr g 5), (1, .int (zi v1)), (2, zr g v2), (3, .int (zi v3)), (4, .int (zi v4)), (5, .int (zi v5))]) hC dX2_findReductions_51 (Nat.le_of_ble_eq_true rfl) (by simp only [List.filter_cons, List.filter_nil, zr_cat]; rfl) ?_
              refine j_iconst hC dX2_findReductions_53 ?_
              refine j_istore hC dX2_findReductions_54 (Nat.le_of_ble_eq_true rfl) rfl ?_
              refine j_sub [3, 4, 5, 6, 7, 8, 2, 1, 0] rfl ?_
              exact L_56 v4 v5 r29 x35 0 hv4 hv5 hx35 kR_0 M _ h hT
            · have h := zt c31 h
              refine j_goto hC dX2_findReductions_41 rfl ?_
              refine j_sub [1, 2, 3, 4, 5, 6] rfl ?_
              exact J_159 v4 v5 hv4 hv5 M _ h hT
    exact main zN v4 v5 hv4 hv5 M hl
  refine j_iload_n hC 1 dX2_findReductions_0 rfl rfl ?_
  obtain ⟨r36, hy, h⟩ := zb1_ex h
  refine j_callSi hC hE lk_X2_56 dX2_findReductions_1 (c_X9_length l hlt g v1 hv1 M S hy) [.int (zi v1)] [] rfl rfl rfl (Nat.le_of_ble_eq_true rfl) (Nat.le_of_ble_eq_true rfl) (Nat.le_of_ble_eq_true rfl) (Nat.le_of_ble_eq_true rfl) (Nat.le_of_ble_eq_true rfl) (fun hp37 => ?_)
  have hr36 := hp37
  refine j_istore_n (lv1 := [(3, .int (zi r36)), (0, zr g 5), (1, .int (zi v1)), (2, zr g v2)]) hC dX2_findReductions_4 rfl (Nat.le_of_ble_eq_true rfl) (by simp only [List.filter_cons, List.filter_nil, zr_cat]; rfl) ?_
  refine j_iconst hC dX2_findReductions_5 ?_
  refine j_istore hC dX2_findReductions_6 (Nat.le_of_ble_eq_true rfl) rfl ?_
  refine j_iconst hC dX2_findReductions_8 ?_
  refine j_istore hC dX2_findReductions_9 (Nat.le_of_ble_eq_true rfl) rfl ?_
  refine j_sub [3, 4, 5, 2, 1, 0] rfl ?_
  exact L_11 v1 v2 r36 0 0 hv1 hr36 kR_0 kR_0 M h
set_option maxHeartbeats 4000000 in
set_option maxRecDepth 100000 in
theorem c_X3_forget (l : Launch) (hlt : l.stackTraces = false) (g : zG) (M : zM) (S : zS) (hF : zFx S) {M' : zM} (h : F_X3_forget M S = some M') : zMet l g yX3_forget cX3_forget 2 none 3 0 0 [zr g 11] M S (.inl none) M' S (True) := by
  refine zMet_of (by decide) hlt [(0, zr g 11)] rfl (Nat.le_of_ble_eq_true rfl) (fun K hC hE hN => ?_)
  unfold F_X3_forget at h
  have J_29 : ∀ (M : zM) (_ : F_X3_forget_J29 M S = some M'), zJ K g 0 0 29 2 [(0, zr g 11)] [] M S := by
    intro M h
    unfold F_X3_forget_J29 at h
    refine j_aload_n hC 0 dX3_forget_29 rfl rfl ?_
    refine j_getq (q := 17) hC dX3_forget_30 f_X3_30 (zFx_kd hF 11 rfl) rfl 5 rfl (zFx_rf hF 11 5 rfl) ?_
    refine j_iconst hC dX3_forget_33 ?_
    obtain ⟨M1, hy, h⟩ := zb1_ex h
    refine j_callSv hC hE lk_X3_115 dX3_forget_34 (c_J7_fill_53178 l hlt g 17 0 kR_0 M S hF hy) [zr g 17, .int (zi 0)] [] rfl rfl rfl (Nat.le_of_ble_eq_true rfl) (Nat.le_of_ble_eq_true rfl) (Nat.le_of_ble_eq_true rfl) (Nat.le_of_ble_eq_true rfl) (Nat.le_of_ble_eq_true rfl) (fun hp2 => ?_)
    refine j_aload_n hC 0 dX3_forget_37 rfl rfl ?_
    refine j_getq (q := 24) hC dX3_forget_38 f_X3_52 (zFx_kd hF 11 rfl) rfl 12 rfl (zFx_rf hF 11 12 rfl) ?_
    refine j_iconst hC dX3_forget_41 ?_
    obtain ⟨M3, hy, h⟩ := zb1_ex h
    refine j_callSv hC hE lk_X3_115 dX3_forget_42 (c_J7_fill_53178 l hlt g 24 0 kR_0 M1 S hF hy) [zr g 24, .int (zi 0)] [] rfl rfl rfl (Nat.le_of_ble_eq_true rfl) (Nat.le_of_ble_eq_true rfl) (Nat.le_of_ble_eq_true rfl) (Nat.le_of_ble_eq_true rfl) (Nat.le_of_ble_eq_true rfl) (fun hp4 => ?_)
    refine j_aload_n hC 0 dX3_forget_45 rfl rfl ?_
    refine j_iconst hC dX3_forget_46 ?_
    obtain ⟨M5, eM5, h⟩ := zlet_ex h
    refine j_put hC dX3_forget_47 f_X3_76 pF_X3 (zFx_kd hF 11 rfl) (Or.inl rfl) rfl 13 rfl (w_id kR_0) kR_0 eM5 ?_
    refine j_aload_n hC 0 dX3_forget_50 rfl rfl ?_
    refine j_iconst hC dX3_forget_51 ?_
    obtain ⟨M6, eM6, h⟩ := zlet_ex h
    refine j_put hC dX3_forget_52 f_X3_93 pF_X3 (zFx_kd hF 11 rfl) (Or.inl rfl) rfl 14 rfl (w_id kR_0) kR_0 eM6 ?_
    refine j_aload_n hC 0 dX3_forget_55 rfl rfl ?_
    refine j_iconst hC dX3_forget_56 ?_
    obtain ⟨M7, eM7, h⟩ := zlet_ex h
    refine j_put hC dX3_forget_57 f_X3_79 pF_X3 (zFx_kd hF 11 rfl) (Or.inr rfl) rfl 15 rfl (w_id kR_0) zb01_0 eM7 ?_
    refine j_aload_n hC 0 dX3_forget_60 rfl rfl ?_
    refine j_iconst hC dX3_forget_61 ?_
    obtain ⟨M8, eM8, h⟩ := zlet_ex h
    refine j_put hC dX3_forget_62 f_X3_121 pF_X3 (zFx_kd hF 11 rfl) (Or.inl rfl) rfl 16 rfl (w_id kR_0) kR_0 eM8 ?_
    refine j_aload_n hC 0 dX3_forget_65 rfl rfl ?_
    refine j_iconst hC dX3_forget_66 ?_
    obtain ⟨M9, eM9, h⟩ := zlet_ex h
    refine j_put hC dX3_forget_67 f_X3_124 pF_X3 (zFx_kd hF 11 rfl) (Or.inl rfl) rfl 17 rfl (w_id kR_m1) kR_m1 eM9 ?_
    have e1 := Option.some.inj h
    exact j_vret hC hE dX3_forget_70 rfl e1 rfl trivial (Nat.le_of_ble_eq_true rfl) (Nat.le_of_ble_eq_true rfl)
  have L_2 : ∀ (v1 : Int) (hv1 : inR v1) (M : zM) (_ : F_X3_forget_L2 v1 M S = some M'), zJ K g 0 0 2 2 [(0, zr g 11), (1, .int (zi v1))] [] M S := by
    intro v1 hv1 M h
    unfold F_X3_forget_L2 at h
    obtain ⟨ex2, hl, hd2⟩ := zb1_ex h
    obtain ⟨bd2, ebd⟩ : ∃ f, f = (fun (s : Int × zM) => F_X3_forget_B2 s.1 s.2 S) := ⟨_, rfl⟩
    rw [← ebd] at hl
    have main : ∀ (n2 : Nat) (v1 : Int) (hv1 : inR v1) (M : zM) (_ : zloop bd2 n2 (v1, M) = some ex2), zJ K g 0 0 2 2 [(0, zr g 11), (1, .int (zi v1))] [] M S := by
      intro n2
      induction n2 with
      | zero => intro v1 hv1 M hl; exact zloop_0 hl
      | succ n2 ih2 =>
        intro v1 hv1 M hl
        obtain ⟨o, h, hT⟩ := zloop_ex hl
        have h : F_X3_forget_B2 v1 M S = some o := by rw [ebd] at h; exact h
        unfold F_X3_forget_B2 at h
        refine j_iload_n hC 1 dX3_forget_2 rfl rfl ?_
        refine j_aload_n hC 0 dX3_forget_3 rfl rfl ?_
        refine j_get hC dX3_forget_4 f_X3_76 (zFx_kd hF 11 rfl) rfl 13 rfl (fun hg10 => ?_)
        refine j_icmp_ge hC dX3_forget_7 rfl (w_id hv1) (w_id hg10) (fun c11 => ?_) (fun c11 => ?_)
        · have h := zf c11 h
          obtain rfl := Option.some.inj h
          have hx2 := hd2
          rw [← show _ = ex2 from hT] at hx2
          refine j_sub [0] rfl ?_
          exact J_29 M hx2
        · have h := zt c11 h
          refine j_aload_n hC 0 dX3_forget_10 rfl rfl ?_
          refine j_getq (q := 13) hC dX3_forget_11 f_X3_15 (zFx_kd hF 11 rfl) rfl 1 rfl (zFx_rf hF 11 1 rfl) ?_
          refine j_aload_n hC 0 dX3_forget_14 rfl rfl ?_
          refine j_iload_n hC 1 dX3_forget_15 rfl rfl ?_
          obtain ⟨r12, hy, h⟩ := zb1_ex h
          refine j_callVi (ci := 3) hC hE lk_X3_83 dX3_forget_16 (c_X3_wordAt l hlt g v1 hv1 M S hF hy) [.int (zi v1)] [zr g 13] (zFx_kd hF 11 rfl) ⟨_, rfl, by decide, rfl⟩ rfl rfl rfl (Nat.le_of_ble_eq_true rfl) (Nat.le_of_ble_eq_true rfl) (Nat.le_of_ble_eq_true rfl) (Nat.le_of_ble_eq_true rfl) (Nat.le_of_ble_eq_true rfl) (fun hp13 => ?_)
          have hr12 := hp13
          refine j_iconst hC dX3_forget_19 ?_
          obtain ⟨M14, hy, h⟩ := zb1_ex h
          refine j_callSv hC hE lk_X3_96 dX3_forget_20 (c_X6_put l hlt g 13 r12 0 hr12 kR_0 M S hF hy) [zr g 13, .int (zi r12), .int (zi 0)] [] rfl rfl rfl (Nat.le_of_ble_eq_true rfl) (Nat.le_of_ble_eq_true rfl) (Nat.le_of_ble_eq_true rfl) (Nat.le_of_ble_eq_true rfl) (Nat.le_of_ble_eq_true rfl) (fun hp15 => ?_)
          obtain ⟨x16, ex16, h⟩ := zlet_ex h
          have hx16 : inR x16 := by rw [ex16]; exact inR_w _
          refine j_iinc hC 1 dX3_forget_23 rfl ex16 (Nat.le_of_ble_eq_true rfl) rfl ?_
          refine j_goto hC dX3_forget_26 rfl ?_
          obtain rfl := Option.some.inj h
          refine j_sub [1, 0] rfl ?_
          exact ih2 x16 hx16 M14 hT
    exact main zN v1 hv1 M hl
  refine j_iconst hC dX3_forget_0 ?_
  refine j_istore_n hC dX3_forget_1 rfl (Nat.le_of_ble_eq_true rfl) rfl ?_
  refine j_sub [1, 0] rfl ?_
  exact L_2 0 kR_0 M h
set_option maxHeartbeats 4000000 in
set_option maxRecDepth 100000 in
theorem c_X5_init (l : Launch) (hlt : l.stackTraces = false) (g : zG) (v0 : Nat) (M : zM) (S : zS) {M' : zM} {S' : zS} (h : F_X5_init v0 M S = some (M', S')) : zMet l g yX5_init cX5_init 1 none 2 14 61820 [zr g v0] M S (.inl none) M' S' (True) := by
  refine zMet_of (by decide) hlt [(0, zr g v0)] (by simp only [lv_args, zr_cat, zc_i, zc_l, zc_d, zc_r] <;> rfl) (by rw [zsl_len]; simp only [List.map_cons, List.map_nil, zr_cat, zc_i, zc_l, zc_d, zc_r, List.sum_cons, List.sum_nil] <;> decide) (fun K hC hE hN => ?_)
  unfold F_X5_init at h
  refine j_aload_n hC 0 dX5_init_0 rfl rfl ?_
  obtain ⟨c1, h⟩ := zchk_ex h
  refine j_objI hC hE dX5_init_1 k270 k121 k122 c1 (Nat.le_of_ble_eq_true rfl) (Nat.le_of_ble_eq_true rfl) ?_
  refine j_aload_n hC 0 dX5_init_4 rfl rfl ?_
  refine j_sipush hC dX5_init_5 rfl ?_
  obtain ⟨q2, eq2, h⟩ := zlet_ex h
  obtain ⟨S3, eS3, h⟩ := zlet_ex h
  refine j_newa20 (N := 512) (mx := 512) hC hE ka_20 dX5_init_8 (w_id kR_512) rfl (Nat.le_of_ble_eq_true rfl) (Nat.le_of_ble_eq_true rfl) eq2 eS3 (Nat.le_of_ble_eq_true rfl) (Nat.le_of_ble_eq_true rfl) ?_
  obtain ⟨hk, h⟩ := zchk_ex h
  have hk4 := hk
  obtain ⟨S5, eS5, h⟩ := zlet_ex h
  refine j_putq hC hE dX5_init_10 f_X5_9 pF_X5 hk4 rfl rfl rfl 0 rfl eS5 ?_
  refine j_aload_n hC 0 dX5_init_13 rfl rfl ?_
  refine j_iconst hC dX5_init_14 ?_
  obtain ⟨hk, h⟩ := zchk_ex h
  have hk6 := hk
  obtain ⟨M7, eM7, h⟩ := zlet_ex h
  refine j_put hC dX5_init_15 f_X5_13 pF_X5 hk6 (Or.inl rfl) rfl 2 rfl (w_id kR_m1) kR_m1 eM7 ?_
  refine j_aload_n hC 0 dX5_init_18 rfl rfl ?_
  refine j_sipush hC dX5_init_19 rfl ?_
  obtain ⟨q8, eq8, h⟩ := zlet_ex h
  obtain ⟨S9, eS9, h⟩ := zlet_ex h
  refine j_newa20 (N := 29524) (mx := 29524) hC hE ka_20 dX5_init_22 (w_id kR_29524) rfl (Nat.le_of_ble_eq_true rfl) (Nat.le_of_ble_eq_true rfl) eq8 eS9 (Nat.le_of_ble_eq_true rfl) (Nat.le_of_ble_eq_true rfl) ?_
  obtain ⟨hk, h⟩ := zchk_ex h
  have hk10 := hk
  obtain ⟨S11, eS11, h⟩ := zlet_ex h
  refine j_putq hC hE dX5_init_24 f_X5_19 pF_X5 hk10 rfl rfl rfl 3 rfl eS11 ?_
  refine j_aload_n hC 0 dX5_init_27 rfl rfl ?_
  refine j_sipush hC dX5_init_28 rfl ?_
  obtain ⟨q12, eq12, h⟩ := zlet_ex h
  obtain ⟨S13, eS13, h⟩ := zlet_ex h
  refine j_newa20 (N := 29524) (mx := 29524) hC hE ka_20 dX5_init_31 (w_id kR_29524) rfl (Nat.le_of_ble_eq_true rfl) (Nat.le_of_ble_eq_true rfl) eq12 eS13 (Nat.le_of_ble_eq_true rfl) (Nat.le_of_ble_eq_true rfl) ?_
  obtain ⟨hk, h⟩ := zchk_ex h
  have hk14 := hk
  obtain ⟨S15, eS15, h⟩ := zlet_ex h
  refine j_putq hC hE dX5_init_33 f_X5_22 pF_X5 hk14 rfl rfl rfl 5 rfl eS15 ?_
  refine j_aload_n hC 0 dX5_init_36 rfl rfl ?_
  refine j_iconst hC dX5_init_37 ?_
  obtain ⟨hk, h⟩ := zchk_ex h
  have hk16 := hk
  obtain ⟨M17, eM17, h⟩ := zlet_ex h
  refine j_put hC dX5_init_38 f_X5_25 pF_X5 hk16 (Or.inl rfl) rfl 6 rfl (w_id kR_0) kR_0 eM17 ?_
  refine j_aload_n hC 0 dX5_init_41 rfl rfl ?_
  refine j_bipush hC dX5_init_42 rfl ?_
  refine j_sipush hC dX5_init_44 rfl ?_
  obtain ⟨q18, eq18, h⟩ := zlet_ex h
  obtain ⟨S19, eS19, h⟩ := zlet_ex h
  refine j_multi (n1 := 10) (n2 := 225) hC hE mu_X5_30 dX5_init_47 (Nat.le_of_ble_eq_true rfl) (Nat.le_of_ble_eq_true rfl) eq18 eS19 (Nat.le_of_ble_eq_true rfl) (Nat.le_of_ble_eq_true rfl) ?_
  obtain ⟨hk, h⟩ := zchk_ex h
  have hk20 := hk
  obtain ⟨S21, eS21, h⟩ := zlet_ex h
  refine j_putq hC hE dX5_init_51 f_X5_32 pF_X5 hk20 rfl rfl rfl 7 rfl eS21 ?_
  obtain ⟨e1, e2⟩ := zpr2 (Option.some.inj h)
  exact j_vret hC hE dX5_init_54 rfl e1 e2 trivial (Nat.le_of_ble_eq_true rfl) (Nat.le_of_ble_eq_true rfl)
