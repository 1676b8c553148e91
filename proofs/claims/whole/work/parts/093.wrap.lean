/-! CERTIFICATES: a program has written them (wip/whole/gen5.py) -/
set_option maxHeartbeats 4000000 in
set_option maxRecDepth 100000 in
theorem c_L_append (l : Launch) (hlt : l.stackTraces = false) (g : zG) (v1 : Int) (hv1 : inR v1) (M : zM) (S : zS) (hF : zFx S) {r : Int} {M' : zM} {S' : zS} (h : F_L_append v1 M S = some (r, M', S')) : zMetH l g yL_append cL_append 3 (some .int) [(0, 5, 8, 13)] 3 1 6 [zr g 1, .int (zi v1)] M S (.inl (some (.int (zi r)))) M' S' (inR r ∧ zFx S') := by
  refine zMetH_of (by decide) hlt [(0, zr g 1), (1, .int (zi v1))] rfl (Nat.le_of_ble_eq_true rfl) (fun K hC hE hTb => ?_)
  unfold F_L_append at h
  refine j_aload_n hC 0 dL_append_0 rfl rfl ?_
  refine j_iload_n hC 1 dL_append_1 rfl rfl ?_
  obtain ⟨r3, M1, S2, hy, hx5, hk6⟩ := zbx_ex h
  refine j_callHVv (ci := 7) hC hE lk_L_7 dL_append_2 (c_X10_append l hlt g v1 hv1 M S hF hy) [.int (zi v1)] [] (zFx_kd hF 1 rfl) ⟨_, rfl, by decide, rfl⟩ rfl rfl rfl (zcat (Nat.le_of_ble_eq_true rfl)) (Nat.le_of_ble_eq_true rfl) (Nat.le_of_ble_eq_true rfl) (Nat.le_of_ble_eq_true rfl) (Nat.le_of_ble_eq_true rfl) (fun e he hp7 => ?_) (fun u4 he hp7 => ?_)
  · have h := hx5 e he
    subst he
    have hF8 := hp7
    by_cases c9 : e = 0
    · have h := zt c9 h
      subst c9
      refine j_catch hC hTb (pre := []) (x := (0, 5, 8, 13)) (suf := []) rfl (fun z hz => by cases hz) (Nat.le_of_ble_eq_true rfl) (Nat.le_of_ble_eq_true rfl) (by decide) cl_L_13 kc_0 (fun qx => ?_)
      refine j_sstore_n hC dL_append_8 rfl (Nat.le_of_ble_eq_true rfl) rfl ?_
      refine j_iconst hC dL_append_9 ?_
      obtain ⟨e1, e2, e3⟩ := zpr3 (Option.some.inj h)
      exact j_iret hC hE dL_append_10 (w_id kR_1) (zn_i _) (by rw [← e1]) e2 e3 ⟨(by rw [← e1]; exact kR_1), (by rw [← e3]; exact hF8)⟩ (Nat.le_of_ble_eq_true rfl) (Nat.le_of_ble_eq_true rfl)
    have h := zf c9 h
    cases h
  · have h := hk6 u4 he
    subst he
    have hF8 := hp7
    refine j_goto hC dL_append_5 rfl ?_
    refine j_iconst hC dL_append_11 ?_
    obtain ⟨e1, e2, e3⟩ := zpr3 (Option.some.inj h)
    exact j_iret hC hE dL_append_12 (w_id kR_0) (zn_i _) (by rw [← e1]) e2 e3 ⟨(by rw [← e1]; exact kR_0), (by rw [← e3]; exact hF8)⟩ (Nat.le_of_ble_eq_true rfl) (Nat.le_of_ble_eq_true rfl)
set_option maxHeartbeats 4000000 in
set_option maxRecDepth 100000 in
theorem c_L_define (l : Launch) (hlt : l.stackTraces = false) (g : zG) (M : zM) (S : zS) (hF : zFx S) {r : Int} {M' : zM} {S' : zS} (h : F_L_define M S = some (r, M', S')) : zMetH l g yL_define cL_define 3 (some .int) [(0, 8, 11, 19), (0, 8, 14, 13)] 47 5 992 [zr g 1, zr g 76] M S (.inl (some (.int (zi r)))) M' S' (inR r ∧ zFx S') := by
  refine zMetH_of (by decide) hlt [(0, zr g 1), (1, zr g 76)] rfl (Nat.le_of_ble_eq_true rfl) (fun K hC hE hTb => ?_)
  unfold F_L_define at h
  refine j_aload_n hC 1 dL_define_0 rfl rfl ?_
  refine j_iconst hC dL_define_1 ?_
  refine j_aload_n hC 0 dL_define_2 rfl rfl ?_
  obtain ⟨r4, M2, S3, hy, hx5, hk6⟩ := zbx_ex h
  refine j_callHVi (ci := 7) hC hE lk_L_15 dL_define_3 (c_X10_define l hlt g M S hF hy) [] [.int (zi 0), zr g 76] (zFx_kd hF 1 rfl) ⟨_, rfl, by decide, rfl⟩ rfl rfl rfl (zcat (Nat.le_of_ble_eq_true rfl)) (Nat.le_of_ble_eq_true rfl) (Nat.le_of_ble_eq_true rfl) (Nat.le_of_ble_eq_true rfl) (Nat.le_of_ble_eq_true rfl) (fun e he hp7 => ?_) (fun r1 he hp7 => ?_)
  · have h := hx5 e he
    subst he
    have hF8 := hp7.2
    by_cases c9 : e = 1
    · have h := zt c9 h
      subst c9
      refine j_catch hC hTb (pre := []) (x := (0, 8, 11, 19)) (suf := [(0, 8, 14, 13)]) rfl (fun z hz => by cases hz) (Nat.le_of_ble_eq_true rfl) (Nat.le_of_ble_eq_true rfl) (by decide) cl_L_19 kc_1 (fun qx => ?_)
      refine j_sstore_n hC dL_define_11 rfl (Nat.le_of_ble_eq_true rfl) rfl ?_
      refine j_iconst hC dL_define_12 ?_
      obtain ⟨e1, e2, e3⟩ := zpr3 (Option.some.inj h)
      exact j_iret hC hE dL_define_13 (w_id kR_1) (zn_i _) (by rw [← e1]) e2 e3 ⟨(by rw [← e1]; exact kR_1), (by rw [← e3]; exact hF8)⟩ (Nat.le_of_ble_eq_true rfl) (Nat.le_of_ble_eq_true rfl)
    have h := zf c9 h
    by_cases c10 : e = 0
    · have h := zt c10 h
      subst c10
      refine j_catch hC hTb (pre := [(0, 8, 11, 19)]) (x := (0, 8, 14, 13)) (suf := []) rfl (List.forall_mem_cons.mpr ⟨⟨by decide, _, cl_L_19, by decide +kernel⟩, (fun z hz => by cases hz)⟩) (Nat.le_of_ble_eq_true rfl) (Nat.le_of_ble_eq_true rfl) (by decide) cl_L_13 kc_0 (fun qx => ?_)
      refine j_sstore_n hC dL_define_14 rfl (Nat.le_of_ble_eq_true rfl) rfl ?_
      refine j_iconst hC dL_define_15 ?_
      obtain ⟨e1, e2, e3⟩ := zpr3 (Option.some.inj h)
      exact j_iret hC hE dL_define_16 (w_id kR_2) (zn_i _) (by rw [← e1]) e2 e3 ⟨(by rw [← e1]; exact kR_2), (by rw [← e3]; exact hF8)⟩ (Nat.le_of_ble_eq_true rfl) (Nat.le_of_ble_eq_true rfl)
    have h := zf c10 h
    cases h
  · have h := hk6 r1 he
    subst he
    dsimp only [zRXi, zRXl] at hp7
    obtain ⟨hr1, hF8⟩ := hp7
    refine j_i2l hC dL_define_6 (w_id hr1) ?_
    obtain ⟨M11, eM11, h⟩ := zlet_ex h
    refine j_last (n := 1) hC dL_define_7 (w_id kR_0) (wl_id (inL_R hr1)) (inL_R hr1) (zFx_kd hF8 76 rfl) (zFx_ln hF8 76 rfl) (by decide) (by decide) eM11 ?_
    refine j_goto hC dL_define_8 rfl ?_
    refine j_iconst hC dL_define_17 ?_
    obtain ⟨e1, e2, e3⟩ := zpr3 (Option.some.inj h)
    exact j_iret hC hE dL_define_18 (w_id kR_0) (zn_i _) (by rw [← e1]) e2 e3 ⟨(by rw [← e1]; exact kR_0), (by rw [← e3]; exact hF8)⟩ (Nat.le_of_ble_eq_true rfl) (Nat.le_of_ble_eq_true rfl)
set_option maxHeartbeats 4000000 in
set_option maxRecDepth 100000 in
theorem c_L_removeAxiom (l : Launch) (hlt : l.stackTraces = false) (g : zG) (v1 : Int) (hv1 : inR v1) (M : zM) (S : zS) (hF : zFx S) {r : Int} {M' : zM} {S' : zS} (h : F_L_removeAxiom v1 M S = some (r, M', S')) : zMetH l g yL_removeAxiom cL_removeAxiom 3 (some .int) [(0, 5, 8, 25)] 5 1 6 [zr g 1, .int (zi v1)] M S (.inl (some (.int (zi r)))) M' S' (inR r ∧ zFx S') := by
  refine zMetH_of (by decide) hlt [(0, zr g 1), (1, .int (zi v1))] rfl (Nat.le_of_ble_eq_true rfl) (fun K hC hE hTb => ?_)
  unfold F_L_removeAxiom at h
  refine j_aload_n hC 0 dL_removeAxiom_0 rfl rfl ?_
  refine j_iload_n hC 1 dL_removeAxiom_1 rfl rfl ?_
  obtain ⟨r3, M1, S2, hy, hx5, hk6⟩ := zbx_ex h
  refine j_callHVv (ci := 7) hC hE lk_L_21 dL_removeAxiom_2 (c_X10_removeAxiom l hlt g v1 hv1 M S hF hy) [.int (zi v1)] [] (zFx_kd hF 1 rfl) ⟨_, rfl, by decide, rfl⟩ rfl rfl rfl (zcat (Nat.le_of_ble_eq_true rfl)) (Nat.le_of_ble_eq_true rfl) (Nat.le_of_ble_eq_true rfl) (Nat.le_of_ble_eq_true rfl) (Nat.le_of_ble_eq_true rfl) (fun e he hp7 => ?_) (fun u4 he hp7 => ?_)
  · have h := hx5 e he
    subst he
    have hF8 := hp7
    by_cases c9 : e = 2
    · have h := zt c9 h
      subst c9
      refine j_catch hC hTb (pre := []) (x := (0, 5, 8, 25)) (suf := []) rfl (fun z hz => by cases hz) (Nat.le_of_ble_eq_true rfl) (Nat.le_of_ble_eq_true rfl) (by decide) cl_L_25 kc_2 (fun qx => ?_)
      refine j_sstore_n hC dL_removeAxiom_8 rfl (Nat.le_of_ble_eq_true rfl) rfl ?_
      refine j_iconst hC dL_removeAxiom_9 ?_
      obtain ⟨e1, e2, e3⟩ := zpr3 (Option.some.inj h)
      exact j_iret hC hE dL_removeAxiom_10 (w_id kR_1) (zn_i _) (by rw [← e1]) e2 e3 ⟨(by rw [← e1]; exact kR_1), (by rw [← e3]; exact hF8)⟩ (Nat.le_of_ble_eq_true rfl) (Nat.le_of_ble_eq_true rfl)
    have h := zf c9 h
    cases h
  · have h := hk6 u4 he
    subst he
    have hF8 := hp7
    refine j_goto hC dL_removeAxiom_5 rfl ?_
    refine j_iconst hC dL_removeAxiom_11 ?_
    obtain ⟨e1, e2, e3⟩ := zpr3 (Option.some.inj h)
    exact j_iret hC hE dL_removeAxiom_12 (w_id kR_0) (zn_i _) (by rw [← e1]) e2 e3 ⟨(by rw [← e1]; exact kR_0), (by rw [← e3]; exact hF8)⟩ (Nat.le_of_ble_eq_true rfl) (Nat.le_of_ble_eq_true rfl)
set_option maxHeartbeats 4000000 in
set_option maxRecDepth 100000 in
theorem c_L_removeContext (l : Launch) (hlt : l.stackTraces = false) (g : zG) (v1 : Int) (hv1 : inR v1) (M : zM) (S : zS) (hF : zFx S) {r : Int} {M' : zM} {S' : zS} (h : F_L_removeContext v1 M S = some (r, M', S')) : zMetH l g yL_removeContext cL_removeContext 3 (some .int) [(0, 5, 8, 25)] 4 1 6 [zr g 1, .int (zi v1)] M S (.inl (some (.int (zi r)))) M' S' (inR r ∧ zFx S') := by
  refine zMetH_of (by decide) hlt [(0, zr g 1), (1, .int (zi v1))] rfl (Nat.le_of_ble_eq_true rfl) (fun K hC hE hTb => ?_)
  unfold F_L_removeContext at h
  refine j_aload_n hC 0 dL_removeContext_0 rfl rfl ?_
  refine j_iload_n hC 1 dL_removeContext_1 rfl rfl ?_
  obtain ⟨r3, M1, S2, hy, hx5, hk6⟩ := zbx_ex h
  refine j_callHVv (ci := 7) hC hE lk_L_27 dL_removeContext_2 (c_X10_removeContext l hlt g v1 hv1 M S hF hy) [.int (zi v1)] [] (zFx_kd hF 1 rfl) ⟨_, rfl, by decide, rfl⟩ rfl rfl rfl (zcat (Nat.le_of_ble_eq_true rfl)) (Nat.le_of_ble_eq_true rfl) (Nat.le_of_ble_eq_true rfl) (Nat.le_of_ble_eq_true rfl) (Nat.le_of_ble_eq_true rfl) (fun e he hp7 => ?_) (fun u4 he hp7 => ?_)
  · have h := hx5 e he
    subst he
    have hF8 := hp7
    by_cases c9 : e = 2
    · have h := zt c9 h
      subst c9
      refine j_catch hC hTb (pre := []) (x := (0, 5, 8, 25)) (suf := []) rfl (fun z hz => by cases hz) (Nat.le_of_ble_eq_true rfl) (Nat.le_of_ble_eq_true rfl) (by decide) cl_L_25 kc_2 (fun qx => ?_)
      refine j_sstore_n hC dL_removeContext_8 rfl (Nat.le_of_ble_eq_true rfl) rfl ?_
      refine j_iconst hC dL_removeContext_9 ?_
      obtain ⟨e1, e2, e3⟩ := zpr3 (Option.some.inj h)
      exact j_iret hC hE dL_removeContext_10 (w_id kR_1) (zn_i _) (by rw [← e1]) e2 e3 ⟨(by rw [← e1]; exact kR_1), (by rw [← e3]; exact hF8)⟩ (Nat.le_of_ble_eq_true rfl) (Nat.le_of_ble_eq_true rfl)
    have h := zf c9 h
    cases h
  · have h := hk6 u4 he
    subst he
    have hF8 := hp7
    refine j_goto hC dL_removeContext_5 rfl ?_
    refine j_iconst hC dL_removeContext_11 ?_
    obtain ⟨e1, e2, e3⟩ := zpr3 (Option.some.inj h)
    exact j_iret hC hE dL_removeContext_12 (w_id kR_0) (zn_i _) (by rw [← e1]) e2 e3 ⟨(by rw [← e1]; exact kR_0), (by rw [← e3]; exact hF8)⟩ (Nat.le_of_ble_eq_true rfl) (Nat.le_of_ble_eq_true rfl)
set_option maxHeartbeats 4000000 in
set_option maxRecDepth 100000 in
theorem c_L_count (l : Launch) (hlt : l.stackTraces = false) (g : zG) (v1 : Int) (hv1 : inR v1) (M : zM) (S : zS) (hF : zFx S) {r : Int} {M' : zM} {S' : zS} (h : F_L_count v1 M S = some (r, M', S')) : zMetH l g yL_count cL_count 4 (some .int) [(0, 9, 12, 19)] 2 1 6 [zr g 1, .int (zi v1), zr g 76] M S (.inl (some (.int (zi r)))) M' S' (inR r ∧ zFx S') := by
  refine zMetH_of (by decide) hlt [(0, zr g 1), (1, .int (zi v1)), (2, zr g 76)] rfl (Nat.le_of_ble_eq_true rfl) (fun K hC hE hTb => ?_)
  unfold F_L_count at h
  refine j_aload_n hC 2 dL_count_0 rfl rfl ?_
  refine j_iconst hC dL_count_1 ?_
  refine j_aload_n hC 0 dL_count_2 rfl rfl ?_
  refine j_iload_n hC 1 dL_count_3 rfl rfl ?_
  obtain ⟨r4, M2, S3, hy, hx5, hk6⟩ := zbx_ex h
  refine j_callHVi (ci := 7) hC hE lk_L_30 dL_count_4 (c_X10_count l hlt g v1 hv1 M S hF hy) [.int (zi v1)] [.int (zi 0), zr g 76] (zFx_kd hF 1 rfl) ⟨_, rfl, by decide, rfl⟩ rfl rfl rfl (zcat (Nat.le_of_ble_eq_true rfl)) (Nat.le_of_ble_eq_true rfl) (Nat.le_of_ble_eq_true rfl) (Nat.le_of_ble_eq_true rfl) (Nat.le_of_ble_eq_true rfl) (fun e he hp7 => ?_) (fun r1 he hp7 => ?_)
  · have h := hx5 e he
    subst he
    have hF8 := hp7.2
    by_cases c9 : e = 1
    · have h := zt c9 h
      subst c9
      refine j_catch hC hTb (pre := []) (x := (0, 9, 12, 19)) (suf := []) rfl (fun z hz => by cases hz) (Nat.le_of_ble_eq_true rfl) (Nat.le_of_ble_eq_true rfl) (by decide) cl_L_19 kc_1 (fun qx => ?_)
      refine j_sstore_n hC dL_count_12 rfl (Nat.le_of_ble_eq_true rfl) rfl ?_
      refine j_iconst hC dL_count_13 ?_
      obtain ⟨e1, e2, e3⟩ := zpr3 (Option.some.inj h)
      exact j_iret hC hE dL_count_14 (w_id kR_1) (zn_i _) (by rw [← e1]) e2 e3 ⟨(by rw [← e1]; exact kR_1), (by rw [← e3]; exact hF8)⟩ (Nat.le_of_ble_eq_true rfl) (Nat.le_of_ble_eq_true rfl)
    have h := zf c9 h
    cases h
  · have h := hk6 r1 he
    subst he
    dsimp only [zRXi, zRXl] at hp7
    obtain ⟨hr1, hF8⟩ := hp7
    refine j_i2l hC dL_count_7 (w_id hr1) ?_
    obtain ⟨M10, eM10, h⟩ := zlet_ex h
    refine j_last (n := 1) hC dL_count_8 (w_id kR_0) (wl_id (inL_R hr1)) (inL_R hr1) (zFx_kd hF8 76 rfl) (zFx_ln hF8 76 rfl) (by decide) (by decide) eM10 ?_
    refine j_goto hC dL_count_9 rfl ?_
    refine j_iconst hC dL_count_15 ?_
    obtain ⟨e1, e2, e3⟩ := zpr3 (Option.some.inj h)
    exact j_iret hC hE dL_count_16 (w_id kR_0) (zn_i _) (by rw [← e1]) e2 e3 ⟨(by rw [← e1]; exact kR_0), (by rw [← e3]; exact hF8)⟩ (Nat.le_of_ble_eq_true rfl) (Nat.le_of_ble_eq_true rfl)
set_option maxHeartbeats 4000000 in
set_option maxRecDepth 100000 in
theorem c_L_size (l : Launch) (hlt : l.stackTraces = false) (g : zG) (M : zM) (S : zS) (hF : zFx S) {r : Int} {M' : zM} {S' : zS} (h : F_L_size M S = some (r, M', S')) : zMetH l g yL_size cL_size 3 (some .int) [(0, 8, 11, 37)] 10 1 6 [zr g 1, zr g 76] M S (.inl (some (.int (zi r)))) M' S' (inR r ∧ zFx S') := by
  refine zMetH_of (by decide) hlt [(0, zr g 1), (1, zr g 76)] rfl (Nat.le_of_ble_eq_true rfl) (fun K hC hE hTb => ?_)
  unfold F_L_size at h
  refine j_aload_n hC 1 dL_size_0 rfl rfl ?_
  refine j_iconst hC dL_size_1 ?_
  refine j_aload_n hC 0 dL_size_2 rfl rfl ?_
  obtain ⟨r4, M2, S3, hy, hx5, hk6⟩ := zbx_ex h
  refine j_callHVi (ci := 7) hC hE lk_L_34 dL_size_3 (c_X10_size l hlt g M S hF hy) [] [.int (zi 0), zr g 76] (zFx_kd hF 1 rfl) ⟨_, rfl, by decide, rfl⟩ rfl rfl rfl (zcat (Nat.le_of_ble_eq_true rfl)) (Nat.le_of_ble_eq_true rfl) (Nat.le_of_ble_eq_true rfl) (Nat.le_of_ble_eq_true rfl) (Nat.le_of_ble_eq_true rfl) (fun e he hp7 => ?_) (fun r1 he hp7 => ?_)
  · have h := hx5 e he
    subst he
    have hF8 := hp7.2
    by_cases c9 : e = 3
    · have h := zt c9 h
      subst c9
      refine j_catch hC hTb (pre := []) (x := (0, 8, 11, 37)) (suf := []) rfl (fun z hz => by cases hz) (Nat.le_of_ble_eq_true rfl) (Nat.le_of_ble_eq_true rfl) (by decide) cl_L_37 kc_3 (fun qx => ?_)
      refine j_sstore_n hC dL_size_11 rfl (Nat.le_of_ble_eq_true rfl) rfl ?_
      refine j_iconst hC dL_size_12 ?_
      obtain ⟨e1, e2, e3⟩ := zpr3 (Option.some.inj h)
      exact j_iret hC hE dL_size_13 (w_id kR_1) (zn_i _) (by rw [← e1]) e2 e3 ⟨(by rw [← e1]; exact kR_1), (by rw [← e3]; exact hF8)⟩ (Nat.le_of_ble_eq_true rfl) (Nat.le_of_ble_eq_true rfl)
    have h := zf c9 h
    cases h
  · have h := hk6 r1 he
    subst he
    dsimp only [zRXi, zRXl] at hp7
    obtain ⟨hr1, hF8⟩ := hp7
    refine j_i2l hC dL_size_6 (w_id hr1) ?_
    obtain ⟨M10, eM10, h⟩ := zlet_ex h
    refine j_last (n := 1) hC dL_size_7 (w_id kR_0) (wl_id (inL_R hr1)) (inL_R hr1) (zFx_kd hF8 76 rfl) (zFx_ln hF8 76 rfl) (by decide) (by decide) eM10 ?_
    refine j_goto hC dL_size_8 rfl ?_
    refine j_iconst hC dL_size_14 ?_
    obtain ⟨e1, e2, e3⟩ := zpr3 (Option.some.inj h)
    exact j_iret hC hE dL_size_15 (w_id kR_0) (zn_i _) (by rw [← e1]) e2 e3 ⟨(by rw [← e1]; exact kR_0), (by rw [← e3]; exact hF8)⟩ (Nat.le_of_ble_eq_true rfl) (Nat.le_of_ble_eq_true rfl)
set_option maxHeartbeats 4000000 in
set_option maxRecDepth 100000 in
theorem c_L_sizeOf (l : Launch) (hlt : l.stackTraces = false) (g : zG) (v1 : Int) (hv1 : inR v1) (M : zM) (S : zS) (hF : zFx S) {r : Int} {M' : zM} {S' : zS} (h : F_L_sizeOf v1 M S = some (r, M', S')) : zMetH l g yL_sizeOf cL_sizeOf 4 (some .int) [(0, 9, 12, 19), (0, 9, 15, 37)] 10 2 12 [zr g 1, .int (zi v1), zr g 76] M S (.inl (some (.int (zi r)))) M' S' (inR r ∧ zFx S') := by
  refine zMetH_of (by decide) hlt [(0, zr g 1), (1, .int (zi v1)), (2, zr g 76)] rfl (Nat.le_of_ble_eq_true rfl) (fun K hC hE hTb => ?_)
  unfold F_L_sizeOf at h
  refine j_aload_n hC 2 dL_sizeOf_0 rfl rfl ?_
  refine j_iconst hC dL_sizeOf_1 ?_
  refine j_aload_n hC 0 dL_sizeOf_2 rfl rfl ?_
  refine j_iload_n hC 1 dL_sizeOf_3 rfl rfl ?_
  obtain ⟨r4, M2, S3, hy, hx5, hk6⟩ := zbx_ex h
  refine j_callHVi (ci := 7) hC hE lk_L_39 dL_sizeOf_4 (c_X10_sizeOf l hlt g v1 hv1 M S hF hy) [.int (zi v1)] [.int (zi 0), zr g 76] (zFx_kd hF 1 rfl) ⟨_, rfl, by decide, rfl⟩ rfl rfl rfl (zcat (Nat.le_of_ble_eq_true rfl)) (Nat.le_of_ble_eq_true rfl) (Nat.le_of_ble_eq_true rfl) (Nat.le_of_ble_eq_true rfl) (Nat.le_of_ble_eq_true rfl) (fun e he hp7 => ?_) (fun r1 he hp7 => ?_)
  · have h := hx5 e he
    subst he
    have hF8 := hp7.2
    by_cases c9 : e = 1
    · have h := zt c9 h
      subst c9
      refine j_catch hC hTb (pre := []) (x := (0, 9, 12, 19)) (suf := [(0, 9, 15, 37)]) rfl (fun z hz => by cases hz) (Nat.le_of_ble_eq_true rfl) (Nat.le_of_ble_eq_true rfl) (by decide) cl_L_19 kc_1 (fun qx => ?_)
      refine j_sstore_n hC dL_sizeOf_12 rfl (Nat.le_of_ble_eq_true rfl) rfl ?_
      refine j_iconst hC dL_sizeOf_13 ?_
      obtain ⟨e1, e2, e3⟩ := zpr3 (Option.some.inj h)
      exact j_iret hC hE dL_sizeOf_14 (w_id kR_1) (zn_i _) (by rw [← e1]) e2 e3 ⟨(by rw [← e1]; exact kR_1), (by rw [← e3]; exact hF8)⟩ (Nat.le_of_ble_eq_true rfl) (Nat.le_of_ble_eq_true rfl)
    have h := zf c9 h
    by_cases c10 : e = 3
    · have h := zt c10 h
      subst c10
      refine j_catch hC hTb (pre := [(0, 9, 12, 19)]) (x := (0, 9, 15, 37)) (suf := []) rfl (List.forall_mem_cons.mpr ⟨⟨by decide, _, cl_L_19, by decide +kernel⟩, (fun z hz => by cases hz)⟩) (Nat.le_of_ble_eq_true rfl) (Nat.le_of_ble_eq_true rfl) (by decide) cl_L_37 kc_3 (fun qx => ?_)
      refine j_sstore_n hC dL_sizeOf_15 rfl (Nat.le_of_ble_eq_true rfl) rfl ?_
      refine j_iconst hC dL_sizeOf_16 ?_
      obtain ⟨e1, e2, e3⟩ := zpr3 (Option.some.inj h)
      exact j_iret hC hE dL_sizeOf_17 (w_id kR_2) (zn_i _) (by rw [← e1]) e2 e3 ⟨(by rw [← e1]; exact kR_2), (by rw [← e3]; exact hF8)⟩ (Nat.le_of_ble_eq_true rfl) (Nat.le_of_ble_eq_true rfl)
    have h := zf c10 h
    cases h
  · have h := hk6 r1 he
    subst he
    dsimp only [zRXi, zRXl] at hp7
    obtain ⟨hr1, hF8⟩ := hp7
    refine j_i2l hC dL_sizeOf_7 (w_id hr1) ?_
    obtain ⟨M11, eM11, h⟩ := zlet_ex h
    refine j_last (n := 1) hC dL_sizeOf_8 (w_id kR_0) (wl_id (inL_R hr1)) (inL_R hr1) (zFx_kd hF8 76 rfl) (zFx_ln hF8 76 rfl) (by decide) (by decide) eM11 ?_
    refine j_goto hC dL_sizeOf_9 rfl ?_
    refine j_iconst hC dL_sizeOf_18 ?_
    obtain ⟨e1, e2, e3⟩ := zpr3 (Option.some.inj h)
    exact j_iret hC hE dL_sizeOf_19 (w_id kR_0) (zn_i _) (by rw [← e1]) e2 e3 ⟨(by rw [← e1]; exact kR_0), (by rw [← e3]; exact hF8)⟩ (Nat.le_of_ble_eq_true rfl) (Nat.le_of_ble_eq_true rfl)
set_option maxHeartbeats 4000000 in
set_option maxRecDepth 100000 in
theorem c_L_density (l : Launch) (hlt : l.stackTraces = false) (g : zG) (v1 : Int) (hv1 : inR v1) (M : zM) (S : zS) (hF : zFx S) {r : Int} {M' : zM} {S' : zS} (h : F_L_density v1 M S = some (r, M', S')) : zMetH l g yL_density cL_density 4 (some .int) [(0, 8, 11, 19), (0, 8, 14, 37)] 10 2 12 [zr g 1, .int (zi v1), zr g 77] M S (.inl (some (.int (zi r)))) M' S' (inR r ∧ zFx S') := by
  refine zMetH_of (by decide) hlt [(0, zr g 1), (1, .int (zi v1)), (2, zr g 77)] rfl (Nat.le_of_ble_eq_true rfl) (fun K hC hE hTb => ?_)
  unfold F_L_density at h
  refine j_aload_n hC 2 dL_density_0 rfl rfl ?_
  refine j_iconst hC dL_density_1 ?_
  refine j_aload_n hC 0 dL_density_2 rfl rfl ?_
  refine j_iload_n hC 1 dL_density_3 rfl rfl ?_
  obtain ⟨r4, M2, S3, hy, hx5, hk6⟩ := zbx_ex h
  refine j_callHVd (ci := 7) hC hE lk_L_42 dL_density_4 (c_X10_density l hlt g v1 hv1 M S hF hy) [.int (zi v1)] [.int (zi 0), zr g 77] (zFx_kd hF 1 rfl) ⟨_, rfl, by decide, rfl⟩ rfl rfl rfl (zcat (Nat.le_of_ble_eq_true rfl)) (Nat.le_of_ble_eq_true rfl) (Nat.le_of_ble_eq_true rfl) (Nat.le_of_ble_eq_true rfl) (Nat.le_of_ble_eq_true rfl) (fun e he hp7 => ?_) (fun r1 he hp7 => ?_)
  · have h := hx5 e he
    subst he
    have hF8 := hp7
    by_cases c9 : e = 1
    · have h := zt c9 h
      subst c9
      refine j_catch hC hTb (pre := []) (x := (0, 8, 11, 19)) (suf := [(0, 8, 14, 37)]) rfl (fun z hz => by cases hz) (Nat.le_of_ble_eq_true rfl) (Nat.le_of_ble_eq_true rfl) (by decide) cl_L_19 kc_1 (fun qx => ?_)
      refine j_sstore_n hC dL_density_11 rfl (Nat.le_of_ble_eq_true rfl) rfl ?_
      refine j_iconst hC dL_density_12 ?_
      obtain ⟨e1, e2, e3⟩ := zpr3 (Option.some.inj h)
      exact j_iret hC hE dL_density_13 (w_id kR_1) (zn_i _) (by rw [← e1]) e2 e3 ⟨(by rw [← e1]; exact kR_1), (by rw [← e3]; exact hF8)⟩ (Nat.le_of_ble_eq_true rfl) (Nat.le_of_ble_eq_true rfl)
    have h := zf c9 h
    by_cases c10 : e = 3
    · have h := zt c10 h
      subst c10
      refine j_catch hC hTb (pre := [(0, 8, 11, 19)]) (x := (0, 8, 14, 37)) (suf := []) rfl (List.forall_mem_cons.mpr ⟨⟨by decide, _, cl_L_19, by decide +kernel⟩, (fun z hz => by cases hz)⟩) (Nat.le_of_ble_eq_true rfl) (Nat.le_of_ble_eq_true rfl) (by decide) cl_L_37 kc_3 (fun qx => ?_)
      refine j_sstore_n hC dL_density_14 rfl (Nat.le_of_ble_eq_true rfl) rfl ?_
      refine j_iconst hC dL_density_15 ?_
      obtain ⟨e1, e2, e3⟩ := zpr3 (Option.some.inj h)
      exact j_iret hC hE dL_density_16 (w_id kR_2) (zn_i _) (by rw [← e1]) e2 e3 ⟨(by rw [← e1]; exact kR_2), (by rw [← e3]; exact hF8)⟩ (Nat.le_of_ble_eq_true rfl) (Nat.le_of_ble_eq_true rfl)
    have h := zf c10 h
    cases h
  · have h := hk6 r1 he
    subst he
    have hF8 := hp7
    obtain ⟨M11, eM11, h⟩ := zlet_ex h
    refine j_dast (n := 1) hC dL_density_7 (w_id kR_0) (zFx_kd hF8 77 rfl) (zFx_ln hF8 77 rfl) (by decide) (by decide) eM11 ?_
    refine j_goto hC dL_density_8 rfl ?_
    refine j_iconst hC dL_density_17 ?_
    obtain ⟨e1, e2, e3⟩ := zpr3 (Option.some.inj h)
    exact j_iret hC hE dL_density_18 (w_id kR_0) (zn_i _) (by rw [← e1]) e2 e3 ⟨(by rw [← e1]; exact kR_0), (by rw [← e3]; exact hF8)⟩ (Nat.le_of_ble_eq_true rfl) (Nat.le_of_ble_eq_true rfl)
set_option maxHeartbeats 4000000 in
set_option maxRecDepth 100000 in
theorem c_L_isUsed (l : Launch) (hlt : l.stackTraces = false) (g : zG) (v1 : Int) (hv1 : inR v1) (M : zM) (S : zS) (hF : zFx S) {r : Int} {M' : zM} {S' : zS} (h : F_L_isUsed v1 M S = some (r, M', S')) : zMetH l g yL_isUsed cL_isUsed 4 (some .int) [(0, 16, 19, 25), (0, 16, 22, 37)] 10 2 12 [zr g 1, .int (zi v1), zr g 76] M S (.inl (some (.int (zi r)))) M' S' (inR r ∧ zFx S') := by
  refine zMetH_of (by decide) hlt [(0, zr g 1), (1, .int (zi v1)), (2, zr g 76)] rfl (Nat.le_of_ble_eq_true rfl) (fun K hC hE hTb => ?_)
  unfold F_L_isUsed at h
  have J_15 : ∀ (t1 : Int) (t2 : Int) (ht1 : inR t1) (ht2 : inL t2) (M : zM) (S : zS) (hF : zFx S) (_ : F_L_isUsed_J15 t1 t2 M S = some (r, M', S')), zJ K g 2 12 15 4 [] [.long (zl t2), .int (zi t1), zr g 76] M S := by
    intro t1 t2 ht1 ht2 M S hF h
    unfold F_L_isUsed_J15 at h
    obtain ⟨c1, h⟩ := zchk_ex h
    obtain ⟨M2, eM2, h⟩ := zlet_ex h
    refine j_last (n := 1) hC dL_isUsed_15 (w_id ht1) (wl_id ht2) ht2 (zFx_kd hF 76 rfl) (zFx_ln hF 76 rfl) c1.1 c1.2 eM2 ?_
    refine j_goto hC dL_isUsed_16 rfl ?_
    refine j_iconst hC dL_isUsed_25 ?_
    obtain ⟨e1, e2, e3⟩ := zpr3 (Option.some.inj h)
    exact j_iret hC hE dL_isUsed_26 (w_id kR_0) (zn_i _) (by rw [← e1]) e2 e3 ⟨(by rw [← e1]; exact kR_0), (by rw [← e3]; exact hF)⟩ (Nat.le_of_ble_eq_true rfl) (Nat.le_of_ble_eq_true rfl)
  refine j_aload_n hC 2 dL_isUsed_0 rfl rfl ?_
  refine j_iconst hC dL_isUsed_1 ?_
  refine j_aload_n hC 0 dL_isUsed_2 rfl rfl ?_
  refine j_iload_n hC 1 dL_isUsed_3 rfl rfl ?_
  obtain ⟨r6, M4, S5, hy, hx7, hk8⟩ := zbx_ex h
  refine j_callHVi (ci := 7) hC hE lk_L_46 dL_isUsed_4 (c_X10_isUsed l hlt g v1 hv1 M S hF hy) [.int (zi v1)] [.int (zi 0), zr g 76] (zFx_kd hF 1 rfl) ⟨_, rfl, by decide, rfl⟩ rfl rfl rfl (zcat (Nat.le_of_ble_eq_true rfl)) (Nat.le_of_ble_eq_true rfl) (Nat.le_of_ble_eq_true rfl) (Nat.le_of_ble_eq_true rfl) (Nat.le_of_ble_eq_true rfl) (fun e he hp9 => ?_) (fun r3 he hp9 => ?_)
  · have h := hx7 e he
    subst he
    have hF10 := hp9.2
    by_cases c11 : e = 2
    · have h := zt c11 h
      subst c11
      refine j_catch hC hTb (pre := []) (x := (0, 16, 19, 25)) (suf := [(0, 16, 22, 37)]) rfl (fun z hz => by cases hz) (Nat.le_of_ble_eq_true rfl) (Nat.le_of_ble_eq_true rfl) (by decide) cl_L_25 kc_2 (fun qx => ?_)
      refine j_sstore_n hC dL_isUsed_19 rfl (Nat.le_of_ble_eq_true rfl) rfl ?_
      refine j_iconst hC dL_isUsed_20 ?_
      obtain ⟨e1, e2, e3⟩ := zpr3 (Option.some.inj h)
      exact j_iret hC hE dL_isUsed_21 (w_id kR_1) (zn_i _) (by rw [← e1]) e2 e3 ⟨(by rw [← e1]; exact kR_1), (by rw [← e3]; exact hF10)⟩ (Nat.le_of_ble_eq_true rfl) (Nat.le_of_ble_eq_true rfl)
    have h := zf c11 h
    by_cases c12 : e = 3
    · have h := zt c12 h
      subst c12
      refine j_catch hC hTb (pre := [(0, 16, 19, 25)]) (x := (0, 16, 22, 37)) (suf := []) rfl (List.forall_mem_cons.mpr ⟨⟨by decide, _, cl_L_25, by decide +kernel⟩, (fun z hz => by cases hz)⟩) (Nat.le_of_ble_eq_true rfl) (Nat.le_of_ble_eq_true rfl) (by decide) cl_L_37 kc_3 (fun qx => ?_)
      refine j_sstore_n hC dL_isUsed_22 rfl (Nat.le_of_ble_eq_true rfl) rfl ?_
      refine j_iconst hC dL_isUsed_23 ?_
      obtain ⟨e1, e2, e3⟩ := zpr3 (Option.some.inj h)
      exact j_iret hC hE dL_isUsed_24 (w_id kR_2) (zn_i _) (by rw [← e1]) e2 e3 ⟨(by rw [← e1]; exact kR_2), (by rw [← e3]; exact hF10)⟩ (Nat.le_of_ble_eq_true rfl) (Nat.le_of_ble_eq_true rfl)
    have h := zf c12 h
    cases h
  · have h := hk8 r3 he
    subst he
    dsimp only [zRXi, zRXl] at hp9
    obtain ⟨hr3, hF10⟩ := hp9
    refine j_if_eq hC dL_isUsed_7 rfl (w_id hr3) (fun c13 => ?_) (fun c13 => ?_)
    · have h := zt c13 h
      refine j_lconst (z := 0) hC dL_isUsed_14 rfl ?_
      refine j_sub [] rfl ?_
      exact J_15 0 0 kR_0 (inLc rfl) M4 S5 hF10 h
    · have h := zf c13 h
      refine j_lconst (z := 1) hC dL_isUsed_10 rfl ?_
      refine j_goto hC dL_isUsed_11 rfl ?_
      refine j_sub [] rfl ?_
      exact J_15 0 1 kR_0 (inLc rfl) M4 S5 hF10 h
set_option maxHeartbeats 4000000 in
set_option maxRecDepth 100000 in
theorem c_L_isRedundant (l : Launch) (hlt : l.stackTraces = false) (g : zG) (v1 : Int) (hv1 : inR v1) (M : zM) (S : zS) (hF : zFx S) {r : Int} {M' : zM} {S' : zS} (h : F_L_isRedundant v1 M S = some (r, M', S')) : zMetH l g yL_isRedundant cL_isRedundant 4 (some .int) [(0, 16, 19, 25), (0, 16, 22, 37)] 10 2 12 [zr g 1, .int (zi v1), zr g 76] M S (.inl (some (.int (zi r)))) M' S' (inR r ∧ zFx S') := by
  refine zMetH_of (by decide) hlt [(0, zr g 1), (1, .int (zi v1)), (2, zr g 76)] rfl (Nat.le_of_ble_eq_true rfl) (fun K hC hE hTb => ?_)
  unfold F_L_isRedundant at h
  have J_15 : ∀ (t1 : Int) (t2 : Int) (ht1 : inR t1) (ht2 : inL t2) (M : zM) (S : zS) (hF : zFx S) (_ : F_L_isRedundant_J15 t1 t2 M S = some (r, M', S')), zJ K g 2 12 15 4 [] [.long (zl t2), .int (zi t1), zr g 76] M S := by
    intro t1 t2 ht1 ht2 M S hF h
    unfold F_L_isRedundant_J15 at h
    obtain ⟨c1, h⟩ := zchk_ex h
    obtain ⟨M2, eM2, h⟩ := zlet_ex h
    refine j_last (n := 1) hC dL_isRedundant_15 (w_id ht1) (wl_id ht2) ht2 (zFx_kd hF 76 rfl) (zFx_ln hF 76 rfl) c1.1 c1.2 eM2 ?_
    refine j_goto hC dL_isRedundant_16 rfl ?_
    refine j_iconst hC dL_isRedundant_25 ?_
    obtain ⟨e1, e2, e3⟩ := zpr3 (Option.some.inj h)
    exact j_iret hC hE dL_isRedundant_26 (w_id kR_0) (zn_i _) (by rw [← e1]) e2 e3 ⟨(by rw [← e1]; exact kR_0), (by rw [← e3]; exact hF)⟩ (Nat.le_of_ble_eq_true rfl) (Nat.le_of_ble_eq_true rfl)
  refine j_aload_n hC 2 dL_isRedundant_0 rfl rfl ?_
  refine j_iconst hC dL_isRedundant_1 ?_
  refine j_aload_n hC 0 dL_isRedundant_2 rfl rfl ?_
  refine j_iload_n hC 1 dL_isRedundant_3 rfl rfl ?_
  obtain ⟨r6, M4, S5, hy, hx7, hk8⟩ := zbx_ex h
  refine j_callHVi (ci := 7) hC hE lk_L_50 dL_isRedundant_4 (c_X10_isRedundant l hlt g v1 hv1 M S hF hy) [.int (zi v1)] [.int (zi 0), zr g 76] (zFx_kd hF 1 rfl) ⟨_, rfl, by decide, rfl⟩ rfl rfl rfl (zcat (Nat.le_of_ble_eq_true rfl)) (Nat.le_of_ble_eq_true rfl) (Nat.le_of_ble_eq_true rfl) (Nat.le_of_ble_eq_true rfl) (Nat.le_of_ble_eq_true rfl) (fun e he hp9 => ?_) (fun r3 he hp9 => ?_)
  · have h := hx7 e he
    subst he
    have hF10 := hp9.2
    by_cases c11 : e = 2
    · have h := zt c11 h
      subst c11
      refine j_catch hC hTb (pre := []) (x := (0, 16, 19, 25)) (suf := [(0, 16, 22, 37)]) rfl (fun z hz => by cases hz) (Nat.le_of_ble_eq_true rfl) (Nat.le_of_ble_eq_true rfl) (by decide) cl_L_25 kc_2 (fun qx => ?_)
      refine j_sstore_n hC dL_isRedundant_19 rfl (Nat.le_of_ble_eq_true rfl) rfl ?_
      refine j_iconst hC dL_isRedundant_20 ?_
      obtain ⟨e1, e2, e3⟩ := zpr3 (Option.some.inj h)
      exact j_iret hC hE dL_isRedundant_21 (w_id kR_1) (zn_i _) (by rw [← e1]) e2 e3 ⟨(by rw [← e1]; exact kR_1), (by rw [← e3]; exact hF10)⟩ (Nat.le_of_ble_eq_true rfl) (Nat.le_of_ble_eq_true rfl)
    have h := zf c11 h
    by_cases c12 : e = 3
    · have h := zt c12 h
      subst c12
      refine j_catch hC hTb (pre := [(0, 16, 19, 25)]) (x := (0, 16, 22, 37)) (suf := []) rfl (List.forall_mem_cons.mpr ⟨⟨by decide, _, cl_L_25, by decide +kernel⟩, (fun z hz => by cases hz)⟩) (Nat.le_of_ble_eq_true rfl) (Nat.le_of_ble_eq_true rfl) (by decide) cl_L_37 kc_3 (fun qx => ?_)
      refine j_sstore_n hC dL_isRedundant_22 rfl (Nat.le_of_ble_eq_true rfl) rfl ?_
      refine j_iconst hC dL_isRedundant_23 ?_
      obtain ⟨e1, e2, e3⟩ := zpr3 (Option.some.inj h)
      exact j_iret hC hE dL_isRedundant_24 (w_id kR_2) (zn_i _) (by rw [← e1]) e2 e3 ⟨(by rw [← e1]; exact kR_2), (by rw [← e3]; exact hF10)⟩ (Nat.le_of_ble_eq_true rfl) (Nat.le_of_ble_eq_true rfl)
    have h := zf c12 h
    cases h
  · have h := hk8 r3 he
    subst he
    dsimp only [zRXi, zRXl] at hp9
    obtain ⟨hr3, hF10⟩ := hp9
    refine j_if_eq hC dL_isRedundant_7 rfl (w_id hr3) (fun c13 => ?_) (fun c13 => ?_)
    · have h := zt c13 h
      refine j_lconst (z := 0) hC dL_isRedundant_14 rfl ?_
      refine j_sub [] rfl ?_
      exact J_15 0 0 kR_0 (inLc rfl) M4 S5 hF10 h
    · have h := zf c13 h
      refine j_lconst (z := 1) hC dL_isRedundant_10 rfl ?_
      refine j_goto hC dL_isRedundant_11 rfl ?_
      refine j_sub [] rfl ?_
      exact J_15 0 1 kR_0 (inLc rfl) M4 S5 hF10 h
set_option maxHeartbeats 4000000 in
set_option maxRecDepth 100000 in
theorem c_L_minimalContexts (l : Launch) (hlt : l.stackTraces = false) (g : zG) (M : zM) (S : zS) (hF : zFx S) {r : Int} {M' : zM} {S' : zS} (h : F_L_minimalContexts M S = some (r, M', S')) : zMetH l g yL_minimalContexts cL_minimalContexts 3 (some .int) [(0, 8, 11, 37)] 10 1 6 [zr g 1, zr g 76] M S (.inl (some (.int (zi r)))) M' S' (inR r ∧ zFx S') := by
  refine zMetH_of (by decide) hlt [(0, zr g 1), (1, zr g 76)] rfl (Nat.le_of_ble_eq_true rfl) (fun K hC hE hTb => ?_)
  unfold F_L_minimalContexts at h
  refine j_aload_n hC 1 dL_minimalContexts_0 rfl rfl ?_
  refine j_iconst hC dL_minimalContexts_1 ?_
  refine j_aload_n hC 0 dL_minimalContexts_2 rfl rfl ?_
  obtain ⟨r4, M2, S3, hy, hx5, hk6⟩ := zbx_ex h
  refine j_callHVi (ci := 7) hC hE lk_L_53 dL_minimalContexts_3 (c_X10_minimalContexts l hlt g M S hF hy) [] [.int (zi 0), zr g 76] (zFx_kd hF 1 rfl) ⟨_, rfl, by decide, rfl⟩ rfl rfl rfl (zcat (Nat.le_of_ble_eq_true rfl)) (Nat.le_of_ble_eq_true rfl) (Nat.le_of_ble_eq_true rfl) (Nat.le_of_ble_eq_true rfl) (Nat.le_of_ble_eq_true rfl) (fun e he hp7 => ?_) (fun r1 he hp7 => ?_)
  · have h := hx5 e he
    subst he
    have hF8 := hp7.2
    by_cases c9 : e = 3
    · have h := zt c9 h
      subst c9
      refine j_catch hC hTb (pre := []) (x := (0, 8, 11, 37)) (suf := []) rfl (fun z hz => by cases hz) (Nat.le_of_ble_eq_true rfl) (Nat.le_of_ble_eq_true rfl) (by decide) cl_L_37 kc_3 (fun qx => ?_)
      refine j_sstore_n hC dL_minimalContexts_11 rfl (Nat.le_of_ble_eq_true rfl) rfl ?_
      refine j_iconst hC dL_minimalContexts_12 ?_
      obtain ⟨e1, e2, e3⟩ := zpr3 (Option.some.inj h)
      exact j_iret hC hE dL_minimalContexts_13 (w_id kR_1) (zn_i _) (by rw [← e1]) e2 e3 ⟨(by rw [← e1]; exact kR_1), (by rw [← e3]; exact hF8)⟩ (Nat.le_of_ble_eq_true rfl) (Nat.le_of_ble_eq_true rfl)
    have h := zf c9 h
    cases h
  · have h := hk6 r1 he
    subst he
    dsimp only [zRXi, zRXl] at hp7
    obtain ⟨hr1, hF8⟩ := hp7
    refine j_i2l hC dL_minimalContexts_6 (w_id hr1) ?_
    obtain ⟨M10, eM10, h⟩ := zlet_ex h
    refine j_last (n := 1) hC dL_minimalContexts_7 (w_id kR_0) (wl_id (inL_R hr1)) (inL_R hr1) (zFx_kd hF8 76 rfl) (zFx_ln hF8 76 rfl) (by decide) (by decide) eM10 ?_
    refine j_goto hC dL_minimalContexts_8 rfl ?_
    refine j_iconst hC dL_minimalContexts_14 ?_
    obtain ⟨e1, e2, e3⟩ := zpr3 (Option.some.inj h)
    exact j_iret hC hE dL_minimalContexts_15 (w_id kR_0) (zn_i _) (by rw [← e1]) e2 e3 ⟨(by rw [← e1]; exact kR_0), (by rw [← e3]; exact hF8)⟩ (Nat.le_of_ble_eq_true rfl) (Nat.le_of_ble_eq_true rfl)
set_option maxHeartbeats 4000000 in
set_option maxRecDepth 100000 in
theorem c_L_canFollow (l : Launch) (hlt : l.stackTraces = false) (g : zG) (v1 : Int) (v2 : Int) (hv1 : inR v1) (hv2 : inR v2) (M : zM) (S : zS) (hF : zFx S) {r : Int} {M' : zM} {S' : zS} (h : F_L_canFollow v1 v2 M S = some (r, M', S')) : zMetH l g yL_canFollow cL_canFollow 5 (some .int) [(0, 17, 20, 25), (0, 17, 24, 37)] 10 3 18 [zr g 1, .int (zi v1), .int (zi v2), zr g 76] M S (.inl (some (.int (zi r)))) M' S' (inR r ∧ zFx S') := by
  refine zMetH_of (by decide) hlt [(0, zr g 1), (1, .int (zi v1)), (2, .int (zi v2)), (3, zr g 76)] rfl (Nat.le_of_ble_eq_true rfl) (fun K hC hE hTb => ?_)
  unfold F_L_canFollow at h
  have J_16 : ∀ (t1 : Int) (t2 : Int) (ht1 : inR t1) (ht2 : inL t2) (M : zM) (S : zS) (hF : zFx S) (_ : F_L_canFollow_J16 t1 t2 M S = some (r, M', S')), zJ K g 3 18 16 5 [] [.long (zl t2), .int (zi t1), zr g 76] M S := by
    intro t1 t2 ht1 ht2 M S hF h
    unfold F_L_canFollow_J16 at h
    obtain ⟨c1, h⟩ := zchk_ex h
    obtain ⟨M2, eM2, h⟩ := zlet_ex h
    refine j_last (n := 1) hC dL_canFollow_16 (w_id ht1) (wl_id ht2) ht2 (zFx_kd hF 76 rfl) (zFx_ln hF 76 rfl) c1.1 c1.2 eM2 ?_
    refine j_goto hC dL_canFollow_17 rfl ?_
    refine j_iconst hC dL_canFollow_28 ?_
    obtain ⟨e1, e2, e3⟩ := zpr3 (Option.some.inj h)
    exact j_iret hC hE dL_canFollow_29 (w_id kR_0) (zn_i _) (by rw [← e1]) e2 e3 ⟨(by rw [← e1]; exact kR_0), (by rw [← e3]; exact hF)⟩ (Nat.le_of_ble_eq_true rfl) (Nat.le_of_ble_eq_true rfl)
  refine j_aload_n hC 3 dL_canFollow_0 rfl rfl ?_
  refine j_iconst hC dL_canFollow_1 ?_
  refine j_aload_n hC 0 dL_canFollow_2 rfl rfl ?_
  refine j_iload_n hC 1 dL_canFollow_3 rfl rfl ?_
  refine j_iload_n hC 2 dL_canFollow_4 rfl rfl ?_
  obtain ⟨r6, M4, S5, hy, hx7, hk8⟩ := zbx_ex h
  refine j_callHVi (ci := 7) hC hE lk_L_56 dL_canFollow_5 (c_X10_canFollow l hlt g v1 v2 hv1 hv2 M S hF hy) [.int (zi v1), .int (zi v2)] [.int (zi 0), zr g 76] (zFx_kd hF 1 rfl) ⟨_, rfl, by decide, rfl⟩ rfl rfl rfl (zcat (Nat.le_of_ble_eq_true rfl)) (Nat.le_of_ble_eq_true rfl) (Nat.le_of_ble_eq_true rfl) (Nat.le_of_ble_eq_true rfl) (Nat.le_of_ble_eq_true rfl) (fun e he hp9 => ?_) (fun r3 he hp9 => ?_)
  · have h := hx7 e he
    subst he
    have hF10 := hp9.2
    by_cases c11 : e = 2
    · have h := zt c11 h
      subst c11
      refine j_catch hC hTb (pre := []) (x := (0, 17, 20, 25)) (suf := [(0, 17, 24, 37)]) rfl (fun z hz => by cases hz) (Nat.le_of_ble_eq_true rfl) (Nat.le_of_ble_eq_true rfl) (by decide) cl_L_25 kc_2 (fun qx => ?_)
      refine j_sstore hC dL_canFollow_20 (Nat.le_of_ble_eq_true rfl) rfl ?_
      refine j_iconst hC dL_canFollow_22 ?_
      obtain ⟨e1, e2, e3⟩ := zpr3 (Option.some.inj h)
      exact j_iret hC hE dL_canFollow_23 (w_id kR_1) (zn_i _) (by rw [← e1]) e2 e3 ⟨(by rw [← e1]; exact kR_1), (by rw [← e3]; exact hF10)⟩ (Nat.le_of_ble_eq_true rfl) (Nat.le_of_ble_eq_true rfl)
    have h := zf c11 h
    by_cases c12 : e = 3
    · have h := zt c12 h
      subst c12
      refine j_catch hC hTb (pre := [(0, 17, 20, 25)]) (x := (0, 17, 24, 37)) (suf := []) rfl (List.forall_mem_cons.mpr ⟨⟨by decide, _, cl_L_25, by decide +kernel⟩, (fun z hz => by cases hz)⟩) (Nat.le_of_ble_eq_true rfl) (Nat.le_of_ble_eq_true rfl) (by decide) cl_L_37 kc_3 (fun qx => ?_)
      refine j_sstore hC dL_canFollow_24 (Nat.le_of_ble_eq_true rfl) rfl ?_
      refine j_iconst hC dL_canFollow_26 ?_
      obtain ⟨e1, e2, e3⟩ := zpr3 (Option.some.inj h)
      exact j_iret hC hE dL_canFollow_27 (w_id kR_2) (zn_i _) (by rw [← e1]) e2 e3 ⟨(by rw [← e1]; exact kR_2), (by rw [← e3]; exact hF10)⟩ (Nat.le_of_ble_eq_true rfl) (Nat.le_of_ble_eq_true rfl)
    have h := zf c12 h
    cases h
  · have h := hk8 r3 he
    subst he
    dsimp only [zRXi, zRXl] at hp9
    obtain ⟨hr3, hF10⟩ := hp9
    refine j_if_eq hC dL_canFollow_8 rfl (w_id hr3) (fun c13 => ?_) (fun c13 => ?_)
    · have h := zt c13 h
      refine j_lconst (z := 0) hC dL_canFollow_15 rfl ?_
      refine j_sub [] rfl ?_
      exact J_16 0 0 kR_0 (inLc rfl) M4 S5 hF10 h
    · have h := zf c13 h
      refine j_lconst (z := 1) hC dL_canFollow_11 rfl ?_
      refine j_goto hC dL_canFollow_12 rfl ?_
      refine j_sub [] rfl ?_
      exact J_16 0 1 kR_0 (inLc rfl) M4 S5 hF10 h
set_option maxHeartbeats 4000000 in
set_option maxRecDepth 100000 in
theorem c_L_shortestLoop (l : Launch) (hlt : l.stackTraces = false) (g : zG) (v1 : Int) (hv1 : inR v1) (M : zM) (S : zS) (hF : zFx S) {r : Int} {M' : zM} {S' : zS} (h : F_L_shortestLoop v1 M S = some (r, M', S')) : zMetH l g yL_shortestLoop cL_shortestLoop 4 (some .int) [(0, 9, 12, 25), (0, 9, 15, 37), (0, 9, 18, 63)] 10 3 18 [zr g 1, .int (zi v1), zr g 76] M S (.inl (some (.int (zi r)))) M' S' (inR r ∧ zFx S') := by
  refine zMetH_of (by decide) hlt [(0, zr g 1), (1, .int (zi v1)), (2, zr g 76)] rfl (Nat.le_of_ble_eq_true rfl) (fun K hC hE hTb => ?_)
  unfold F_L_shortestLoop at h
  refine j_aload_n hC 2 dL_shortestLoop_0 rfl rfl ?_
  refine j_iconst hC dL_shortestLoop_1 ?_
  refine j_aload_n hC 0 dL_shortestLoop_2 rfl rfl ?_
  refine j_iload_n hC 1 dL_shortestLoop_3 rfl rfl ?_
  obtain ⟨r4, M2, S3, hy, hx5, hk6⟩ := zbx_ex h
  refine j_callHVi (ci := 7) hC hE lk_L_60 dL_shortestLoop_4 (c_X10_shortestLoop l hlt g v1 hv1 M S hF hy) [.int (zi v1)] [.int (zi 0), zr g 76] (zFx_kd hF 1 rfl) ⟨_, rfl, by decide, rfl⟩ rfl rfl rfl (zcat (Nat.le_of_ble_eq_true rfl)) (Nat.le_of_ble_eq_true rfl) (Nat.le_of_ble_eq_true rfl) (Nat.le_of_ble_eq_true rfl) (Nat.le_of_ble_eq_true rfl) (fun e he hp7 => ?_) (fun r1 he hp7 => ?_)
  · have h := hx5 e he
    subst he
    have hF8 := hp7.2
    by_cases c9 : e = 2
    · have h := zt c9 h
      subst c9
      refine j_catch hC hTb (pre := []) (x := (0, 9, 12, 25)) (suf := [(0, 9, 15, 37), (0, 9, 18, 63)]) rfl (fun z hz => by cases hz) (Nat.le_of_ble_eq_true rfl) (Nat.le_of_ble_eq_true rfl) (by decide) cl_L_25 kc_2 (fun qx => ?_)
      refine j_sstore_n hC dL_shortestLoop_12 rfl (Nat.le_of_ble_eq_true rfl) rfl ?_
      refine j_iconst hC dL_shortestLoop_13 ?_
      obtain ⟨e1, e2, e3⟩ := zpr3 (Option.some.inj h)
      exact j_iret hC hE dL_shortestLoop_14 (w_id kR_1) (zn_i _) (by rw [← e1]) e2 e3 ⟨(by rw [← e1]; exact kR_1), (by rw [← e3]; exact hF8)⟩ (Nat.le_of_ble_eq_true rfl) (Nat.le_of_ble_eq_true rfl)
    have h := zf c9 h
    by_cases c10 : e = 3
    · have h := zt c10 h
      subst c10
      refine j_catch hC hTb (pre := [(0, 9, 12, 25)]) (x := (0, 9, 15, 37)) (suf := [(0, 9, 18, 63)]) rfl (List.forall_mem_cons.mpr ⟨⟨by decide, _, cl_L_25, by decide +kernel⟩, (fun z hz => by cases hz)⟩) (Nat.le_of_ble_eq_true rfl) (Nat.le_of_ble_eq_true rfl) (by decide) cl_L_37 kc_3 (fun qx => ?_)
      refine j_sstore_n hC dL_shortestLoop_15 rfl (Nat.le_of_ble_eq_true rfl) rfl ?_
      refine j_iconst hC dL_shortestLoop_16 ?_
      obtain ⟨e1, e2, e3⟩ := zpr3 (Option.some.inj h)
      exact j_iret hC hE dL_shortestLoop_17 (w_id kR_2) (zn_i _) (by rw [← e1]) e2 e3 ⟨(by rw [← e1]; exact kR_2), (by rw [← e3]; exact hF8)⟩ (Nat.le_of_ble_eq_true rfl) (Nat.le_of_ble_eq_true rfl)
    have h := zf c10 h
    by_cases c11 : e = 4
    · have h := zt c11 h
      subst c11
      refine j_catch hC hTb (pre := [(0, 9, 12, 25), (0, 9, 15, 37)]) (x := (0, 9, 18, 63)) (suf := []) rfl (List.forall_mem_cons.mpr ⟨⟨by decide, _, cl_L_25, by decide +kernel⟩, (List.forall_mem_cons.mpr ⟨⟨by decide, _, cl_L_37, by decide +kernel⟩, (fun z hz => by cases hz)⟩)⟩) (Nat.le_of_ble_eq_true rfl) (Nat.le_of_ble_eq_true rfl) (by decide) cl_L_63 kc_4 (fun qx => ?_)
      refine j_sstore_n hC dL_shortestLoop_18 rfl (Nat.le_of_ble_eq_true rfl) rfl ?_
      refine j_iconst hC dL_shortestLoop_19 ?_
      obtain ⟨e1, e2, e3⟩ := zpr3 (Option.some.inj h)
      exact j_iret hC hE dL_shortestLoop_20 (w_id kR_3) (zn_i _) (by rw [← e1]) e2 e3 ⟨(by rw [← e1]; exact kR_3), (by rw [← e3]; exact hF8)⟩ (Nat.le_of_ble_eq_true rfl) (Nat.le_of_ble_eq_true rfl)
    have h := zf c11 h
    cases h
  · have h := hk6 r1 he
    subst he
    dsimp only [zRXi, zRXl] at hp7
    obtain ⟨hr1, hF8⟩ := hp7
    refine j_i2l hC dL_shortestLoop_7 (w_id hr1) ?_
    obtain ⟨M12, eM12, h⟩ := zlet_ex h
    refine j_last (n := 1) hC dL_shortestLoop_8 (w_id kR_0) (wl_id (inL_R hr1)) (inL_R hr1) (zFx_kd hF8 76 rfl) (zFx_ln hF8 76 rfl) (by decide) (by decide) eM12 ?_
    refine j_goto hC dL_shortestLoop_9 rfl ?_
    refine j_iconst hC dL_shortestLoop_21 ?_
    obtain ⟨e1, e2, e3⟩ := zpr3 (Option.some.inj h)
    exact j_iret hC hE dL_shortestLoop_22 (w_id kR_0) (zn_i _) (by rw [← e1]) e2 e3 ⟨(by rw [← e1]; exact kR_0), (by rw [← e3]; exact hF8)⟩ (Nat.le_of_ble_eq_true rfl) (Nat.le_of_ble_eq_true rfl)
set_option maxHeartbeats 4000000 in
set_option maxRecDepth 100000 in
theorem c_L_isConfluent (l : Launch) (hlt : l.stackTraces = false) (g : zG) (M : zM) (S : zS) (hF : zFx S) {r : Int} {M' : zM} {S' : zS} (h : F_L_isConfluent M S = some (r, M', S')) : zMetH l g yL_isConfluent cL_isConfluent 3 (some .int) [(0, 15, 18, 37)] 50 1 6 [zr g 1, zr g 76] M S (.inl (some (.int (zi r)))) M' S' (inR r ∧ zFx S') := by
  refine zMetH_of (by decide) hlt [(0, zr g 1), (1, zr g 76)] rfl (Nat.le_of_ble_eq_true rfl) (fun K hC hE hTb => ?_)
  unfold F_L_isConfluent at h
  have J_14 : ∀ (t1 : Int) (t2 : Int) (ht1 : inR t1) (ht2 : inL t2) (M : zM) (S : zS) (hF : zFx S) (_ : F_L_isConfluent_J14 t1 t2 M S = some (r, M', S')), zJ K g 1 6 14 3 [] [.long (zl t2), .int (zi t1), zr g 76] M S := by
    intro t1 t2 ht1 ht2 M S hF h
    unfold F_L_isConfluent_J14 at h
    obtain ⟨c1, h⟩ := zchk_ex h
    obtain ⟨M2, eM2, h⟩ := zlet_ex h
    refine j_last (n := 1) hC dL_isConfluent_14 (w_id ht1) (wl_id ht2) ht2 (zFx_kd hF 76 rfl) (zFx_ln hF 76 rfl) c1.1 c1.2 eM2 ?_
    refine j_goto hC dL_isConfluent_15 rfl ?_
    refine j_iconst hC dL_isConfluent_21 ?_
    obtain ⟨e1, e2, e3⟩ := zpr3 (Option.some.inj h)
    exact j_iret hC hE dL_isConfluent_22 (w_id kR_0) (zn_i _) (by rw [← e1]) e2 e3 ⟨(by rw [← e1]; exact kR_0), (by rw [← e3]; exact hF)⟩ (Nat.le_of_ble_eq_true rfl) (Nat.le_of_ble_eq_true rfl)
  refine j_aload_n hC 1 dL_isConfluent_0 rfl rfl ?_
  refine j_iconst hC dL_isConfluent_1 ?_
  refine j_aload_n hC 0 dL_isConfluent_2 rfl rfl ?_
  obtain ⟨r6, M4, S5, hy, hx7, hk8⟩ := zbx_ex h
  refine j_callHVi (ci := 7) hC hE lk_L_65 dL_isConfluent_3 (c_X10_isConfluent l hlt g M S hF hy) [] [.int (zi 0), zr g 76] (zFx_kd hF 1 rfl) ⟨_, rfl, by decide, rfl⟩ rfl rfl rfl (zcat (Nat.le_of_ble_eq_true rfl)) (Nat.le_of_ble_eq_true rfl) (Nat.le_of_ble_eq_true rfl) (Nat.le_of_ble_eq_true rfl) (Nat.le_of_ble_eq_true rfl) (fun e he hp9 => ?_) (fun r3 he hp9 => ?_)
  · have h := hx7 e he
    subst he
    have hF10 := hp9.2
    by_cases c11 : e = 3
    · have h := zt c11 h
      subst c11
      refine j_catch hC hTb (pre := []) (x := (0, 15, 18, 37)) (suf := []) rfl (fun z hz => by cases hz) (Nat.le_of_ble_eq_true rfl) (Nat.le_of_ble_eq_true rfl) (by decide) cl_L_37 kc_3 (fun qx => ?_)
      refine j_sstore_n hC dL_isConfluent_18 rfl (Nat.le_of_ble_eq_true rfl) rfl ?_
      refine j_iconst hC dL_isConfluent_19 ?_
      obtain ⟨e1, e2, e3⟩ := zpr3 (Option.some.inj h)
      exact j_iret hC hE dL_isConfluent_20 (w_id kR_1) (zn_i _) (by rw [← e1]) e2 e3 ⟨(by rw [← e1]; exact kR_1), (by rw [← e3]; exact hF10)⟩ (Nat.le_of_ble_eq_true rfl) (Nat.le_of_ble_eq_true rfl)
    have h := zf c11 h
    cases h
  · have h := hk8 r3 he
    subst he
    dsimp only [zRXi, zRXl] at hp9
    obtain ⟨hr3, hF10⟩ := hp9
    refine j_if_eq hC dL_isConfluent_6 rfl (w_id hr3) (fun c12 => ?_) (fun c12 => ?_)
    · have h := zt c12 h
      refine j_lconst (z := 0) hC dL_isConfluent_13 rfl ?_
      refine j_sub [] rfl ?_
      exact J_14 0 0 kR_0 (inLc rfl) M4 S5 hF10 h
    · have h := zf c12 h
      refine j_lconst (z := 1) hC dL_isConfluent_9 rfl ?_
      refine j_goto hC dL_isConfluent_10 rfl ?_
      refine j_sub [] rfl ?_
      exact J_14 0 1 kR_0 (inLc rfl) M4 S5 hF10 h
set_option maxHeartbeats 4000000 in
set_option maxRecDepth 100000 in
theorem c_L_addLetter (l : Launch) (hlt : l.stackTraces = false) (g : zG) (v1 : Int) (hv1 : inR v1) (M : zM) (S : zS) (hF : zFx S) {r : Int} {M' : zM} {S' : zS} (h : F_L_addLetter v1 M S = some (r, M', S')) : zMetH l g yL_addLetter cL_addLetter 3 (some .int) [(0, 5, 8, 19), (0, 5, 11, 13)] 3 1 6 [zr g 1, .int (zi v1)] M S (.inl (some (.int (zi r)))) M' S' (inR r ∧ zFx S') := by
  refine zMetH_of (by decide) hlt [(0, zr g 1), (1, .int (zi v1))] rfl (Nat.le_of_ble_eq_true rfl) (fun K hC hE hTb => ?_)
  unfold F_L_addLetter at h
  refine j_aload_n hC 0 dL_addLetter_0 rfl rfl ?_
  refine j_iload_n hC 1 dL_addLetter_1 rfl rfl ?_
  obtain ⟨r3, M1, S2, hy, hx5, hk6⟩ := zbx_ex h
  refine j_callHVv (ci := 7) hC hE lk_L_69 dL_addLetter_2 (c_X10_addLetter l hlt g v1 hv1 M S hF hy) [.int (zi v1)] [] (zFx_kd hF 1 rfl) ⟨_, rfl, by decide, rfl⟩ rfl rfl rfl (zcat (Nat.le_of_ble_eq_true rfl)) (Nat.le_of_ble_eq_true rfl) (Nat.le_of_ble_eq_true rfl) (Nat.le_of_ble_eq_true rfl) (Nat.le_of_ble_eq_true rfl) (fun e he hp7 => ?_) (fun u4 he hp7 => ?_)
  · have h := hx5 e he
    subst he
    have hF8 := hp7
    by_cases c9 : e = 1
    · have h := zt c9 h
      subst c9
      refine j_catch hC hTb (pre := []) (x := (0, 5, 8, 19)) (suf := [(0, 5, 11, 13)]) rfl (fun z hz => by cases hz) (Nat.le_of_ble_eq_true rfl) (Nat.le_of_ble_eq_true rfl) (by decide) cl_L_19 kc_1 (fun qx => ?_)
      refine j_sstore_n hC dL_addLetter_8 rfl (Nat.le_of_ble_eq_true rfl) rfl ?_
      refine j_iconst hC dL_addLetter_9 ?_
      obtain ⟨e1, e2, e3⟩ := zpr3 (Option.some.inj h)
      exact j_iret hC hE dL_addLetter_10 (w_id kR_1) (zn_i _) (by rw [← e1]) e2 e3 ⟨(by rw [← e1]; exact kR_1), (by rw [← e3]; exact hF8)⟩ (Nat.le_of_ble_eq_true rfl) (Nat.le_of_ble_eq_true rfl)
    have h := zf c9 h
    by_cases c10 : e = 0
    · have h := zt c10 h
      subst c10
      refine j_catch hC hTb (pre := [(0, 5, 8, 19)]) (x := (0, 5, 11, 13)) (suf := []) rfl (List.forall_mem_cons.mpr ⟨⟨by decide, _, cl_L_19, by decide +kernel⟩, (fun z hz => by cases hz)⟩) (Nat.le_of_ble_eq_true rfl) (Nat.le_of_ble_eq_true rfl) (by decide) cl_L_13 kc_0 (fun qx => ?_)
      refine j_sstore_n hC dL_addLetter_11 rfl (Nat.le_of_ble_eq_true rfl) rfl ?_
      refine j_iconst hC dL_addLetter_12 ?_
      obtain ⟨e1, e2, e3⟩ := zpr3 (Option.some.inj h)
      exact j_iret hC hE dL_addLetter_13 (w_id kR_2) (zn_i _) (by rw [← e1]) e2 e3 ⟨(by rw [← e1]; exact kR_2), (by rw [← e3]; exact hF8)⟩ (Nat.le_of_ble_eq_true rfl) (Nat.le_of_ble_eq_true rfl)
    have h := zf c10 h
    cases h
  · have h := hk6 u4 he
    subst he
    have hF8 := hp7
    refine j_goto hC dL_addLetter_5 rfl ?_
    refine j_iconst hC dL_addLetter_14 ?_
    obtain ⟨e1, e2, e3⟩ := zpr3 (Option.some.inj h)
    exact j_iret hC hE dL_addLetter_15 (w_id kR_0) (zn_i _) (by rw [← e1]) e2 e3 ⟨(by rw [← e1]; exact kR_0), (by rw [← e3]; exact hF8)⟩ (Nat.le_of_ble_eq_true rfl) (Nat.le_of_ble_eq_true rfl)
set_option maxHeartbeats 4000000 in
set_option maxRecDepth 100000 in
theorem c_L_takeAxiom (l : Launch) (hlt : l.stackTraces = false) (g : zG) (v1 : Int) (hv1 : inR v1) (M : zM) (S : zS) (hF : zFx S) {r : Int} {M' : zM} {S' : zS} (h : F_L_takeAxiom v1 M S = some (r, M', S')) : zMetH l g yL_takeAxiom cL_takeAxiom 3 (some .int) [(0, 5, 8, 25)] 4 1 6 [zr g 1, .int (zi v1)] M S (.inl (some (.int (zi r)))) M' S' (inR r ∧ zFx S') := by
  refine zMetH_of (by decide) hlt [(0, zr g 1), (1, .int (zi v1))] rfl (Nat.le_of_ble_eq_true rfl) (fun K hC hE hTb => ?_)
  unfold F_L_takeAxiom at h
  refine j_aload_n hC 0 dL_takeAxiom_0 rfl rfl ?_
  refine j_iload_n hC 1 dL_takeAxiom_1 rfl rfl ?_
  obtain ⟨r3, M1, S2, hy, hx5, hk6⟩ := zbx_ex h
  refine j_callHVv (ci := 7) hC hE lk_L_72 dL_takeAxiom_2 (c_X10_takeAxiom l hlt g v1 hv1 M S hF hy) [.int (zi v1)] [] (zFx_kd hF 1 rfl) ⟨_, rfl, by decide, rfl⟩ rfl rfl rfl (zcat (Nat.le_of_ble_eq_true rfl)) (Nat.le_of_ble_eq_true rfl) (Nat.le_of_ble_eq_true rfl) (Nat.le_of_ble_eq_true rfl) (Nat.le_of_ble_eq_true rfl) (fun e he hp7 => ?_) (fun u4 he hp7 => ?_)
  · have h := hx5 e he
    subst he
    have hF8 := hp7
    by_cases c9 : e = 2
    · have h := zt c9 h
      subst c9
      refine j_catch hC hTb (pre := []) (x := (0, 5, 8, 25)) (suf := []) rfl (fun z hz => by cases hz) (Nat.le_of_ble_eq_true rfl) (Nat.le_of_ble_eq_true rfl) (by decide) cl_L_25 kc_2 (fun qx => ?_)
      refine j_sstore_n hC dL_takeAxiom_8 rfl (Nat.le_of_ble_eq_true rfl) rfl ?_
      refine j_iconst hC dL_takeAxiom_9 ?_
      obtain ⟨e1, e2, e3⟩ := zpr3 (Option.some.inj h)
      exact j_iret hC hE dL_takeAxiom_10 (w_id kR_1) (zn_i _) (by rw [← e1]) e2 e3 ⟨(by rw [← e1]; exact kR_1), (by rw [← e3]; exact hF8)⟩ (Nat.le_of_ble_eq_true rfl) (Nat.le_of_ble_eq_true rfl)
    have h := zf c9 h
    cases h
  · have h := hk6 u4 he
    subst he
    have hF8 := hp7
    refine j_goto hC dL_takeAxiom_5 rfl ?_
    refine j_iconst hC dL_takeAxiom_11 ?_
    obtain ⟨e1, e2, e3⟩ := zpr3 (Option.some.inj h)
    exact j_iret hC hE dL_takeAxiom_12 (w_id kR_0) (zn_i _) (by rw [← e1]) e2 e3 ⟨(by rw [← e1]; exact kR_0), (by rw [← e3]; exact hF8)⟩ (Nat.le_of_ble_eq_true rfl) (Nat.le_of_ble_eq_true rfl)
set_option maxHeartbeats 4000000 in
set_option maxRecDepth 100000 in
theorem c_L_takeWord (l : Launch) (hlt : l.stackTraces = false) (g : zG) (v1 : Int) (hv1 : inR v1) (M : zM) (S : zS) (hF : zFx S) {r : Int} {M' : zM} {S' : zS} (h : F_L_takeWord v1 M S = some (r, M', S')) : zMetH l g yL_takeWord cL_takeWord 3 (some .int) [(0, 5, 8, 37), (0, 5, 11, 25)] 10 2 12 [zr g 1, .int (zi v1)] M S (.inl (some (.int (zi r)))) M' S' (inR r ∧ zFx S') := by
  refine zMetH_of (by decide) hlt [(0, zr g 1), (1, .int (zi v1))] rfl (Nat.le_of_ble_eq_true rfl) (fun K hC hE hTb => ?_)
  unfold F_L_takeWord at h
  refine j_aload_n hC 0 dL_takeWord_0 rfl rfl ?_
  refine j_iload_n hC 1 dL_takeWord_1 rfl rfl ?_
  obtain ⟨r3, M1, S2, hy, hx5, hk6⟩ := zbx_ex h
  refine j_callHVv (ci := 7) hC hE lk_L_75 dL_takeWord_2 (c_X10_takeWord l hlt g v1 hv1 M S hF hy) [.int (zi v1)] [] (zFx_kd hF 1 rfl) ⟨_, rfl, by decide, rfl⟩ rfl rfl rfl (zcat (Nat.le_of_ble_eq_true rfl)) (Nat.le_of_ble_eq_true rfl) (Nat.le_of_ble_eq_true rfl) (Nat.le_of_ble_eq_true rfl) (Nat.le_of_ble_eq_true rfl) (fun e he hp7 => ?_) (fun u4 he hp7 => ?_)
  · have h := hx5 e he
    subst he
    have hF8 := hp7
    by_cases c9 : e = 3
    · have h := zt c9 h
      subst c9
      refine j_catch hC hTb (pre := []) (x := (0, 5, 8, 37)) (suf := [(0, 5, 11, 25)]) rfl (fun z hz => by cases hz) (Nat.le_of_ble_eq_true rfl) (Nat.le_of_ble_eq_true rfl) (by decide) cl_L_37 kc_3 (fun qx => ?_)
      refine j_sstore_n hC dL_takeWord_8 rfl (Nat.le_of_ble_eq_true rfl) rfl ?_
      refine j_iconst hC dL_takeWord_9 ?_
      obtain ⟨e1, e2, e3⟩ := zpr3 (Option.some.inj h)
      exact j_iret hC hE dL_takeWord_10 (w_id kR_1) (zn_i _) (by rw [← e1]) e2 e3 ⟨(by rw [← e1]; exact kR_1), (by rw [← e3]; exact hF8)⟩ (Nat.le_of_ble_eq_true rfl) (Nat.le_of_ble_eq_true rfl)
    have h := zf c9 h
    by_cases c10 : e = 2
    · have h := zt c10 h
      subst c10
      refine j_catch hC hTb (pre := [(0, 5, 8, 37)]) (x := (0, 5, 11, 25)) (suf := []) rfl (List.forall_mem_cons.mpr ⟨⟨by decide, _, cl_L_37, by decide +kernel⟩, (fun z hz => by cases hz)⟩) (Nat.le_of_ble_eq_true rfl) (Nat.le_of_ble_eq_true rfl) (by decide) cl_L_25 kc_2 (fun qx => ?_)
      refine j_sstore_n hC dL_takeWord_11 rfl (Nat.le_of_ble_eq_true rfl) rfl ?_
      refine j_iconst hC dL_takeWord_12 ?_
      obtain ⟨e1, e2, e3⟩ := zpr3 (Option.some.inj h)
      exact j_iret hC hE dL_takeWord_13 (w_id kR_2) (zn_i _) (by rw [← e1]) e2 e3 ⟨(by rw [← e1]; exact kR_2), (by rw [← e3]; exact hF8)⟩ (Nat.le_of_ble_eq_true rfl) (Nat.le_of_ble_eq_true rfl)
    have h := zf c10 h
    cases h
  · have h := hk6 u4 he
    subst he
    have hF8 := hp7
    refine j_goto hC dL_takeWord_5 rfl ?_
    refine j_iconst hC dL_takeWord_14 ?_
    obtain ⟨e1, e2, e3⟩ := zpr3 (Option.some.inj h)
    exact j_iret hC hE dL_takeWord_15 (w_id kR_0) (zn_i _) (by rw [← e1]) e2 e3 ⟨(by rw [← e1]; exact kR_0), (by rw [← e3]; exact hF8)⟩ (Nat.le_of_ble_eq_true rfl) (Nat.le_of_ble_eq_true rfl)
set_option maxHeartbeats 4000000 in
set_option maxRecDepth 100000 in
theorem c_L_letterAt (l : Launch) (hlt : l.stackTraces = false) (g : zG) (v1 : Int) (hv1 : inR v1) (M : zM) (S : zS) (hF : zFx S) {r : Int} {M' : zM} {S' : zS} (h : F_L_letterAt v1 M S = some (r, M', S')) : zMetH l g yL_letterAt cL_letterAt 4 (some .int) [(0, 9, 12, 25)] 4 1 6 [zr g 1, .int (zi v1), zr g 76] M S (.inl (some (.int (zi r)))) M' S' (inR r ∧ zFx S') := by
  refine zMetH_of (by decide) hlt [(0, zr g 1), (1, .int (zi v1)), (2, zr g 76)] rfl (Nat.le_of_ble_eq_true rfl) (fun K hC hE hTb => ?_)
  unfold F_L_letterAt at h
  refine j_aload_n hC 2 dL_letterAt_0 rfl rfl ?_
  refine j_iconst hC dL_letterAt_1 ?_
  refine j_aload_n hC 0 dL_letterAt_2 rfl rfl ?_
  refine j_iload_n hC 1 dL_letterAt_3 rfl rfl ?_
  obtain ⟨r4, M2, S3, hy, hx5, hk6⟩ := zbx_ex h
  refine j_callHVi (ci := 7) hC hE lk_L_78 dL_letterAt_4 (c_X10_letterAt l hlt g v1 hv1 M S hF hy) [.int (zi v1)] [.int (zi 0), zr g 76] (zFx_kd hF 1 rfl) ⟨_, rfl, by decide, rfl⟩ rfl rfl rfl (zcat (Nat.le_of_ble_eq_true rfl)) (Nat.le_of_ble_eq_true rfl) (Nat.le_of_ble_eq_true rfl) (Nat.le_of_ble_eq_true rfl) (Nat.le_of_ble_eq_true rfl) (fun e he hp7 => ?_) (fun r1 he hp7 => ?_)
  · have h := hx5 e he
    subst he
    have hF8 := hp7.2
    by_cases c9 : e = 2
    · have h := zt c9 h
      subst c9
      refine j_catch hC hTb (pre := []) (x := (0, 9, 12, 25)) (suf := []) rfl (fun z hz => by cases hz) (Nat.le_of_ble_eq_true rfl) (Nat.le_of_ble_eq_true rfl) (by decide) cl_L_25 kc_2 (fun qx => ?_)
      refine j_sstore_n hC dL_letterAt_12 rfl (Nat.le_of_ble_eq_true rfl) rfl ?_
      refine j_iconst hC dL_letterAt_13 ?_
      obtain ⟨e1, e2, e3⟩ := zpr3 (Option.some.inj h)
      exact j_iret hC hE dL_letterAt_14 (w_id kR_1) (zn_i _) (by rw [← e1]) e2 e3 ⟨(by rw [← e1]; exact kR_1), (by rw [← e3]; exact hF8)⟩ (Nat.le_of_ble_eq_true rfl) (Nat.le_of_ble_eq_true rfl)
    have h := zf c9 h
    cases h
  · have h := hk6 r1 he
    subst he
    dsimp only [zRXi, zRXl] at hp7
    obtain ⟨hr1, hF8⟩ := hp7
    refine j_i2l hC dL_letterAt_7 (w_id hr1) ?_
    obtain ⟨M10, eM10, h⟩ := zlet_ex h
    refine j_last (n := 1) hC dL_letterAt_8 (w_id kR_0) (wl_id (inL_R hr1)) (inL_R hr1) (zFx_kd hF8 76 rfl) (zFx_ln hF8 76 rfl) (by decide) (by decide) eM10 ?_
    refine j_goto hC dL_letterAt_9 rfl ?_
    refine j_iconst hC dL_letterAt_15 ?_
    obtain ⟨e1, e2, e3⟩ := zpr3 (Option.some.inj h)
    exact j_iret hC hE dL_letterAt_16 (w_id kR_0) (zn_i _) (by rw [← e1]) e2 e3 ⟨(by rw [← e1]; exact kR_0), (by rw [← e3]; exact hF8)⟩ (Nat.le_of_ble_eq_true rfl) (Nat.le_of_ble_eq_true rfl)
set_option maxHeartbeats 4000000 in
set_option maxRecDepth 100000 in
theorem c_L_isGenerated (l : Launch) (hlt : l.stackTraces = false) (g : zG) (M : zM) (S : zS) (hF : zFx S) {r : Int} {M' : zM} {S' : zS} (h : F_L_isGenerated M S = some (r, M', S')) : zMetH l g yL_isGenerated cL_isGenerated 3 (some .int) [(0, 15, 18, 37)] 10 1 6 [zr g 1, zr g 76] M S (.inl (some (.int (zi r)))) M' S' (inR r ∧ zFx S') := by
  refine zMetH_of (by decide) hlt [(0, zr g 1), (1, zr g 76)] rfl (Nat.le_of_ble_eq_true rfl) (fun K hC hE hTb => ?_)
  unfold F_L_isGenerated at h
  have J_14 : ∀ (t1 : Int) (t2 : Int) (ht1 : inR t1) (ht2 : inL t2) (M : zM) (S : zS) (hF : zFx S) (_ : F_L_isGenerated_J14 t1 t2 M S = some (r, M', S')), zJ K g 1 6 14 3 [] [.long (zl t2), .int (zi t1), zr g 76] M S := by
    intro t1 t2 ht1 ht2 M S hF h
    unfold F_L_isGenerated_J14 at h
    obtain ⟨c1, h⟩ := zchk_ex h
    obtain ⟨M2, eM2, h⟩ := zlet_ex h
    refine j_last (n := 1) hC dL_isGenerated_14 (w_id ht1) (wl_id ht2) ht2 (zFx_kd hF 76 rfl) (zFx_ln hF 76 rfl) c1.1 c1.2 eM2 ?_
    refine j_goto hC dL_isGenerated_15 rfl ?_
    refine j_iconst hC dL_isGenerated_21 ?_
    obtain ⟨e1, e2, e3⟩ := zpr3 (Option.some.inj h)
    exact j_iret hC hE dL_isGenerated_22 (w_id kR_0) (zn_i _) (by rw [← e1]) e2 e3 ⟨(by rw [← e1]; exact kR_0), (by rw [← e3]; exact hF)⟩ (Nat.le_of_ble_eq_true rfl) (Nat.le_of_ble_eq_true rfl)
  refine j_aload_n hC 1 dL_isGenerated_0 rfl rfl ?_
  refine j_iconst hC dL_isGenerated_1 ?_
  refine j_aload_n hC 0 dL_isGenerated_2 rfl rfl ?_
  obtain ⟨r6, M4, S5, hy, hx7, hk8⟩ := zbx_ex h
  refine j_callHVi (ci := 7) hC hE lk_L_82 dL_isGenerated_3 (c_X10_isGenerated l hlt g M S hF hy) [] [.int (zi 0), zr g 76] (zFx_kd hF 1 rfl) ⟨_, rfl, by decide, rfl⟩ rfl rfl rfl (zcat (Nat.le_of_ble_eq_true rfl)) (Nat.le_of_ble_eq_true rfl) (Nat.le_of_ble_eq_true rfl) (Nat.le_of_ble_eq_true rfl) (Nat.le_of_ble_eq_true rfl) (fun e he hp9 => ?_) (fun r3 he hp9 => ?_)
  · have h := hx7 e he
    subst he
    have hF10 := hp9.2
    by_cases c11 : e = 3
    · have h := zt c11 h
      subst c11
      refine j_catch hC hTb (pre := []) (x := (0, 15, 18, 37)) (suf := []) rfl (fun z hz => by cases hz) (Nat.le_of_ble_eq_true rfl) (Nat.le_of_ble_eq_true rfl) (by decide) cl_L_37 kc_3 (fun qx => ?_)
      refine j_sstore_n hC dL_isGenerated_18 rfl (Nat.le_of_ble_eq_true rfl) rfl ?_
      refine j_iconst hC dL_isGenerated_19 ?_
      obtain ⟨e1, e2, e3⟩ := zpr3 (Option.some.inj h)
      exact j_iret hC hE dL_isGenerated_20 (w_id kR_1) (zn_i _) (by rw [← e1]) e2 e3 ⟨(by rw [← e1]; exact kR_1), (by rw [← e3]; exact hF10)⟩ (Nat.le_of_ble_eq_true rfl) (Nat.le_of_ble_eq_true rfl)
    have h := zf c11 h
    cases h
  · have h := hk8 r3 he
    subst he
    dsimp only [zRXi, zRXl] at hp9
    obtain ⟨hr3, hF10⟩ := hp9
    refine j_if_eq hC dL_isGenerated_6 rfl (w_id hr3) (fun c12 => ?_) (fun c12 => ?_)
    · have h := zt c12 h
      refine j_lconst (z := 0) hC dL_isGenerated_13 rfl ?_
      refine j_sub [] rfl ?_
      exact J_14 0 0 kR_0 (inLc rfl) M4 S5 hF10 h
    · have h := zf c12 h
      refine j_lconst (z := 1) hC dL_isGenerated_9 rfl ?_
      refine j_goto hC dL_isGenerated_10 rfl ?_
      refine j_sub [] rfl ?_
      exact J_14 0 1 kR_0 (inLc rfl) M4 S5 hF10 h
set_option maxHeartbeats 4000000 in
set_option maxRecDepth 100000 in
theorem c_L_rank (l : Launch) (hlt : l.stackTraces = false) (g : zG) (M : zM) (S : zS) (hF : zFx S) {r : Int} {M' : zM} {S' : zS} (h : F_L_rank M S = some (r, M', S')) : zMetH l g yL_rank cL_rank 3 (some .int) [(0, 8, 11, 37), (0, 8, 14, 63)] 10 2 12 [zr g 1, zr g 76] M S (.inl (some (.int (zi r)))) M' S' (inR r ∧ zFx S') := by
  refine zMetH_of (by decide) hlt [(0, zr g 1), (1, zr g 76)] rfl (Nat.le_of_ble_eq_true rfl) (fun K hC hE hTb => ?_)
  unfold F_L_rank at h
  refine j_aload_n hC 1 dL_rank_0 rfl rfl ?_
  refine j_iconst hC dL_rank_1 ?_
  refine j_aload_n hC 0 dL_rank_2 rfl rfl ?_
  obtain ⟨r4, M2, S3, hy, hx5, hk6⟩ := zbx_ex h
  refine j_callHVi (ci := 7) hC hE lk_L_85 dL_rank_3 (c_X10_rank l hlt g M S hF hy) [] [.int (zi 0), zr g 76] (zFx_kd hF 1 rfl) ⟨_, rfl, by decide, rfl⟩ rfl rfl rfl (zcat (Nat.le_of_ble_eq_true rfl)) (Nat.le_of_ble_eq_true rfl) (Nat.le_of_ble_eq_true rfl) (Nat.le_of_ble_eq_true rfl) (Nat.le_of_ble_eq_true rfl) (fun e he hp7 => ?_) (fun r1 he hp7 => ?_)
  · have h := hx5 e he
    subst he
    have hF8 := hp7.2
    by_cases c9 : e = 3
    · have h := zt c9 h
      subst c9
      refine j_catch hC hTb (pre := []) (x := (0, 8, 11, 37)) (suf := [(0, 8, 14, 63)]) rfl (fun z hz => by cases hz) (Nat.le_of_ble_eq_true rfl) (Nat.le_of_ble_eq_true rfl) (by decide) cl_L_37 kc_3 (fun qx => ?_)
      refine j_sstore_n hC dL_rank_11 rfl (Nat.le_of_ble_eq_true rfl) rfl ?_
      refine j_iconst hC dL_rank_12 ?_
      obtain ⟨e1, e2, e3⟩ := zpr3 (Option.some.inj h)
      exact j_iret hC hE dL_rank_13 (w_id kR_1) (zn_i _) (by rw [← e1]) e2 e3 ⟨(by rw [← e1]; exact kR_1), (by rw [← e3]; exact hF8)⟩ (Nat.le_of_ble_eq_true rfl) (Nat.le_of_ble_eq_true rfl)
    have h := zf c9 h
    by_cases c10 : e = 4
    · have h := zt c10 h
      subst c10
      refine j_catch hC hTb (pre := [(0, 8, 11, 37)]) (x := (0, 8, 14, 63)) (suf := []) rfl (List.forall_mem_cons.mpr ⟨⟨by decide, _, cl_L_37, by decide +kernel⟩, (fun z hz => by cases hz)⟩) (Nat.le_of_ble_eq_true rfl) (Nat.le_of_ble_eq_true rfl) (by decide) cl_L_63 kc_4 (fun qx => ?_)
      refine j_sstore_n hC dL_rank_14 rfl (Nat.le_of_ble_eq_true rfl) rfl ?_
      refine j_iconst hC dL_rank_15 ?_
      obtain ⟨e1, e2, e3⟩ := zpr3 (Option.some.inj h)
      exact j_iret hC hE dL_rank_16 (w_id kR_2) (zn_i _) (by rw [← e1]) e2 e3 ⟨(by rw [← e1]; exact kR_2), (by rw [← e3]; exact hF8)⟩ (Nat.le_of_ble_eq_true rfl) (Nat.le_of_ble_eq_true rfl)
    have h := zf c10 h
    cases h
  · have h := hk6 r1 he
    subst he
    dsimp only [zRXi, zRXl] at hp7
    obtain ⟨hr1, hF8⟩ := hp7
    refine j_i2l hC dL_rank_6 (w_id hr1) ?_
    obtain ⟨M11, eM11, h⟩ := zlet_ex h
    refine j_last (n := 1) hC dL_rank_7 (w_id kR_0) (wl_id (inL_R hr1)) (inL_R hr1) (zFx_kd hF8 76 rfl) (zFx_ln hF8 76 rfl) (by decide) (by decide) eM11 ?_
    refine j_goto hC dL_rank_8 rfl ?_
    refine j_iconst hC dL_rank_17 ?_
    obtain ⟨e1, e2, e3⟩ := zpr3 (Option.some.inj h)
    exact j_iret hC hE dL_rank_18 (w_id kR_0) (zn_i _) (by rw [← e1]) e2 e3 ⟨(by rw [← e1]; exact kR_0), (by rw [← e3]; exact hF8)⟩ (Nat.le_of_ble_eq_true rfl) (Nat.le_of_ble_eq_true rfl)
set_option maxHeartbeats 4000000 in
set_option maxRecDepth 100000 in
theorem c_L_derivationLength (l : Launch) (hlt : l.stackTraces = false) (g : zG) (M : zM) (S : zS) (hF : zFx S) {r : Int} {M' : zM} {S' : zS} (h : F_L_derivationLength M S = some (r, M', S')) : zMetH l g yL_derivationLength cL_derivationLength 3 (some .int) [(0, 8, 11, 37), (0, 8, 14, 63)] 10 2 12 [zr g 1, zr g 76] M S (.inl (some (.int (zi r)))) M' S' (inR r ∧ zFx S') := by
  refine zMetH_of (by decide) hlt [(0, zr g 1), (1, zr g 76)] rfl (Nat.le_of_ble_eq_true rfl) (fun K hC hE hTb => ?_)
  unfold F_L_derivationLength at h
  refine j_aload_n hC 1 dL_derivationLength_0 rfl rfl ?_
  refine j_iconst hC dL_derivationLength_1 ?_
  refine j_aload_n hC 0 dL_derivationLength_2 rfl rfl ?_
  obtain ⟨r4, M2, S3, hy, hx5, hk6⟩ := zbx_ex h
  refine j_callHVi (ci := 7) hC hE lk_L_88 dL_derivationLength_3 (c_X10_derivationLength l hlt g M S hF hy) [] [.int (zi 0), zr g 76] (zFx_kd hF 1 rfl) ⟨_, rfl, by decide, rfl⟩ rfl rfl rfl (zcat (Nat.le_of_ble_eq_true rfl)) (Nat.le_of_ble_eq_true rfl) (Nat.le_of_ble_eq_true rfl) (Nat.le_of_ble_eq_true rfl) (Nat.le_of_ble_eq_true rfl) (fun e he hp7 => ?_) (fun r1 he hp7 => ?_)
  · have h := hx5 e he
    subst he
    have hF8 := hp7.2
    by_cases c9 : e = 3
    · have h := zt c9 h
      subst c9
      refine j_catch hC hTb (pre := []) (x := (0, 8, 11, 37)) (suf := [(0, 8, 14, 63)]) rfl (fun z hz => by cases hz) (Nat.le_of_ble_eq_true rfl) (Nat.le_of_ble_eq_true rfl) (by decide) cl_L_37 kc_3 (fun qx => ?_)
      refine j_sstore_n hC dL_derivationLength_11 rfl (Nat.le_of_ble_eq_true rfl) rfl ?_
      refine j_iconst hC dL_derivationLength_12 ?_
      obtain ⟨e1, e2, e3⟩ := zpr3 (Option.some.inj h)
      exact j_iret hC hE dL_derivationLength_13 (w_id kR_1) (zn_i _) (by rw [← e1]) e2 e3 ⟨(by rw [← e1]; exact kR_1), (by rw [← e3]; exact hF8)⟩ (Nat.le_of_ble_eq_true rfl) (Nat.le_of_ble_eq_true rfl)
    have h := zf c9 h
    by_cases c10 : e = 4
    · have h := zt c10 h
      subst c10
      refine j_catch hC hTb (pre := [(0, 8, 11, 37)]) (x := (0, 8, 14, 63)) (suf := []) rfl (List.forall_mem_cons.mpr ⟨⟨by decide, _, cl_L_37, by decide +kernel⟩, (fun z hz => by cases hz)⟩) (Nat.le_of_ble_eq_true rfl) (Nat.le_of_ble_eq_true rfl) (by decide) cl_L_63 kc_4 (fun qx => ?_)
      refine j_sstore_n hC dL_derivationLength_14 rfl (Nat.le_of_ble_eq_true rfl) rfl ?_
      refine j_iconst hC dL_derivationLength_15 ?_
      obtain ⟨e1, e2, e3⟩ := zpr3 (Option.some.inj h)
      exact j_iret hC hE dL_derivationLength_16 (w_id kR_2) (zn_i _) (by rw [← e1]) e2 e3 ⟨(by rw [← e1]; exact kR_2), (by rw [← e3]; exact hF8)⟩ (Nat.le_of_ble_eq_true rfl) (Nat.le_of_ble_eq_true rfl)
    have h := zf c10 h
    cases h
  · have h := hk6 r1 he
    subst he
    dsimp only [zRXi, zRXl] at hp7
    obtain ⟨hr1, hF8⟩ := hp7
    refine j_i2l hC dL_derivationLength_6 (w_id hr1) ?_
    obtain ⟨M11, eM11, h⟩ := zlet_ex h
    refine j_last (n := 1) hC dL_derivationLength_7 (w_id kR_0) (wl_id (inL_R hr1)) (inL_R hr1) (zFx_kd hF8 76 rfl) (zFx_ln hF8 76 rfl) (by decide) (by decide) eM11 ?_
    refine j_goto hC dL_derivationLength_8 rfl ?_
    refine j_iconst hC dL_derivationLength_17 ?_
    obtain ⟨e1, e2, e3⟩ := zpr3 (Option.some.inj h)
    exact j_iret hC hE dL_derivationLength_18 (w_id kR_0) (zn_i _) (by rw [← e1]) e2 e3 ⟨(by rw [← e1]; exact kR_0), (by rw [← e3]; exact hF8)⟩ (Nat.le_of_ble_eq_true rfl) (Nat.le_of_ble_eq_true rfl)
set_option maxHeartbeats 4000000 in
set_option maxRecDepth 100000 in
theorem c_L_derivationStep (l : Launch) (hlt : l.stackTraces = false) (g : zG) (v1 : Int) (v2 : Int) (hv1 : inR v1) (hv2 : inR v2) (M : zM) (S : zS) (hF : zFx S) {r : Int} {M' : zM} {S' : zS} (h : F_L_derivationStep v1 v2 M S = some (r, M', S')) : zMetH l g yL_derivationStep cL_derivationStep 5 (some .int) [(0, 10, 13, 19), (0, 10, 17, 37), (0, 10, 21, 63), (0, 10, 25, 25)] 10 3 18 [zr g 1, .int (zi v1), .int (zi v2), zr g 76] M S (.inl (some (.int (zi r)))) M' S' (inR r ∧ zFx S') := by
  refine zMetH_of (by decide) hlt [(0, zr g 1), (1, .int (zi v1)), (2, .int (zi v2)), (3, zr g 76)] rfl (Nat.le_of_ble_eq_true rfl) (fun K hC hE hTb => ?_)
  unfold F_L_derivationStep at h
  refine j_aload_n hC 3 dL_derivationStep_0 rfl rfl ?_
  refine j_iconst hC dL_derivationStep_1 ?_
  refine j_aload_n hC 0 dL_derivationStep_2 rfl rfl ?_
  refine j_iload_n hC 1 dL_derivationStep_3 rfl rfl ?_
  refine j_iload_n hC 2 dL_derivationStep_4 rfl rfl ?_
  obtain ⟨r4, M2, S3, hy, hx5, hk6⟩ := zbx_ex h
  refine j_callHVi (ci := 7) hC hE lk_L_91 dL_derivationStep_5 (c_X10_derivationStep l hlt g v1 v2 hv1 hv2 M S hF hy) [.int (zi v1), .int (zi v2)] [.int (zi 0), zr g 76] (zFx_kd hF 1 rfl) ⟨_, rfl, by decide, rfl⟩ rfl rfl rfl (zcat (Nat.le_of_ble_eq_true rfl)) (Nat.le_of_ble_eq_true rfl) (Nat.le_of_ble_eq_true rfl) (Nat.le_of_ble_eq_true rfl) (Nat.le_of_ble_eq_true rfl) (fun e he hp7 => ?_) (fun r1 he hp7 => ?_)
  · have h := hx5 e he
    subst he
    have hF8 := hp7.2
    by_cases c9 : e = 1
    · have h := zt c9 h
      subst c9
      refine j_catch hC hTb (pre := []) (x := (0, 10, 13, 19)) (suf := [(0, 10, 17, 37), (0, 10, 21, 63), (0, 10, 25, 25)]) rfl (fun z hz => by cases hz) (Nat.le_of_ble_eq_true rfl) (Nat.le_of_ble_eq_true rfl) (by decide) cl_L_19 kc_1 (fun qx => ?_)
      refine j_sstore hC dL_derivationStep_13 (Nat.le_of_ble_eq_true rfl) rfl ?_
      refine j_iconst hC dL_derivationStep_15 ?_
      obtain ⟨e1, e2, e3⟩ := zpr3 (Option.some.inj h)
      exact j_iret hC hE dL_derivationStep_16 (w_id kR_1) (zn_i _) (by rw [← e1]) e2 e3 ⟨(by rw [← e1]; exact kR_1), (by rw [← e3]; exact hF8)⟩ (Nat.le_of_ble_eq_true rfl) (Nat.le_of_ble_eq_true rfl)
    have h := zf c9 h
    by_cases c10 : e = 3
    · have h := zt c10 h
      subst c10
      refine j_catch hC hTb (pre := [(0, 10, 13, 19)]) (x := (0, 10, 17, 37)) (suf := [(0, 10, 21, 63), (0, 10, 25, 25)]) rfl (List.forall_mem_cons.mpr ⟨⟨by decide, _, cl_L_19, by decide +kernel⟩, (fun z hz => by cases hz)⟩) (Nat.le_of_ble_eq_true rfl) (Nat.le_of_ble_eq_true rfl) (by decide) cl_L_37 kc_3 (fun qx => ?_)
      refine j_sstore hC dL_derivationStep_17 (Nat.le_of_ble_eq_true rfl) rfl ?_
      refine j_iconst hC dL_derivationStep_19 ?_
      obtain ⟨e1, e2, e3⟩ := zpr3 (Option.some.inj h)
      exact j_iret hC hE dL_derivationStep_20 (w_id kR_2) (zn_i _) (by rw [← e1]) e2 e3 ⟨(by rw [← e1]; exact kR_2), (by rw [← e3]; exact hF8)⟩ (Nat.le_of_ble_eq_true rfl) (Nat.le_of_ble_eq_true rfl)
    have h := zf c10 h
    by_cases c11 : e = 4
    · have h := zt c11 h
      subst c11
      refine j_catch hC hTb (pre := [(0, 10, 13, 19), (0, 10, 17, 37)]) (x := (0, 10, 21, 63)) (suf := [(0, 10, 25, 25)]) rfl (List.forall_mem_cons.mpr ⟨⟨by decide, _, cl_L_19, by decide +kernel⟩, (List.forall_mem_cons.mpr ⟨⟨by decide, _, cl_L_37, by decide +kernel⟩, (fun z hz => by cases hz)⟩)⟩) (Nat.le_of_ble_eq_true rfl) (Nat.le_of_ble_eq_true rfl) (by decide) cl_L_63 kc_4 (fun qx => ?_)
      refine j_sstore hC dL_derivationStep_21 (Nat.le_of_ble_eq_true rfl) rfl ?_
      refine j_iconst hC dL_derivationStep_23 ?_
      obtain ⟨e1, e2, e3⟩ := zpr3 (Option.some.inj h)
      exact j_iret hC hE dL_derivationStep_24 (w_id kR_3) (zn_i _) (by rw [← e1]) e2 e3 ⟨(by rw [← e1]; exact kR_3), (by rw [← e3]; exact hF8)⟩ (Nat.le_of_ble_eq_true rfl) (Nat.le_of_ble_eq_true rfl)
    have h := zf c11 h
    by_cases c12 : e = 2
    · have h := zt c12 h
      subst c12
      refine j_catch hC hTb (pre := [(0, 10, 13, 19), (0, 10, 17, 37), (0, 10, 21, 63)]) (x := (0, 10, 25, 25)) (suf := []) rfl (List.forall_mem_cons.mpr ⟨⟨by decide, _, cl_L_19, by decide +kernel⟩, (List.forall_mem_cons.mpr ⟨⟨by decide, _, cl_L_37, by decide +kernel⟩, (List.forall_mem_cons.mpr ⟨⟨by decide, _, cl_L_63, by decide +kernel⟩, (fun z hz => by cases hz)⟩)⟩)⟩) (Nat.le_of_ble_eq_true rfl) (Nat.le_of_ble_eq_true rfl) (by decide) cl_L_25 kc_2 (fun qx => ?_)
      refine j_sstore hC dL_derivationStep_25 (Nat.le_of_ble_eq_true rfl) rfl ?_
      refine j_iconst hC dL_derivationStep_27 ?_
      obtain ⟨e1, e2, e3⟩ := zpr3 (Option.some.inj h)
      exact j_iret hC hE dL_derivationStep_28 (w_id kR_4) (zn_i _) (by rw [← e1]) e2 e3 ⟨(by rw [← e1]; exact kR_4), (by rw [← e3]; exact hF8)⟩ (Nat.le_of_ble_eq_true rfl) (Nat.le_of_ble_eq_true rfl)
    have h := zf c12 h
    cases h
  · have h := hk6 r1 he
    subst he
    dsimp only [zRXi, zRXl] at hp7
    obtain ⟨hr1, hF8⟩ := hp7
    refine j_i2l hC dL_derivationStep_8 (w_id hr1) ?_
    obtain ⟨M13, eM13, h⟩ := zlet_ex h
    refine j_last (n := 1) hC dL_derivationStep_9 (w_id kR_0) (wl_id (inL_R hr1)) (inL_R hr1) (zFx_kd hF8 76 rfl) (zFx_ln hF8 76 rfl) (by decide) (by decide) eM13 ?_
    refine j_goto hC dL_derivationStep_10 rfl ?_
    refine j_iconst hC dL_derivationStep_29 ?_
    obtain ⟨e1, e2, e3⟩ := zpr3 (Option.some.inj h)
    exact j_iret hC hE dL_derivationStep_30 (w_id kR_0) (zn_i _) (by rw [← e1]) e2 e3 ⟨(by rw [← e1]; exact kR_0), (by rw [← e3]; exact hF8)⟩ (Nat.le_of_ble_eq_true rfl) (Nat.le_of_ble_eq_true rfl)
set_option maxHeartbeats 4000000 in
set_option maxRecDepth 100000 in
theorem c_L_derivations (l : Launch) (hlt : l.stackTraces = false) (g : zG) (M : zM) (S : zS) (hF : zFx S) {r : Int} {M' : zM} {S' : zS} (h : F_L_derivations M S = some (r, M', S')) : zMetH l g yL_derivations cL_derivations 3 (some .int) [(0, 7, 10, 37)] 10 1 6 [zr g 1, zr g 76] M S (.inl (some (.int (zi r)))) M' S' (inR r ∧ zFx S') := by
  refine zMetH_of (by decide) hlt [(0, zr g 1), (1, zr g 76)] rfl (Nat.le_of_ble_eq_true rfl) (fun K hC hE hTb => ?_)
  unfold F_L_derivations at h
  refine j_aload_n hC 1 dL_derivations_0 rfl rfl ?_
  refine j_iconst hC dL_derivations_1 ?_
  refine j_aload_n hC 0 dL_derivations_2 rfl rfl ?_
  obtain ⟨r4, M2, S3, hy, hx5, hk6⟩ := zbx_ex h
  refine j_callHVl (ci := 7) hC hE lk_L_95 dL_derivations_3 (c_X10_derivations l hlt g M S hF hy) [] [.int (zi 0), zr g 76] (zFx_kd hF 1 rfl) ⟨_, rfl, by decide, rfl⟩ rfl rfl rfl (zcat (Nat.le_of_ble_eq_true rfl)) (Nat.le_of_ble_eq_true rfl) (Nat.le_of_ble_eq_true rfl) (Nat.le_of_ble_eq_true rfl) (Nat.le_of_ble_eq_true rfl) (fun e he hp7 => ?_) (fun r1 he hp7 => ?_)
  · have h := hx5 e he
    subst he
    have hF8 := hp7.2
    by_cases c9 : e = 3
    · have h := zt c9 h
      subst c9
      refine j_catch hC hTb (pre := []) (x := (0, 7, 10, 37)) (suf := []) rfl (fun z hz => by cases hz) (Nat.le_of_ble_eq_true rfl) (Nat.le_of_ble_eq_true rfl) (by decide) cl_L_37 kc_3 (fun qx => ?_)
      refine j_sstore_n hC dL_derivations_10 rfl (Nat.le_of_ble_eq_true rfl) rfl ?_
      refine j_iconst hC dL_derivations_11 ?_
      obtain ⟨e1, e2, e3⟩ := zpr3 (Option.some.inj h)
      exact j_iret hC hE dL_derivations_12 (w_id kR_1) (zn_i _) (by rw [← e1]) e2 e3 ⟨(by rw [← e1]; exact kR_1), (by rw [← e3]; exact hF8)⟩ (Nat.le_of_ble_eq_true rfl) (Nat.le_of_ble_eq_true rfl)
    have h := zf c9 h
    cases h
  · have h := hk6 r1 he
    subst he
    dsimp only [zRXi, zRXl] at hp7
    obtain ⟨hr1, hF8⟩ := hp7
    obtain ⟨M10, eM10, h⟩ := zlet_ex h
    refine j_last (n := 1) hC dL_derivations_6 (w_id kR_0) (wl_id hr1) hr1 (zFx_kd hF8 76 rfl) (zFx_ln hF8 76 rfl) (by decide) (by decide) eM10 ?_
    refine j_goto hC dL_derivations_7 rfl ?_
    refine j_iconst hC dL_derivations_13 ?_
    obtain ⟨e1, e2, e3⟩ := zpr3 (Option.some.inj h)
    exact j_iret hC hE dL_derivations_14 (w_id kR_0) (zn_i _) (by rw [← e1]) e2 e3 ⟨(by rw [← e1]; exact kR_0), (by rw [← e3]; exact hF8)⟩ (Nat.le_of_ble_eq_true rfl) (Nat.le_of_ble_eq_true rfl)
set_option maxHeartbeats 4000000 in
set_option maxRecDepth 100000 in
theorem c_L_insert (l : Launch) (hlt : l.stackTraces = false) (g : zG) (v1 : Int) (hv1 : inR v1) (M : zM) (S : zS) (hF : zFx S) {r : Int} {M' : zM} {S' : zS} (h : F_L_insert v1 M S = some (r, M', S')) : zMetH l g yL_insert cL_insert 4 (some .int) [(0, 9, 12, 25)] 8 1 6 [zr g 1, .int (zi v1), zr g 76] M S (.inl (some (.int (zi r)))) M' S' (inR r ∧ zFx S') := by
  refine zMetH_of (by decide) hlt [(0, zr g 1), (1, .int (zi v1)), (2, zr g 76)] rfl (Nat.le_of_ble_eq_true rfl) (fun K hC hE hTb => ?_)
  unfold F_L_insert at h
  refine j_aload_n hC 2 dL_insert_0 rfl rfl ?_
  refine j_iconst hC dL_insert_1 ?_
  refine j_aload_n hC 0 dL_insert_2 rfl rfl ?_
  refine j_iload_n hC 1 dL_insert_3 rfl rfl ?_
  obtain ⟨r4, M2, S3, hy, hx5, hk6⟩ := zbx_ex h
  refine j_callHVi (ci := 7) hC hE lk_L_99 dL_insert_4 (c_X10_insert l hlt g v1 hv1 M S hF hy) [.int (zi v1)] [.int (zi 0), zr g 76] (zFx_kd hF 1 rfl) ⟨_, rfl, by decide, rfl⟩ rfl rfl rfl (zcat (Nat.le_of_ble_eq_true rfl)) (Nat.le_of_ble_eq_true rfl) (Nat.le_of_ble_eq_true rfl) (Nat.le_of_ble_eq_true rfl) (Nat.le_of_ble_eq_true rfl) (fun e he hp7 => ?_) (fun r1 he hp7 => ?_)
  · have h := hx5 e he
    subst he
    have hF8 := hp7.2
    by_cases c9 : e = 2
    · have h := zt c9 h
      subst c9
      refine j_catch hC hTb (pre := []) (x := (0, 9, 12, 25)) (suf := []) rfl (fun z hz => by cases hz) (Nat.le_of_ble_eq_true rfl) (Nat.le_of_ble_eq_true rfl) (by decide) cl_L_25 kc_2 (fun qx => ?_)
      refine j_sstore_n hC dL_insert_12 rfl (Nat.le_of_ble_eq_true rfl) rfl ?_
      refine j_iconst hC dL_insert_13 ?_
      obtain ⟨e1, e2, e3⟩ := zpr3 (Option.some.inj h)
      exact j_iret hC hE dL_insert_14 (w_id kR_1) (zn_i _) (by rw [← e1]) e2 e3 ⟨(by rw [← e1]; exact kR_1), (by rw [← e3]; exact hF8)⟩ (Nat.le_of_ble_eq_true rfl) (Nat.le_of_ble_eq_true rfl)
    have h := zf c9 h
    cases h
  · have h := hk6 r1 he
    subst he
    dsimp only [zRXi, zRXl] at hp7
    obtain ⟨hr1, hF8⟩ := hp7
    refine j_i2l hC dL_insert_7 (w_id hr1) ?_
    obtain ⟨M10, eM10, h⟩ := zlet_ex h
    refine j_last (n := 1) hC dL_insert_8 (w_id kR_0) (wl_id (inL_R hr1)) (inL_R hr1) (zFx_kd hF8 76 rfl) (zFx_ln hF8 76 rfl) (by decide) (by decide) eM10 ?_
    refine j_goto hC dL_insert_9 rfl ?_
    refine j_iconst hC dL_insert_15 ?_
    obtain ⟨e1, e2, e3⟩ := zpr3 (Option.some.inj h)
    exact j_iret hC hE dL_insert_16 (w_id kR_0) (zn_i _) (by rw [← e1]) e2 e3 ⟨(by rw [← e1]; exact kR_0), (by rw [← e3]; exact hF8)⟩ (Nat.le_of_ble_eq_true rfl) (Nat.le_of_ble_eq_true rfl)
set_option maxHeartbeats 4000000 in
set_option maxRecDepth 100000 in
theorem c_L_reduce (l : Launch) (hlt : l.stackTraces = false) (g : zG) (v1 : Int) (hv1 : inR v1) (M : zM) (S : zS) (hF : zFx S) {r : Int} {M' : zM} {S' : zS} (h : F_L_reduce v1 M S = some (r, M', S')) : zMetH l g yL_reduce cL_reduce 4 (some .int) [(0, 9, 12, 25)] 8 1 6 [zr g 1, .int (zi v1), zr g 76] M S (.inl (some (.int (zi r)))) M' S' (inR r ∧ zFx S') := by
  refine zMetH_of (by decide) hlt [(0, zr g 1), (1, .int (zi v1)), (2, zr g 76)] rfl (Nat.le_of_ble_eq_true rfl) (fun K hC hE hTb => ?_)
  unfold F_L_reduce at h
  refine j_aload_n hC 2 dL_reduce_0 rfl rfl ?_
  refine j_iconst hC dL_reduce_1 ?_
  refine j_aload_n hC 0 dL_reduce_2 rfl rfl ?_
  refine j_iload_n hC 1 dL_reduce_3 rfl rfl ?_
  obtain ⟨r4, M2, S3, hy, hx5, hk6⟩ := zbx_ex h
  refine j_callHVi (ci := 7) hC hE lk_L_102 dL_reduce_4 (c_X10_reduce l hlt g v1 hv1 M S hF hy) [.int (zi v1)] [.int (zi 0), zr g 76] (zFx_kd hF 1 rfl) ⟨_, rfl, by decide, rfl⟩ rfl rfl rfl (zcat (Nat.le_of_ble_eq_true rfl)) (Nat.le_of_ble_eq_true rfl) (Nat.le_of_ble_eq_true rfl) (Nat.le_of_ble_eq_true rfl) (Nat.le_of_ble_eq_true rfl) (fun e he hp7 => ?_) (fun r1 he hp7 => ?_)
  · have h := hx5 e he
    subst he
    have hF8 := hp7.2
    by_cases c9 : e = 2
    · have h := zt c9 h
      subst c9
      refine j_catch hC hTb (pre := []) (x := (0, 9, 12, 25)) (suf := []) rfl (fun z hz => by cases hz) (Nat.le_of_ble_eq_true rfl) (Nat.le_of_ble_eq_true rfl) (by decide) cl_L_25 kc_2 (fun qx => ?_)
      refine j_sstore_n hC dL_reduce_12 rfl (Nat.le_of_ble_eq_true rfl) rfl ?_
      refine j_iconst hC dL_reduce_13 ?_
      obtain ⟨e1, e2, e3⟩ := zpr3 (Option.some.inj h)
      exact j_iret hC hE dL_reduce_14 (w_id kR_1) (zn_i _) (by rw [← e1]) e2 e3 ⟨(by rw [← e1]; exact kR_1), (by rw [← e3]; exact hF8)⟩ (Nat.le_of_ble_eq_true rfl) (Nat.le_of_ble_eq_true rfl)
    have h := zf c9 h
    cases h
  · have h := hk6 r1 he
    subst he
    dsimp only [zRXi, zRXl] at hp7
    obtain ⟨hr1, hF8⟩ := hp7
    refine j_i2l hC dL_reduce_7 (w_id hr1) ?_
    obtain ⟨M10, eM10, h⟩ := zlet_ex h
    refine j_last (n := 1) hC dL_reduce_8 (w_id kR_0) (wl_id (inL_R hr1)) (inL_R hr1) (zFx_kd hF8 76 rfl) (zFx_ln hF8 76 rfl) (by decide) (by decide) eM10 ?_
    refine j_goto hC dL_reduce_9 rfl ?_
    refine j_iconst hC dL_reduce_15 ?_
    obtain ⟨e1, e2, e3⟩ := zpr3 (Option.some.inj h)
    exact j_iret hC hE dL_reduce_16 (w_id kR_0) (zn_i _) (by rw [← e1]) e2 e3 ⟨(by rw [← e1]; exact kR_0), (by rw [← e3]; exact hF8)⟩ (Nat.le_of_ble_eq_true rfl) (Nat.le_of_ble_eq_true rfl)
set_option maxHeartbeats 4000000 in
set_option maxRecDepth 100000 in
theorem c_L_normalize (l : Launch) (hlt : l.stackTraces = false) (g : zG) (v1 : Int) (hv1 : inR v1) (M : zM) (S : zS) (hF : zFx S) {r : Int} {M' : zM} {S' : zS} (h : F_L_normalize v1 M S = some (r, M', S')) : zMetH l g yL_normalize cL_normalize 3 (some .int) [(0, 5, 8, 25)] 50 1 6 [zr g 1, .int (zi v1)] M S (.inl (some (.int (zi r)))) M' S' (inR r ∧ zFx S') := by
  refine zMetH_of (by decide) hlt [(0, zr g 1), (1, .int (zi v1))] rfl (Nat.le_of_ble_eq_true rfl) (fun K hC hE hTb => ?_)
  unfold F_L_normalize at h
  refine j_aload_n hC 0 dL_normalize_0 rfl rfl ?_
  refine j_iload_n hC 1 dL_normalize_1 rfl rfl ?_
  obtain ⟨r3, M1, S2, hy, hx5, hk6⟩ := zbx_ex h
  refine j_callHVv (ci := 7) hC hE lk_L_105 dL_normalize_2 (c_X10_normalize l hlt g v1 hv1 M S hF hy) [.int (zi v1)] [] (zFx_kd hF 1 rfl) ⟨_, rfl, by decide, rfl⟩ rfl rfl rfl (zcat (Nat.le_of_ble_eq_true rfl)) (Nat.le_of_ble_eq_true rfl) (Nat.le_of_ble_eq_true rfl) (Nat.le_of_ble_eq_true rfl) (Nat.le_of_ble_eq_true rfl) (fun e he hp7 => ?_) (fun u4 he hp7 => ?_)
  · have h := hx5 e he
    subst he
    have hF8 := hp7
    by_cases c9 : e = 2
    · have h := zt c9 h
      subst c9
      refine j_catch hC hTb (pre := []) (x := (0, 5, 8, 25)) (suf := []) rfl (fun z hz => by cases hz) (Nat.le_of_ble_eq_true rfl) (Nat.le_of_ble_eq_true rfl) (by decide) cl_L_25 kc_2 (fun qx => ?_)
      refine j_sstore_n hC dL_normalize_8 rfl (Nat.le_of_ble_eq_true rfl) rfl ?_
      refine j_iconst hC dL_normalize_9 ?_
      obtain ⟨e1, e2, e3⟩ := zpr3 (Option.some.inj h)
      exact j_iret hC hE dL_normalize_10 (w_id kR_1) (zn_i _) (by rw [← e1]) e2 e3 ⟨(by rw [← e1]; exact kR_1), (by rw [← e3]; exact hF8)⟩ (Nat.le_of_ble_eq_true rfl) (Nat.le_of_ble_eq_true rfl)
    have h := zf c9 h
    cases h
  · have h := hk6 u4 he
    subst he
    have hF8 := hp7
    refine j_goto hC dL_normalize_5 rfl ?_
    refine j_iconst hC dL_normalize_11 ?_
    obtain ⟨e1, e2, e3⟩ := zpr3 (Option.some.inj h)
    exact j_iret hC hE dL_normalize_12 (w_id kR_0) (zn_i _) (by rw [← e1]) e2 e3 ⟨(by rw [← e1]; exact kR_0), (by rw [← e3]; exact hF8)⟩ (Nat.le_of_ble_eq_true rfl) (Nat.le_of_ble_eq_true rfl)
set_option maxHeartbeats 4000000 in
set_option maxRecDepth 100000 in
theorem c_L_allocate (l : Launch) (hlt : l.stackTraces = false) (g : zG) (v1 : Int) (v2 : Int) (v3 : Int) (hv1 : inR v1) (hv2 : inR v2) (hv3 : inR v3) (M : zM) (S : zS) (hF : zFx S) {r : Int} {M' : zM} {S' : zS} (h : F_L_allocate v1 v2 v3 M S = some (r, M', S')) : zMetH l g yL_allocate cL_allocate 5 (some .int) [(0, 7, 10, 25), (0, 7, 14, 19)] 4 2 12 [zr g 1, .int (zi v1), .int (zi v2), .int (zi v3)] M S (.inl (some (.int (zi r)))) M' S' (inR r ∧ zFx S') := by
  refine zMetH_of (by decide) hlt [(0, zr g 1), (1, .int (zi v1)), (2, .int (zi v2)), (3, .int (zi v3))] rfl (Nat.le_of_ble_eq_true rfl) (fun K hC hE hTb => ?_)
  unfold F_L_allocate at h
  refine j_aload_n hC 0 dL_allocate_0 rfl rfl ?_
  refine j_iload_n hC 1 dL_allocate_1 rfl rfl ?_
  refine j_iload_n hC 2 dL_allocate_2 rfl rfl ?_
  refine j_iload_n hC 3 dL_allocate_3 rfl rfl ?_
  obtain ⟨r3, M1, S2, hy, hx5, hk6⟩ := zbx_ex h
  refine j_callHVv (ci := 7) hC hE lk_L_108 dL_allocate_4 (c_X10_allocate l hlt g v1 v2 v3 hv1 hv2 hv3 M S hF hy) [.int (zi v1), .int (zi v2), .int (zi v3)] [] (zFx_kd hF 1 rfl) ⟨_, rfl, by decide, rfl⟩ rfl rfl rfl (zcat (Nat.le_of_ble_eq_true rfl)) (Nat.le_of_ble_eq_true rfl) (Nat.le_of_ble_eq_true rfl) (Nat.le_of_ble_eq_true rfl) (Nat.le_of_ble_eq_true rfl) (fun e he hp7 => ?_) (fun u4 he hp7 => ?_)
  · have h := hx5 e he
    subst he
    have hF8 := hp7
    by_cases c9 : e = 2
    · have h := zt c9 h
      subst c9
      refine j_catch hC hTb (pre := []) (x := (0, 7, 10, 25)) (suf := [(0, 7, 14, 19)]) rfl (fun z hz => by cases hz) (Nat.le_of_ble_eq_true rfl) (Nat.le_of_ble_eq_true rfl) (by decide) cl_L_25 kc_2 (fun qx => ?_)
      refine j_sstore hC dL_allocate_10 (Nat.le_of_ble_eq_true rfl) rfl ?_
      refine j_iconst hC dL_allocate_12 ?_
      obtain ⟨e1, e2, e3⟩ := zpr3 (Option.some.inj h)
      exact j_iret hC hE dL_allocate_13 (w_id kR_1) (zn_i _) (by rw [← e1]) e2 e3 ⟨(by rw [← e1]; exact kR_1), (by rw [← e3]; exact hF8)⟩ (Nat.le_of_ble_eq_true rfl) (Nat.le_of_ble_eq_true rfl)
    have h := zf c9 h
    by_cases c10 : e = 1
    · have h := zt c10 h
      subst c10
      refine j_catch hC hTb (pre := [(0, 7, 10, 25)]) (x := (0, 7, 14, 19)) (suf := []) rfl (List.forall_mem_cons.mpr ⟨⟨by decide, _, cl_L_25, by decide +kernel⟩, (fun z hz => by cases hz)⟩) (Nat.le_of_ble_eq_true rfl) (Nat.le_of_ble_eq_true rfl) (by decide) cl_L_19 kc_1 (fun qx => ?_)
      refine j_sstore hC dL_allocate_14 (Nat.le_of_ble_eq_true rfl) rfl ?_
      refine j_iconst hC dL_allocate_16 ?_
      obtain ⟨e1, e2, e3⟩ := zpr3 (Option.some.inj h)
      exact j_iret hC hE dL_allocate_17 (w_id kR_2) (zn_i _) (by rw [← e1]) e2 e3 ⟨(by rw [← e1]; exact kR_2), (by rw [← e3]; exact hF8)⟩ (Nat.le_of_ble_eq_true rfl) (Nat.le_of_ble_eq_true rfl)
    have h := zf c10 h
    cases h
  · have h := hk6 u4 he
    subst he
    have hF8 := hp7
    refine j_goto hC dL_allocate_7 rfl ?_
    refine j_iconst hC dL_allocate_18 ?_
    obtain ⟨e1, e2, e3⟩ := zpr3 (Option.some.inj h)
    exact j_iret hC hE dL_allocate_19 (w_id kR_0) (zn_i _) (by rw [← e1]) e2 e3 ⟨(by rw [← e1]; exact kR_0), (by rw [← e3]; exact hF8)⟩ (Nat.le_of_ble_eq_true rfl) (Nat.le_of_ble_eq_true rfl)
set_option maxHeartbeats 4000000 in
set_option maxRecDepth 100000 in
theorem c_L_store (l : Launch) (hlt : l.stackTraces = false) (g : zG) (v1 : Int) (v2 : Int) (v3 : Int) (hv1 : inR v1) (hv2 : inR v2) (hv3 : inR v3) (M : zM) (S : zS) (hF : zFx S) {r : Int} {M' : zM} {S' : zS} (h : F_L_store v1 v2 v3 M S = some (r, M', S')) : zMetH l g yL_store cL_store 5 (some .int) [(0, 7, 10, 25), (0, 7, 14, 13)] 4 3 18 [zr g 1, .int (zi v1), .int (zi v2), .int (zi v3)] M S (.inl (some (.int (zi r)))) M' S' (inR r ∧ zFx S') := by
  refine zMetH_of (by decide) hlt [(0, zr g 1), (1, .int (zi v1)), (2, .int (zi v2)), (3, .int (zi v3))] rfl (Nat.le_of_ble_eq_true rfl) (fun K hC hE hTb => ?_)
  unfold F_L_store at h
  refine j_aload_n hC 0 dL_store_0 rfl rfl ?_
  refine j_iload_n hC 1 dL_store_1 rfl rfl ?_
  refine j_iload_n hC 2 dL_store_2 rfl rfl ?_
  refine j_iload_n hC 3 dL_store_3 rfl rfl ?_
  obtain ⟨r3, M1, S2, hy, hx5, hk6⟩ := zbx_ex h
  refine j_callHVv (ci := 7) hC hE lk_L_112 dL_store_4 (c_X10_store l hlt g v1 v2 v3 hv1 hv2 hv3 M S hF hy) [.int (zi v1), .int (zi v2), .int (zi v3)] [] (zFx_kd hF 1 rfl) ⟨_, rfl, by decide, rfl⟩ rfl rfl rfl (zcat (Nat.le_of_ble_eq_true rfl)) (Nat.le_of_ble_eq_true rfl) (Nat.le_of_ble_eq_true rfl) (Nat.le_of_ble_eq_true rfl) (Nat.le_of_ble_eq_true rfl) (fun e he hp7 => ?_) (fun u4 he hp7 => ?_)
  · have h := hx5 e he
    subst he
    have hF8 := hp7
    by_cases c9 : e = 2
    · have h := zt c9 h
      subst c9
      refine j_catch hC hTb (pre := []) (x := (0, 7, 10, 25)) (suf := [(0, 7, 14, 13)]) rfl (fun z hz => by cases hz) (Nat.le_of_ble_eq_true rfl) (Nat.le_of_ble_eq_true rfl) (by decide) cl_L_25 kc_2 (fun qx => ?_)
      refine j_sstore hC dL_store_10 (Nat.le_of_ble_eq_true rfl) rfl ?_
      refine j_iconst hC dL_store_12 ?_
      obtain ⟨e1, e2, e3⟩ := zpr3 (Option.some.inj h)
      exact j_iret hC hE dL_store_13 (w_id kR_1) (zn_i _) (by rw [← e1]) e2 e3 ⟨(by rw [← e1]; exact kR_1), (by rw [← e3]; exact hF8)⟩ (Nat.le_of_ble_eq_true rfl) (Nat.le_of_ble_eq_true rfl)
    have h := zf c9 h
    by_cases c10 : e = 0
    · have h := zt c10 h
      subst c10
      refine j_catch hC hTb (pre := [(0, 7, 10, 25)]) (x := (0, 7, 14, 13)) (suf := []) rfl (List.forall_mem_cons.mpr ⟨⟨by decide, _, cl_L_25, by decide +kernel⟩, (fun z hz => by cases hz)⟩) (Nat.le_of_ble_eq_true rfl) (Nat.le_of_ble_eq_true rfl) (by decide) cl_L_13 kc_0 (fun qx => ?_)
      refine j_sstore hC dL_store_14 (Nat.le_of_ble_eq_true rfl) rfl ?_
      refine j_iconst hC dL_store_16 ?_
      obtain ⟨e1, e2, e3⟩ := zpr3 (Option.some.inj h)
      exact j_iret hC hE dL_store_17 (w_id kR_2) (zn_i _) (by rw [← e1]) e2 e3 ⟨(by rw [← e1]; exact kR_2), (by rw [← e3]; exact hF8)⟩ (Nat.le_of_ble_eq_true rfl) (Nat.le_of_ble_eq_true rfl)
    have h := zf c10 h
    cases h
  · have h := hk6 u4 he
    subst he
    have hF8 := hp7
    refine j_goto hC dL_store_7 rfl ?_
    refine j_iconst hC dL_store_18 ?_
    obtain ⟨e1, e2, e3⟩ := zpr3 (Option.some.inj h)
    exact j_iret hC hE dL_store_19 (w_id kR_0) (zn_i _) (by rw [← e1]) e2 e3 ⟨(by rw [← e1]; exact kR_0), (by rw [← e3]; exact hF8)⟩ (Nat.le_of_ble_eq_true rfl) (Nat.le_of_ble_eq_true rfl)
set_option maxHeartbeats 4000000 in
set_option maxRecDepth 100000 in
theorem c_L_element (l : Launch) (hlt : l.stackTraces = false) (g : zG) (v1 : Int) (v2 : Int) (hv1 : inR v1) (hv2 : inR v2) (M : zM) (S : zS) (hF : zFx S) {r : Int} {M' : zM} {S' : zS} (h : F_L_element v1 v2 M S = some (r, M', S')) : zMetH l g yL_element cL_element 5 (some .int) [(0, 10, 13, 25), (0, 10, 17, 13)] 3 3 18 [zr g 1, .int (zi v1), .int (zi v2), zr g 76] M S (.inl (some (.int (zi r)))) M' S' (inR r ∧ zFx S') := by
  refine zMetH_of (by decide) hlt [(0, zr g 1), (1, .int (zi v1)), (2, .int (zi v2)), (3, zr g 76)] rfl (Nat.le_of_ble_eq_true rfl) (fun K hC hE hTb => ?_)
  unfold F_L_element at h
  refine j_aload_n hC 3 dL_element_0 rfl rfl ?_
  refine j_iconst hC dL_element_1 ?_
  refine j_aload_n hC 0 dL_element_2 rfl rfl ?_
  refine j_iload_n hC 1 dL_element_3 rfl rfl ?_
  refine j_iload_n hC 2 dL_element_4 rfl rfl ?_
  obtain ⟨r4, M2, S3, hy, hx5, hk6⟩ := zbx_ex h
  refine j_callHVi (ci := 7) hC hE lk_L_115 dL_element_5 (c_X10_element l hlt g v1 v2 hv1 hv2 M S hF hy) [.int (zi v1), .int (zi v2)] [.int (zi 0), zr g 76] (zFx_kd hF 1 rfl) ⟨_, rfl, by decide, rfl⟩ rfl rfl rfl (zcat (Nat.le_of_ble_eq_true rfl)) (Nat.le_of_ble_eq_true rfl) (Nat.le_of_ble_eq_true rfl) (Nat.le_of_ble_eq_true rfl) (Nat.le_of_ble_eq_true rfl) (fun e he hp7 => ?_) (fun r1 he hp7 => ?_)
  · have h := hx5 e he
    subst he
    have hF8 := hp7.2
    by_cases c9 : e = 2
    · have h := zt c9 h
      subst c9
      refine j_catch hC hTb (pre := []) (x := (0, 10, 13, 25)) (suf := [(0, 10, 17, 13)]) rfl (fun z hz => by cases hz) (Nat.le_of_ble_eq_true rfl) (Nat.le_of_ble_eq_true rfl) (by decide) cl_L_25 kc_2 (fun qx => ?_)
      refine j_sstore hC dL_element_13 (Nat.le_of_ble_eq_true rfl) rfl ?_
      refine j_iconst hC dL_element_15 ?_
      obtain ⟨e1, e2, e3⟩ := zpr3 (Option.some.inj h)
      exact j_iret hC hE dL_element_16 (w_id kR_1) (zn_i _) (by rw [← e1]) e2 e3 ⟨(by rw [← e1]; exact kR_1), (by rw [← e3]; exact hF8)⟩ (Nat.le_of_ble_eq_true rfl) (Nat.le_of_ble_eq_true rfl)
    have h := zf c9 h
    by_cases c10 : e = 0
    · have h := zt c10 h
      subst c10
      refine j_catch hC hTb (pre := [(0, 10, 13, 25)]) (x := (0, 10, 17, 13)) (suf := []) rfl (List.forall_mem_cons.mpr ⟨⟨by decide, _, cl_L_25, by decide +kernel⟩, (fun z hz => by cases hz)⟩) (Nat.le_of_ble_eq_true rfl) (Nat.le_of_ble_eq_true rfl) (by decide) cl_L_13 kc_0 (fun qx => ?_)
      refine j_sstore hC dL_element_17 (Nat.le_of_ble_eq_true rfl) rfl ?_
      refine j_iconst hC dL_element_19 ?_
      obtain ⟨e1, e2, e3⟩ := zpr3 (Option.some.inj h)
      exact j_iret hC hE dL_element_20 (w_id kR_2) (zn_i _) (by rw [← e1]) e2 e3 ⟨(by rw [← e1]; exact kR_2), (by rw [← e3]; exact hF8)⟩ (Nat.le_of_ble_eq_true rfl) (Nat.le_of_ble_eq_true rfl)
    have h := zf c10 h
    cases h
  · have h := hk6 r1 he
    subst he
    dsimp only [zRXi, zRXl] at hp7
    obtain ⟨hr1, hF8⟩ := hp7
    refine j_i2l hC dL_element_8 (w_id hr1) ?_
    obtain ⟨M11, eM11, h⟩ := zlet_ex h
    refine j_last (n := 1) hC dL_element_9 (w_id kR_0) (wl_id (inL_R hr1)) (inL_R hr1) (zFx_kd hF8 76 rfl) (zFx_ln hF8 76 rfl) (by decide) (by decide) eM11 ?_
    refine j_goto hC dL_element_10 rfl ?_
    refine j_iconst hC dL_element_21 ?_
    obtain ⟨e1, e2, e3⟩ := zpr3 (Option.some.inj h)
    exact j_iret hC hE dL_element_22 (w_id kR_0) (zn_i _) (by rw [← e1]) e2 e3 ⟨(by rw [← e1]; exact kR_0), (by rw [← e3]; exact hF8)⟩ (Nat.le_of_ble_eq_true rfl) (Nat.le_of_ble_eq_true rfl)
set_option maxHeartbeats 4000000 in
set_option maxRecDepth 100000 in
theorem c_L_compareSizes (l : Launch) (hlt : l.stackTraces = false) (g : zG) (v1 : Int) (hv1 : inR v1) (M : zM) (S : zS) (hF : zFx S) {r : Int} {M' : zM} {S' : zS} (h : F_L_compareSizes v1 M S = some (r, M', S')) : zMetH l g yL_compareSizes cL_compareSizes 4 (some .int) [(0, 9, 12, 25), (0, 9, 15, 37), (0, 9, 18, 13), (0, 9, 21, 19)] 10 4 24 [zr g 1, .int (zi v1), zr g 76] M S (.inl (some (.int (zi r)))) M' S' (inR r ∧ zFx S') := by
  refine zMetH_of (by decide) hlt [(0, zr g 1), (1, .int (zi v1)), (2, zr g 76)] rfl (Nat.le_of_ble_eq_true rfl) (fun K hC hE hTb => ?_)
  unfold F_L_compareSizes at h
  refine j_aload_n hC 2 dL_compareSizes_0 rfl rfl ?_
  refine j_iconst hC dL_compareSizes_1 ?_
  refine j_aload_n hC 0 dL_compareSizes_2 rfl rfl ?_
  refine j_iload_n hC 1 dL_compareSizes_3 rfl rfl ?_
  obtain ⟨r4, M2, S3, hy, hx5, hk6⟩ := zbx_ex h
  refine j_callHVi (ci := 7) hC hE lk_L_118 dL_compareSizes_4 (c_X10_compareSizes l hlt g v1 hv1 M S hF hy) [.int (zi v1)] [.int (zi 0), zr g 76] (zFx_kd hF 1 rfl) ⟨_, rfl, by decide, rfl⟩ rfl rfl rfl (zcat (Nat.le_of_ble_eq_true rfl)) (Nat.le_of_ble_eq_true rfl) (Nat.le_of_ble_eq_true rfl) (Nat.le_of_ble_eq_true rfl) (Nat.le_of_ble_eq_true rfl) (fun e he hp7 => ?_) (fun r1 he hp7 => ?_)
  · have h := hx5 e he
    subst he
    have hF8 := hp7.2
    by_cases c9 : e = 2
    · have h := zt c9 h
      subst c9
      refine j_catch hC hTb (pre := []) (x := (0, 9, 12, 25)) (suf := [(0, 9, 15, 37), (0, 9, 18, 13), (0, 9, 21, 19)]) rfl (fun z hz => by cases hz) (Nat.le_of_ble_eq_true rfl) (Nat.le_of_ble_eq_true rfl) (by decide) cl_L_25 kc_2 (fun qx => ?_)
      refine j_sstore_n hC dL_compareSizes_12 rfl (Nat.le_of_ble_eq_true rfl) rfl ?_
      refine j_iconst hC dL_compareSizes_13 ?_
      obtain ⟨e1, e2, e3⟩ := zpr3 (Option.some.inj h)
      exact j_iret hC hE dL_compareSizes_14 (w_id kR_1) (zn_i _) (by rw [← e1]) e2 e3 ⟨(by rw [← e1]; exact kR_1), (by rw [← e3]; exact hF8)⟩ (Nat.le_of_ble_eq_true rfl) (Nat.le_of_ble_eq_true rfl)
    have h := zf c9 h
    by_cases c10 : e = 3
    · have h := zt c10 h
      subst c10
      refine j_catch hC hTb (pre := [(0, 9, 12, 25)]) (x := (0, 9, 15, 37)) (suf := [(0, 9, 18, 13), (0, 9, 21, 19)]) rfl (List.forall_mem_cons.mpr ⟨⟨by decide, _, cl_L_25, by decide +kernel⟩, (fun z hz => by cases hz)⟩) (Nat.le_of_ble_eq_true rfl) (Nat.le_of_ble_eq_true rfl) (by decide) cl_L_37 kc_3 (fun qx => ?_)
      refine j_sstore_n hC dL_compareSizes_15 rfl (Nat.le_of_ble_eq_true rfl) rfl ?_
      refine j_iconst hC dL_compareSizes_16 ?_
      obtain ⟨e1, e2, e3⟩ := zpr3 (Option.some.inj h)
      exact j_iret hC hE dL_compareSizes_17 (w_id kR_2) (zn_i _) (by rw [← e1]) e2 e3 ⟨(by rw [← e1]; exact kR_2), (by rw [← e3]; exact hF8)⟩ (Nat.le_of_ble_eq_true rfl) (Nat.le_of_ble_eq_true rfl)
    have h := zf c10 h
    by_cases c11 : e = 0
    · have h := zt c11 h
      subst c11
      refine j_catch hC hTb (pre := [(0, 9, 12, 25), (0, 9, 15, 37)]) (x := (0, 9, 18, 13)) (suf := [(0, 9, 21, 19)]) rfl (List.forall_mem_cons.mpr ⟨⟨by decide, _, cl_L_25, by decide +kernel⟩, (List.forall_mem_cons.mpr ⟨⟨by decide, _, cl_L_37, by decide +kernel⟩, (fun z hz => by cases hz)⟩)⟩) (Nat.le_of_ble_eq_true rfl) (Nat.le_of_ble_eq_true rfl) (by decide) cl_L_13 kc_0 (fun qx => ?_)
      refine j_sstore_n hC dL_compareSizes_18 rfl (Nat.le_of_ble_eq_true rfl) rfl ?_
      refine j_iconst hC dL_compareSizes_19 ?_
      obtain ⟨e1, e2, e3⟩ := zpr3 (Option.some.inj h)
      exact j_iret hC hE dL_compareSizes_20 (w_id kR_3) (zn_i _) (by rw [← e1]) e2 e3 ⟨(by rw [← e1]; exact kR_3), (by rw [← e3]; exact hF8)⟩ (Nat.le_of_ble_eq_true rfl) (Nat.le_of_ble_eq_true rfl)
    have h := zf c11 h
    by_cases c12 : e = 1
    · have h := zt c12 h
      subst c12
      refine j_catch hC hTb (pre := [(0, 9, 12, 25), (0, 9, 15, 37), (0, 9, 18, 13)]) (x := (0, 9, 21, 19)) (suf := []) rfl (List.forall_mem_cons.mpr ⟨⟨by decide, _, cl_L_25, by decide +kernel⟩, (List.forall_mem_cons.mpr ⟨⟨by decide, _, cl_L_37, by decide +kernel⟩, (List.forall_mem_cons.mpr ⟨⟨by decide, _, cl_L_13, by decide +kernel⟩, (fun z hz => by cases hz)⟩)⟩)⟩) (Nat.le_of_ble_eq_true rfl) (Nat.le_of_ble_eq_true rfl) (by decide) cl_L_19 kc_1 (fun qx => ?_)
      refine j_sstore_n hC dL_compareSizes_21 rfl (Nat.le_of_ble_eq_true rfl) rfl ?_
      refine j_iconst hC dL_compareSizes_22 ?_
      obtain ⟨e1, e2, e3⟩ := zpr3 (Option.some.inj h)
      exact j_iret hC hE dL_compareSizes_23 (w_id kR_4) (zn_i _) (by rw [← e1]) e2 e3 ⟨(by rw [← e1]; exact kR_4), (by rw [← e3]; exact hF8)⟩ (Nat.le_of_ble_eq_true rfl) (Nat.le_of_ble_eq_true rfl)
    have h := zf c12 h
    cases h
  · have h := hk6 r1 he
    subst he
    dsimp only [zRXi, zRXl] at hp7
    obtain ⟨hr1, hF8⟩ := hp7
    refine j_i2l hC dL_compareSizes_7 (w_id hr1) ?_
    obtain ⟨M13, eM13, h⟩ := zlet_ex h
    refine j_last (n := 1) hC dL_compareSizes_8 (w_id kR_0) (wl_id (inL_R hr1)) (inL_R hr1) (zFx_kd hF8 76 rfl) (zFx_ln hF8 76 rfl) (by decide) (by decide) eM13 ?_
    refine j_goto hC dL_compareSizes_9 rfl ?_
    refine j_iconst hC dL_compareSizes_24 ?_
    obtain ⟨e1, e2, e3⟩ := zpr3 (Option.some.inj h)
    exact j_iret hC hE dL_compareSizes_25 (w_id kR_0) (zn_i _) (by rw [← e1]) e2 e3 ⟨(by rw [← e1]; exact kR_0), (by rw [← e3]; exact hF8)⟩ (Nat.le_of_ble_eq_true rfl) (Nat.le_of_ble_eq_true rfl)
set_option maxHeartbeats 4000000 in
set_option maxRecDepth 100000 in
theorem c_L_restore (l : Launch) (hlt : l.stackTraces = false) (g : zG) (M : zM) (S : zS) (hF : zFx S) {r : Int} {M' : zM} {S' : zS} (h : F_L_restore M S = some (r, M', S')) : zMetH l g yL_restore cL_restore 2 (some .int) [(0, 4, 7, 13)] 4 1 6 [zr g 1] M S (.inl (some (.int (zi r)))) M' S' (inR r ∧ zFx S') := by
  refine zMetH_of (by decide) hlt [(0, zr g 1)] rfl (Nat.le_of_ble_eq_true rfl) (fun K hC hE hTb => ?_)
  unfold F_L_restore at h
  refine j_aload_n hC 0 dL_restore_0 rfl rfl ?_
  obtain ⟨r3, M1, S2, hy, hx5, hk6⟩ := zbx_ex h
  refine j_callHVv (ci := 7) hC hE lk_L_121 dL_restore_1 (c_X10_restore l hlt g M S hF hy) [] [] (zFx_kd hF 1 rfl) ⟨_, rfl, by decide, rfl⟩ rfl rfl rfl (zcat (Nat.le_of_ble_eq_true rfl)) (Nat.le_of_ble_eq_true rfl) (Nat.le_of_ble_eq_true rfl) (Nat.le_of_ble_eq_true rfl) (Nat.le_of_ble_eq_true rfl) (fun e he hp7 => ?_) (fun u4 he hp7 => ?_)
  · have h := hx5 e he
    subst he
    have hF8 := hp7
    by_cases c9 : e = 0
    · have h := zt c9 h
      subst c9
      refine j_catch hC hTb (pre := []) (x := (0, 4, 7, 13)) (suf := []) rfl (fun z hz => by cases hz) (Nat.le_of_ble_eq_true rfl) (Nat.le_of_ble_eq_true rfl) (by decide) cl_L_13 kc_0 (fun qx => ?_)
      refine j_sstore_n hC dL_restore_7 rfl (Nat.le_of_ble_eq_true rfl) rfl ?_
      refine j_iconst hC dL_restore_8 ?_
      obtain ⟨e1, e2, e3⟩ := zpr3 (Option.some.inj h)
      exact j_iret hC hE dL_restore_9 (w_id kR_1) (zn_i _) (by rw [← e1]) e2 e3 ⟨(by rw [← e1]; exact kR_1), (by rw [← e3]; exact hF8)⟩ (Nat.le_of_ble_eq_true rfl) (Nat.le_of_ble_eq_true rfl)
    have h := zf c9 h
    cases h
  · have h := hk6 u4 he
    subst he
    have hF8 := hp7
    refine j_goto hC dL_restore_4 rfl ?_
    refine j_iconst hC dL_restore_10 ?_
    obtain ⟨e1, e2, e3⟩ := zpr3 (Option.some.inj h)
    exact j_iret hC hE dL_restore_11 (w_id kR_0) (zn_i _) (by rw [← e1]) e2 e3 ⟨(by rw [← e1]; exact kR_0), (by rw [← e3]; exact hF8)⟩ (Nat.le_of_ble_eq_true rfl) (Nat.le_of_ble_eq_true rfl)
