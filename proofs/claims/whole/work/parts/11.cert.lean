/-! CERTIFICATES: a program has written them (wip/whole/gen5.py) -/
set_option maxHeartbeats 4000000 in
set_option maxRecDepth 100000 in
theorem c_X9_length (l : Launch) (hlt : l.stackTraces = false) (g : zG) (v0 : Int) (hv0 : inR v0) (M : zM) (S : zS) {r : Int} (h : F_X9_length v0 = some r) : zMet l g yX9_length cX9_length 4 (some .int) 1 0 0 [.int (zi v0)] M S (.inl (some (.int (zi r)))) M S (inR r) := by
  refine zMet_of (by decide) hlt [(0, .int (zi v0))] rfl (Nat.le_of_ble_eq_true rfl) (fun K hC hE hN => ?_)
  unfold F_X9_length at h
  have J_31 : ∀ (v1 : Int) (hv1 : inR v1) (_ : F_X9_length_J31 v1 = some r), zJ K g 0 0 31 4 [(1, .int (zi v1))] [] M S := by
    intro v1 hv1 h
    unfold F_X9_length_J31 at h
    refine j_iload_n hC 0 dX9_length_31 rfl rfl ?_
    have e1 := Option.some.inj h
    exact j_iret hC hE dX9_length_32 (w_id hv1) (zn_i _) (by rw [← e1]) rfl rfl (by rw [← e1]; exact hv1) (Nat.le_of_ble_eq_true rfl) (Nat.le_of_ble_eq_true rfl)
  have L_6 : ∀ (v0 : Int) (v1 : Int) (v2 : Int) (v3 : Int) (hv0 : inR v0) (hv1 : inR v1) (hv2 : inR v2) (hv3 : inR v3) (_ : F_X9_length_L6 v0 v1 v2 v3 = some r), zJ K g 0 0 6 4 [(0, .int (zi v0)), (1, .int (zi v1)), (2, .int (zi v2)), (3, .int (zi v3))] [] M S := by
    intro v0 v1 v2 v3 hv0 hv1 hv2 hv3 h
    unfold F_X9_length_L6 at h
    obtain ⟨ex6, hl, hd6⟩ := zb1_ex h
    obtain ⟨bd6, ebd⟩ : ∃ f, f = (fun (s : Int × Int × Int) => F_X9_length_B6 v0 s.1 s.2.1 s.2.2) := ⟨_, rfl⟩
    rw [← ebd] at hl
    have main : ∀ (n6 : Nat) (v1 : Int) (v2 : Int) (v3 : Int) (hv1 : inR v1) (hv2 : inR v2) (hv3 : inR v3) (_ : zloop bd6 n6 (v1, v2, v3) = some ex6), zJ K g 0 0 6 4 [(0, .int (zi v0)), (1, .int (zi v1)), (2, .int (zi v2)), (3, .int (zi v3))] [] M S := by
      intro n6
      induction n6 with
      | zero => intro v1 v2 v3 hv1 hv2 hv3 hl; exact zloop_0 hl
      | succ n6 ih6 =>
        intro v1 v2 v3 hv1 hv2 hv3 hl
        obtain ⟨o, h, hT⟩ := zloop_ex hl
        have h : F_X9_length_B6 v0 v1 v2 v3 = some o := by rw [ebd] at h; exact h
        unfold F_X9_length_B6 at h
        refine j_iload_n hC 3 dX9_length_6 rfl rfl ?_
        refine j_bipush hC dX9_length_7 rfl ?_
        refine j_icmp_gt hC dX9_length_9 rfl (w_id hv3) (w_id kR_9) (fun c1 => ?_) (fun c1 => ?_)
        · have h := zt c1 h
          obtain rfl := Option.some.inj h
          have hx6 := hd6
          rw [← show _ = ex6 from hT] at hx6
          refine j_sub [1] rfl ?_
          exact J_31 v1 hv1 hx6
        · have h := zf c1 h
          refine j_iload_n hC 0 dX9_length_12 rfl rfl ?_
          refine j_iload_n hC 2 dX9_length_13 rfl rfl ?_
          refine j_icmp_lt hC dX9_length_14 rfl (w_id hv0) (w_id hv2) (fun c2 => ?_) (fun c2 => ?_)
          · have h := zt c2 h
            obtain rfl := Option.some.inj h
            have hx6 := hd6
            rw [← show _ = ex6 from hT] at hx6
            refine j_sub [1] rfl ?_
            exact J_31 v1 hv1 hx6
          · have h := zf c2 h
            refine j_iload_n hC 3 dX9_length_17 rfl rfl ?_
            refine j_istore_n hC dX9_length_18 rfl (Nat.le_of_ble_eq_true rfl) rfl ?_
            refine j_iconst hC dX9_length_19 ?_
            refine j_iload_n hC 2 dX9_length_20 rfl rfl ?_
            refine j_imul hC dX9_length_21 ?_
            refine j_iconst hC dX9_length_22 ?_
            refine j_iadd hC dX9_length_23 ?_
            obtain ⟨x3, ex3, h⟩ := zlet_ex h
            have hx3 : inR x3 := by rw [ex3]; exact inR_w _
            refine j_namei ex3 ?_
            refine j_istore_n hC dX9_length_24 rfl (Nat.le_of_ble_eq_true rfl) rfl ?_
            obtain ⟨x4, ex4, h⟩ := zlet_ex h
            have hx4 : inR x4 := by rw [ex4]; exact inR_w _
            refine j_iinc hC 3 dX9_length_25 rfl ex4 (Nat.le_of_ble_eq_true rfl) rfl ?_
            refine j_goto hC dX9_length_28 rfl ?_
            obtain rfl := Option.some.inj h
            refine j_sub [3, 2, 1, 0] rfl ?_
            exact ih6 v3 x3 x4 hv3 hx3 hx4 hT
    exact main zN v1 v2 v3 hv1 hv2 hv3 hl
  refine j_iconst hC dX9_length_0 ?_
  refine j_istore_n hC dX9_length_1 rfl (Nat.le_of_ble_eq_true rfl) rfl ?_
  refine j_iconst hC dX9_length_2 ?_
  refine j_istore_n hC dX9_length_3 rfl (Nat.le_of_ble_eq_true rfl) rfl ?_
  refine j_iconst hC dX9_length_4 ?_
  refine j_istore_n hC dX9_length_5 rfl (Nat.le_of_ble_eq_true rfl) rfl ?_
  refine j_sub [3, 2, 1, 0] rfl ?_
  exact L_6 v0 0 1 1 hv0 kR_0 kR_1 kR_1 h
set_option maxHeartbeats 4000000 in
set_option maxRecDepth 100000 in
theorem c_X9_power (l : Launch) (hlt : l.stackTraces = false) (g : zG) (v0 : Int) (hv0 : inR v0) (M : zM) (S : zS) {r : Int} (h : F_X9_power v0 = some r) : zMet l g yX9_power cX9_power 1 (some .int) 1 0 0 [.int (zi v0)] M S (.inl (some (.int (zi r)))) M S (inR r) := by
  refine zMet_of (by decide) hlt [(0, .int (zi v0))] rfl (Nat.le_of_ble_eq_true rfl) (fun K hC hE hN => ?_)
  unfold F_X9_power at h
  have J_12 : ∀ (_ : F_X9_power_J12 = some r), zJ K g 0 0 12 1 [] [] M S := by
    intro h
    unfold F_X9_power_J12 at h
    refine j_iconst hC dX9_power_12 ?_
    refine j_goto hC dX9_power_13 rfl ?_
    have e1 := Option.some.inj h
    exact j_iret hC hE dX9_power_21 (w_id kR_1) (zn_i _) (by rw [← e1]) rfl rfl (by rw [← e1]; exact kR_1) (Nat.le_of_ble_eq_true rfl) (Nat.le_of_ble_eq_true rfl)
  refine j_iload_n hC 0 dX9_power_0 rfl rfl ?_
  refine j_if_lt hC dX9_power_1 rfl (w_id hv0) (fun c1 => ?_) (fun c1 => ?_)
  · have h := zt c1 h
    refine j_sub [] rfl ?_
    exact J_12 h
  · have h := zf c1 h
    refine j_iload_n hC 0 dX9_power_4 rfl rfl ?_
    refine j_gets hC dX9_power_5 k398 ?_
    refine j_powln hC dX9_power_8 ?_
    refine j_icmp_lt hC dX9_power_9 rfl (w_id hv0) (w_id kR_10) (fun c2 => ?_) (fun c2 => ?_)
    · have h := zt c2 h
      refine j_gets hC dX9_power_16 k398 ?_
      refine j_iload_n hC 0 dX9_power_19 rfl rfl ?_
      obtain ⟨c3, h⟩ := zchk_ex h
      refine j_powld hC dX9_power_20 (w_id hv0) c3.1 c3.2 ?_
      have e1 := Option.some.inj h
      exact j_iret hC hE dX9_power_21 (w_id (cR_zpow c3.1 c3.2)) (zn_i _) (by rw [← e1]) rfl rfl (by rw [← e1]; exact (cR_zpow c3.1 c3.2)) (Nat.le_of_ble_eq_true rfl) (Nat.le_of_ble_eq_true rfl)
    · have h := zf c2 h
      refine j_sub [] rfl ?_
      exact J_12 h
set_option maxHeartbeats 4000000 in
set_option maxRecDepth 100000 in
theorem c_X9_factor (l : Launch) (hlt : l.stackTraces = false) (g : zG) (v0 : Int) (v1 : Int) (v2 : Int) (v3 : Int) (hv0 : inR v0) (hv1 : inR v1) (hv2 : inR v2) (hv3 : inR v3) (M : zM) (S : zS) {r : Int} (h : F_X9_factor v0 v1 v2 v3 = some r) : zMet l g yX9_factor cX9_factor 8 (some .int) 2 0 0 [.int (zi v0), .int (zi v1), .int (zi v2), .int (zi v3)] M S (.inl (some (.int (zi r)))) M S (inR r) := by
  refine zMet_of (by decide) hlt [(0, .int (zi v0)), (1, .int (zi v1)), (2, .int (zi v2)), (3, .int (zi v3))] rfl (Nat.le_of_ble_eq_true rfl) (fun K hC hE hN => ?_)
  unfold F_X9_factor at h
  refine j_iload_n hC 1 dX9_factor_0 rfl rfl ?_
  refine j_iload_n hC 3 dX9_factor_1 rfl rfl ?_
  refine j_isub hC dX9_factor_2 ?_
  obtain ⟨r1, hy, h⟩ := zb1_ex h
  refine j_callSi hC hE lk_X9_13 dX9_factor_3 (c_X9_power l hlt g (w (v1 - v3)) (inR_w _) M S hy) [.int (zi (v1 - v3))] [] rfl (by simp only [zi_w, zl_wl]) rfl (Nat.le_of_ble_eq_true rfl) (Nat.le_of_ble_eq_true rfl) (Nat.le_of_ble_eq_true rfl) (Nat.le_of_ble_eq_true rfl) (Nat.le_of_ble_eq_true rfl) (fun hp2 => ?_)
  have hr1 := hp2
  refine j_istore hC dX9_factor_6 (Nat.le_of_ble_eq_true rfl) rfl ?_
  refine j_iload_n hC 4 dX9_factor_8 rfl rfl ?_
  refine j_iload_n hC 3 dX9_factor_9 rfl rfl ?_
  refine j_isub hC dX9_factor_10 ?_
  obtain ⟨r3, hy, h⟩ := zb1_ex h
  refine j_callSi hC hE lk_X9_13 dX9_factor_11 (c_X9_power l hlt g (w (v3 - v2)) (inR_w _) M S hy) [.int (zi (v3 - v2))] [] rfl (by simp only [zi_w, zl_wl]) rfl (Nat.le_of_ble_eq_true rfl) (Nat.le_of_ble_eq_true rfl) (Nat.le_of_ble_eq_true rfl) (Nat.le_of_ble_eq_true rfl) (Nat.le_of_ble_eq_true rfl) (fun hp4 => ?_)
  have hr3 := hp4
  refine j_istore hC dX9_factor_14 (Nat.le_of_ble_eq_true rfl) rfl ?_
  refine j_iload hC 1 dX9_factor_16 rfl ?_
  refine j_iconst hC dX9_factor_18 ?_
  refine j_icmp_lt hC dX9_factor_19 rfl (w_id hr1) (w_id kR_1) (fun c5 => ?_) (fun c5 => ?_)
  · have h := zt c5 h
    refine j_iconst hC dX9_factor_28 ?_
    have e1 := Option.some.inj h
    exact j_iret hC hE dX9_factor_29 (w_id kR_0) (zn_i _) (by rw [← e1]) rfl rfl (by rw [← e1]; exact kR_0) (Nat.le_of_ble_eq_true rfl) (Nat.le_of_ble_eq_true rfl)
  · have h := zf c5 h
    refine j_iload hC 0 dX9_factor_22 rfl ?_
    refine j_iconst hC dX9_factor_24 ?_
    refine j_icmp_ge hC dX9_factor_25 rfl (w_id hr3) (w_id kR_1) (fun c6 => ?_) (fun c6 => ?_)
    · have h := zf c6 h
      refine j_iload_n hC 2 dX9_factor_30 rfl rfl ?_
      refine j_iload hC 1 dX9_factor_31 rfl ?_
      refine j_iconst hC dX9_factor_33 ?_
      refine j_idiv hC dX9_factor_34 (w_id kR_2) (by decide) ?_
      refine j_isub hC dX9_factor_35 ?_
      refine j_iload hC 1 dX9_factor_36 rfl ?_
      obtain ⟨c7, h⟩ := zchk_ex h
      refine j_idiv hC dX9_factor_38 (w_id hr1) c7 ?_
      obtain ⟨x8, ex8, h⟩ := zlet_ex h
      have hx8 : inR x8 := by rw [ex8]; exact (cR_zdiv _ _)
      refine j_names ex8 ?_
      refine j_istore hC dX9_factor_39 (Nat.le_of_ble_eq_true rfl) rfl ?_
      refine j_iload hC 1 dX9_factor_41 rfl ?_
      refine j_iconst hC dX9_factor_43 ?_
      refine j_idiv hC dX9_factor_44 (w_id kR_2) (by decide) ?_
      obtain ⟨x9, ex9, h⟩ := zlet_ex h
      have hx9 : inR x9 := by rw [ex9]; exact (cR_zdiv _ _)
      refine j_names ex9 ?_
      refine j_istore hC dX9_factor_45 (Nat.le_of_ble_eq_true rfl) rfl ?_
      refine j_iload hC 1 dX9_factor_47 rfl ?_
      refine j_iload hC 0 dX9_factor_49 rfl ?_
      refine j_isub hC dX9_factor_51 ?_
      refine j_iload hC 2 dX9_factor_52 rfl ?_
      obtain ⟨c10, h⟩ := zchk_ex h
      refine j_irem hC dX9_factor_54 (w_id hr3) c10 ?_
      refine j_iload hC 0 dX9_factor_55 rfl ?_
      refine j_iadd hC dX9_factor_57 ?_
      have e1 := Option.some.inj h
      exact j_iret hC hE dX9_factor_58 rfl (zn_i _) (by rw [← e1]) rfl rfl (by rw [← e1]; exact (inR_w _)) (Nat.le_of_ble_eq_true rfl) (Nat.le_of_ble_eq_true rfl)
    · have h := zt c6 h
      refine j_iconst hC dX9_factor_28 ?_
      have e1 := Option.some.inj h
      exact j_iret hC hE dX9_factor_29 (w_id kR_0) (zn_i _) (by rw [← e1]) rfl rfl (by rw [← e1]; exact kR_0) (Nat.le_of_ble_eq_true rfl) (Nat.le_of_ble_eq_true rfl)
set_option maxHeartbeats 4000000 in
set_option maxRecDepth 100000 in
theorem c_X6_at_ (l : Launch) (hlt : l.stackTraces = false) (g : zG) (v0 : Nat) (v1 : Int) (hv1 : inR v1) (M : zM) (S : zS) (hF : zFx S) {r : Int} (h : F_X6_at_ v0 v1 M S = some r) : zMet l g yX6_at_ cX6_at_ 2 (some .long) 1 0 0 [zr g v0, .int (zi v1)] M S (.inl (some (.long (zl r)))) M S (inL r) := by
  refine zMet_of (by decide) hlt [(0, zr g v0), (1, .int (zi v1))] (by simp only [lv_args, zr_cat, Value.category] <;> rfl) (by rw [zsl_len]; simp only [List.map_cons, List.map_nil, zr_cat, Value.category, List.sum_cons, List.sum_nil] <;> decide) (fun K hC hE hN => ?_)
  unfold F_X6_at_ at h
  have J_10 : ∀ (_ : F_X6_at__J10 M S = some r), zJ K g 0 0 10 2 [] [] M S := by
    intro h
    unfold F_X6_at__J10 at h
    refine j_lconst hC dX6_at__10 rfl ?_
    refine j_goto hC dX6_at__11 rfl ?_
    have e1 := Option.some.inj h
    exact j_lret hC hE dX6_at__17 (wl_id (inLc rfl)) (by rw [← e1]) rfl rfl (by rw [← e1]; exact (inLc rfl)) (Nat.le_of_ble_eq_true rfl) (Nat.le_of_ble_eq_true rfl)
  refine j_iload_n hC 1 dX6_at__0 rfl rfl ?_
  refine j_if_lt hC dX6_at__1 rfl (w_id hv1) (fun c1 => ?_) (fun c1 => ?_)
  · have h := zt c1 h
    refine j_sub [] rfl ?_
    exact J_10 h
  · have h := zf c1 h
    refine j_iload_n hC 1 dX6_at__4 rfl rfl ?_
    refine j_aload_n hC 0 dX6_at__5 rfl rfl ?_
    obtain ⟨hk, h⟩ := zchk_ex h
    have hk2 := hk
    refine j_alen hC dX6_at__6 hk2 (Nat.le_of_ble_eq_true rfl) (Nat.le_of_ble_eq_true rfl) rfl (fun hl3 => ?_)
    refine j_icmp_lt hC dX6_at__7 rfl (w_id hv1) (w_id hl3) (fun c4 => ?_) (fun c4 => ?_)
    · have h := zt c4 h
      refine j_aload_n hC 0 dX6_at__14 rfl rfl ?_
      refine j_iload_n hC 1 dX6_at__15 rfl rfl ?_
      obtain ⟨hk, h⟩ := zchk_ex h
      have hk5 := hk
      obtain ⟨c6, h⟩ := zchk_ex h
      refine j_lald hC dX6_at__16 (w_id hv1) hk5 rfl c6.1 c6.2 (fun hg7 => ?_)
      have e1 := Option.some.inj h
      exact j_lret hC hE dX6_at__17 (wl_id hg7) (by rw [← e1]) rfl rfl (by rw [← e1]; exact hg7) (Nat.le_of_ble_eq_true rfl) (Nat.le_of_ble_eq_true rfl)
    · have h := zf c4 h
      refine j_sub [] rfl ?_
      exact J_10 h
set_option maxHeartbeats 4000000 in
set_option maxRecDepth 100000 in
theorem c_X6_put_ (l : Launch) (hlt : l.stackTraces = false) (g : zG) (v0 : Nat) (v1 : Int) (v2 : Int) (hv1 : inR v1) (hv2 : inL v2) (M : zM) (S : zS) (hF : zFx S) {M' : zM} (h : F_X6_put_ v0 v1 v2 M S = some M') : zMet l g yX6_put_ cX6_put_ 4 none 1 0 0 [zr g v0, .int (zi v1), .long (zl v2)] M S (.inl none) M' S (True) := by
  refine zMet_of (by decide) hlt [(0, zr g v0), (1, .int (zi v1)), (2, .long (zl v2))] (by simp only [lv_args, zr_cat, Value.category] <;> rfl) (by rw [zsl_len]; simp only [List.map_cons, List.map_nil, zr_cat, Value.category, List.sum_cons, List.sum_nil] <;> decide) (fun K hC hE hN => ?_)
  unfold F_X6_put_ at h
  refine j_iload_n hC 1 dX6_put__0 rfl rfl ?_
  refine j_if_lt hC dX6_put__1 rfl (w_id hv1) (fun c1 => ?_) (fun c1 => ?_)
  · have h := zt c1 h
    have e1 := Option.some.inj h
    exact j_vret hC hE dX6_put__14 rfl e1 rfl trivial (Nat.le_of_ble_eq_true rfl) (Nat.le_of_ble_eq_true rfl)
  · have h := zf c1 h
    refine j_iload_n hC 1 dX6_put__4 rfl rfl ?_
    refine j_aload_n hC 0 dX6_put__5 rfl rfl ?_
    obtain ⟨hk, h⟩ := zchk_ex h
    have hk2 := hk
    refine j_alen hC dX6_put__6 hk2 (Nat.le_of_ble_eq_true rfl) (Nat.le_of_ble_eq_true rfl) rfl (fun hl3 => ?_)
    refine j_icmp_ge hC dX6_put__7 rfl (w_id hv1) (w_id hl3) (fun c4 => ?_) (fun c4 => ?_)
    · have h := zf c4 h
      have e1 := Option.some.inj h
      exact j_vret hC hE dX6_put__14 rfl e1 rfl trivial (Nat.le_of_ble_eq_true rfl) (Nat.le_of_ble_eq_true rfl)
    · have h := zt c4 h
      refine j_aload_n hC 0 dX6_put__10 rfl rfl ?_
      refine j_iload_n hC 1 dX6_put__11 rfl rfl ?_
      refine j_lload_n hC 2 dX6_put__12 rfl rfl ?_
      obtain ⟨hk, h⟩ := zchk_ex h
      have hk5 := hk
      obtain ⟨c6, h⟩ := zchk_ex h
      obtain ⟨M7, eM7, h⟩ := zlet_ex h
      refine j_last hC dX6_put__13 (w_id hv1) (wl_id hv2) hv2 hk5 rfl c6.1 c6.2 eM7 ?_
      have e1 := Option.some.inj h
      exact j_vret hC hE dX6_put__14 rfl e1 rfl trivial (Nat.le_of_ble_eq_true rfl) (Nat.le_of_ble_eq_true rfl)
set_option maxHeartbeats 4000000 in
set_option maxRecDepth 100000 in
theorem c_J9_min_7cf53 (l : Launch) (hlt : l.stackTraces = false) (g : zG) (v0 : Int) (v1 : Int) (hv0 : inR v0) (hv1 : inR v1) (M : zM) (S : zS) {r : Int} (h : F_J9_min_7cf53 v0 v1 = some r) : zMet l g yJ9_min_7cf53 cJ9_min_7cf53 2 (some .int) 1 0 0 [.int (zi v0), .int (zi v1)] M S (.inl (some (.int (zi r)))) M S (inR r) := by
  refine zMet_of (by decide) hlt [(0, .int (zi v0)), (1, .int (zi v1))] rfl (Nat.le_of_ble_eq_true rfl) (fun K hC hE hN => ?_)
  unfold F_J9_min_7cf53 at h
  refine j_iload_n hC 0 dJ9_min_7cf53_0 rfl rfl ?_
  refine j_iload_n hC 1 dJ9_min_7cf53_1 rfl rfl ?_
  refine j_icmp_gt hC dJ9_min_7cf53_2 rfl (w_id hv0) (w_id hv1) (fun c1 => ?_) (fun c1 => ?_)
  · have h := zt c1 h
    refine j_iload_n hC 1 dJ9_min_7cf53_9 rfl rfl ?_
    have e1 := Option.some.inj h
    exact j_iret hC hE dJ9_min_7cf53_10 (w_id hv1) (zn_i _) (by rw [← e1]) rfl rfl (by rw [← e1]; exact hv1) (Nat.le_of_ble_eq_true rfl) (Nat.le_of_ble_eq_true rfl)
  · have h := zf c1 h
    refine j_iload_n hC 0 dJ9_min_7cf53_5 rfl rfl ?_
    refine j_goto hC dJ9_min_7cf53_6 rfl ?_
    have e1 := Option.some.inj h
    exact j_iret hC hE dJ9_min_7cf53_10 (w_id hv0) (zn_i _) (by rw [← e1]) rfl rfl (by rw [← e1]; exact hv0) (Nat.le_of_ble_eq_true rfl) (Nat.le_of_ble_eq_true rfl)
set_option maxHeartbeats 4000000 in
set_option maxRecDepth 100000 in
theorem c_X9_join (l : Launch) (hlt : l.stackTraces = false) (g : zG) (v0 : Int) (v1 : Int) (v2 : Int) (hv0 : inR v0) (hv1 : inR v1) (hv2 : inR v2) (M : zM) (S : zS) {r : Int} (h : F_X9_join v0 v1 v2 = some r) : zMet l g yX9_join cX9_join 3 (some .int) 2 0 0 [.int (zi v0), .int (zi v1), .int (zi v2)] M S (.inl (some (.int (zi r)))) M S (inR r) := by
  refine zMet_of (by decide) hlt [(0, .int (zi v0)), (1, .int (zi v1)), (2, .int (zi v2))] rfl (Nat.le_of_ble_eq_true rfl) (fun K hC hE hN => ?_)
  unfold F_X9_join at h
  refine j_iload_n hC 0 dX9_join_0 rfl rfl ?_
  refine j_iload_n hC 2 dX9_join_1 rfl rfl ?_
  obtain ⟨r1, hy, h⟩ := zb1_ex h
  refine j_callSi hC hE lk_X9_13 dX9_join_2 (c_X9_power l hlt g v2 hv2 M S hy) [.int (zi v2)] [.int (zi v0)] rfl rfl rfl (Nat.le_of_ble_eq_true rfl) (Nat.le_of_ble_eq_true rfl) (Nat.le_of_ble_eq_true rfl) (Nat.le_of_ble_eq_true rfl) (Nat.le_of_ble_eq_true rfl) (fun hp2 => ?_)
  have hr1 := hp2
  refine j_imul hC dX9_join_5 ?_
  refine j_iload_n hC 1 dX9_join_6 rfl rfl ?_
  refine j_iadd hC dX9_join_7 ?_
  have e1 := Option.some.inj h
  exact j_iret hC hE dX9_join_8 rfl (zn_i _) (by rw [← e1]) rfl rfl (by rw [← e1]; exact (inR_w _)) (Nat.le_of_ble_eq_true rfl) (Nat.le_of_ble_eq_true rfl)
set_option maxHeartbeats 4000000 in
set_option maxRecDepth 100000 in
theorem c_J9_max_7cf53 (l : Launch) (hlt : l.stackTraces = false) (g : zG) (v0 : Int) (v1 : Int) (hv0 : inR v0) (hv1 : inR v1) (M : zM) (S : zS) {r : Int} (h : F_J9_max_7cf53 v0 v1 = some r) : zMet l g yJ9_max_7cf53 cJ9_max_7cf53 2 (some .int) 1 0 0 [.int (zi v0), .int (zi v1)] M S (.inl (some (.int (zi r)))) M S (inR r) := by
  refine zMet_of (by decide) hlt [(0, .int (zi v0)), (1, .int (zi v1))] rfl (Nat.le_of_ble_eq_true rfl) (fun K hC hE hN => ?_)
  unfold F_J9_max_7cf53 at h
  refine j_iload_n hC 0 dJ9_max_7cf53_0 rfl rfl ?_
  refine j_iload_n hC 1 dJ9_max_7cf53_1 rfl rfl ?_
  refine j_icmp_lt hC dJ9_max_7cf53_2 rfl (w_id hv0) (w_id hv1) (fun c1 => ?_) (fun c1 => ?_)
  · have h := zt c1 h
    refine j_iload_n hC 1 dJ9_max_7cf53_9 rfl rfl ?_
    have e1 := Option.some.inj h
    exact j_iret hC hE dJ9_max_7cf53_10 (w_id hv1) (zn_i _) (by rw [← e1]) rfl rfl (by rw [← e1]; exact hv1) (Nat.le_of_ble_eq_true rfl) (Nat.le_of_ble_eq_true rfl)
  · have h := zf c1 h
    refine j_iload_n hC 0 dJ9_max_7cf53_5 rfl rfl ?_
    refine j_goto hC dJ9_max_7cf53_6 rfl ?_
    have e1 := Option.some.inj h
    exact j_iret hC hE dJ9_max_7cf53_10 (w_id hv0) (zn_i _) (by rw [← e1]) rfl rfl (by rw [← e1]; exact hv0) (Nat.le_of_ble_eq_true rfl) (Nat.le_of_ble_eq_true rfl)
set_option maxHeartbeats 4000000 in
set_option maxRecDepth 100000 in
theorem c_X9_extend (l : Launch) (hlt : l.stackTraces = false) (g : zG) (v0 : Int) (v1 : Int) (hv0 : inR v0) (hv1 : inR v1) (M : zM) (S : zS) {r : Int} (h : F_X9_extend v0 v1 = some r) : zMet l g yX9_extend cX9_extend 2 (some .int) 1 0 0 [.int (zi v0), .int (zi v1)] M S (.inl (some (.int (zi r)))) M S (inR r) := by
  refine zMet_of (by decide) hlt [(0, .int (zi v0)), (1, .int (zi v1))] rfl (Nat.le_of_ble_eq_true rfl) (fun K hC hE hN => ?_)
  unfold F_X9_extend at h
  refine j_iconst hC dX9_extend_0 ?_
  refine j_iload_n hC 0 dX9_extend_1 rfl rfl ?_
  refine j_imul hC dX9_extend_2 ?_
  refine j_iconst hC dX9_extend_3 ?_
  refine j_iadd hC dX9_extend_4 ?_
  refine j_iload_n hC 1 dX9_extend_5 rfl rfl ?_
  refine j_iadd hC dX9_extend_6 ?_
  have e1 := Option.some.inj h
  exact j_iret hC hE dX9_extend_7 rfl (zn_i _) (by rw [← e1]) rfl rfl (by rw [← e1]; exact (inR_w _)) (Nat.le_of_ble_eq_true rfl) (Nat.le_of_ble_eq_true rfl)
set_option maxHeartbeats 4000000 in
set_option maxRecDepth 100000 in
theorem c_X6_at (l : Launch) (hlt : l.stackTraces = false) (g : zG) (v0 : Nat) (v1 : Int) (hv1 : inR v1) (M : zM) (S : zS) (hF : zFx S) {r : Int} (h : F_X6_at v0 v1 M S = some r) : zMet l g yX6_at cX6_at 2 (some .int) 1 0 0 [zr g v0, .int (zi v1)] M S (.inl (some (.int (zi r)))) M S (inR r) := by
  refine zMet_of (by decide) hlt [(0, zr g v0), (1, .int (zi v1))] (by simp only [lv_args, zr_cat, Value.category] <;> rfl) (by rw [zsl_len]; simp only [List.map_cons, List.map_nil, zr_cat, Value.category, List.sum_cons, List.sum_nil] <;> decide) (fun K hC hE hN => ?_)
  unfold F_X6_at at h
  have J_10 : ∀ (_ : F_X6_at_J10 M S = some r), zJ K g 0 0 10 2 [] [] M S := by
    intro h
    unfold F_X6_at_J10 at h
    refine j_iconst hC dX6_at_10 ?_
    refine j_goto hC dX6_at_11 rfl ?_
    have e1 := Option.some.inj h
    exact j_iret hC hE dX6_at_17 (w_id kR_0) (zn_i _) (by rw [← e1]) rfl rfl (by rw [← e1]; exact kR_0) (Nat.le_of_ble_eq_true rfl) (Nat.le_of_ble_eq_true rfl)
  refine j_iload_n hC 1 dX6_at_0 rfl rfl ?_
  refine j_if_lt hC dX6_at_1 rfl (w_id hv1) (fun c1 => ?_) (fun c1 => ?_)
  · have h := zt c1 h
    refine j_sub [] rfl ?_
    exact J_10 h
  · have h := zf c1 h
    refine j_iload_n hC 1 dX6_at_4 rfl rfl ?_
    refine j_aload_n hC 0 dX6_at_5 rfl rfl ?_
    obtain ⟨hk, h⟩ := zchk_ex h
    have hk2 := hk
    refine j_alen hC dX6_at_6 hk2 (Nat.le_of_ble_eq_true rfl) (Nat.le_of_ble_eq_true rfl) rfl (fun hl3 => ?_)
    refine j_icmp_lt hC dX6_at_7 rfl (w_id hv1) (w_id hl3) (fun c4 => ?_) (fun c4 => ?_)
    · have h := zt c4 h
      refine j_aload_n hC 0 dX6_at_14 rfl rfl ?_
      refine j_iload_n hC 1 dX6_at_15 rfl rfl ?_
      obtain ⟨hk, h⟩ := zchk_ex h
      have hk5 := hk
      obtain ⟨c6, h⟩ := zchk_ex h
      refine j_iald hC dX6_at_16 (w_id hv1) hk5 rfl c6.1 c6.2 (fun hg7 => ?_)
      have e1 := Option.some.inj h
      exact j_iret hC hE dX6_at_17 (w_id hg7) (zn_i _) (by rw [← e1]) rfl rfl (by rw [← e1]; exact hg7) (Nat.le_of_ble_eq_true rfl) (Nat.le_of_ble_eq_true rfl)
    · have h := zf c4 h
      refine j_sub [] rfl ?_
      exact J_10 h
set_option maxHeartbeats 4000000 in
set_option maxRecDepth 100000 in
theorem c_X6_put (l : Launch) (hlt : l.stackTraces = false) (g : zG) (v0 : Nat) (v1 : Int) (v2 : Int) (hv1 : inR v1) (hv2 : inR v2) (M : zM) (S : zS) (hF : zFx S) {M' : zM} (h : F_X6_put v0 v1 v2 M S = some M') : zMet l g yX6_put cX6_put 3 none 1 0 0 [zr g v0, .int (zi v1), .int (zi v2)] M S (.inl none) M' S (True) := by
  refine zMet_of (by decide) hlt [(0, zr g v0), (1, .int (zi v1)), (2, .int (zi v2))] (by simp only [lv_args, zr_cat, Value.category] <;> rfl) (by rw [zsl_len]; simp only [List.map_cons, List.map_nil, zr_cat, Value.category, List.sum_cons, List.sum_nil] <;> decide) (fun K hC hE hN => ?_)
  unfold F_X6_put at h
  refine j_iload_n hC 1 dX6_put_0 rfl rfl ?_
  refine j_if_lt hC dX6_put_1 rfl (w_id hv1) (fun c1 => ?_) (fun c1 => ?_)
  · have h := zt c1 h
    have e1 := Option.some.inj h
    exact j_vret hC hE dX6_put_14 rfl e1 rfl trivial (Nat.le_of_ble_eq_true rfl) (Nat.le_of_ble_eq_true rfl)
  · have h := zf c1 h
    refine j_iload_n hC 1 dX6_put_4 rfl rfl ?_
    refine j_aload_n hC 0 dX6_put_5 rfl rfl ?_
    obtain ⟨hk, h⟩ := zchk_ex h
    have hk2 := hk
    refine j_alen hC dX6_put_6 hk2 (Nat.le_of_ble_eq_true rfl) (Nat.le_of_ble_eq_true rfl) rfl (fun hl3 => ?_)
    refine j_icmp_ge hC dX6_put_7 rfl (w_id hv1) (w_id hl3) (fun c4 => ?_) (fun c4 => ?_)
    · have h := zf c4 h
      have e1 := Option.some.inj h
      exact j_vret hC hE dX6_put_14 rfl e1 rfl trivial (Nat.le_of_ble_eq_true rfl) (Nat.le_of_ble_eq_true rfl)
    · have h := zt c4 h
      refine j_aload_n hC 0 dX6_put_10 rfl rfl ?_
      refine j_iload_n hC 1 dX6_put_11 rfl rfl ?_
      refine j_iload_n hC 2 dX6_put_12 rfl rfl ?_
      obtain ⟨hk, h⟩ := zchk_ex h
      have hk5 := hk
      obtain ⟨c6, h⟩ := zchk_ex h
      obtain ⟨M7, eM7, h⟩ := zlet_ex h
      refine j_iast hC dX6_put_13 (w_id hv1) (w_id hv2) hv2 hk5 rfl c6.1 c6.2 eM7 ?_
      have e1 := Option.some.inj h
      exact j_vret hC hE dX6_put_14 rfl e1 rfl trivial (Nat.le_of_ble_eq_true rfl) (Nat.le_of_ble_eq_true rfl)
set_option maxHeartbeats 4000000 in
set_option maxRecDepth 100000 in
theorem c_X4_of (l : Launch) (hlt : l.stackTraces = false) (g : zG) (v0 : Int) (v1 : Int) (v2 : Int) (v3 : Int) (hv0 : inR v0) (hv1 : inR v1) (hv2 : inR v2) (hv3 : inR v3) (M : zM) (S : zS) {r : Int} (h : F_X4_of v0 v1 v2 v3 = some r) : zMet l g yX4_of cX4_of 4 (some .int) 1 0 0 [.int (zi v0), .int (zi v1), .int (zi v2), .int (zi v3)] M S (.inl (some (.int (zi r)))) M S (inR r) := by
  refine zMet_of (by decide) hlt [(0, .int (zi v0)), (1, .int (zi v1)), (2, .int (zi v2)), (3, .int (zi v3))] rfl (Nat.le_of_ble_eq_true rfl) (fun K hC hE hN => ?_)
  unfold F_X4_of at h
  refine j_iload_n hC 0 dX4_of_0 rfl rfl ?_
  refine j_bipush hC dX4_of_1 rfl ?_
  refine j_ishl hC dX4_of_3 ?_
  refine j_iload_n hC 1 dX4_of_4 rfl rfl ?_
  refine j_bipush hC dX4_of_5 rfl ?_
  refine j_ishl hC dX4_of_7 ?_
  refine j_ior hC dX4_of_8 ?_
  refine j_iload_n hC 2 dX4_of_9 rfl rfl ?_
  refine j_iconst hC dX4_of_10 ?_
  refine j_ishl hC dX4_of_11 ?_
  refine j_ior hC dX4_of_12 ?_
  refine j_iload_n hC 3 dX4_of_13 rfl rfl ?_
  refine j_ior hC dX4_of_14 ?_
  have e1 := Option.some.inj h
  exact j_iret hC hE dX4_of_15 (w_id (cR_zor _ _)) (zn_i _) (by rw [← e1]) rfl rfl (by rw [← e1]; exact (cR_zor _ _)) (Nat.le_of_ble_eq_true rfl) (Nat.le_of_ble_eq_true rfl)
set_option maxHeartbeats 4000000 in
set_option maxRecDepth 100000 in
theorem c_X6_putInOrder (l : Launch) (hlt : l.stackTraces = false) (g : zG) (v0 : Nat) (v1 : Int) (v2 : Int) (hv1 : inR v1) (hv2 : inR v2) (M : zM) (S : zS) (hF : zFx S) {M' : zM} (h : F_X6_putInOrder v0 v1 v2 M S = some M') : zMet l g yX6_putInOrder cX6_putInOrder 5 none 2 0 0 [zr g v0, .int (zi v1), .int (zi v2)] M S (.inl none) M' S (True) := by
  refine zMet_of (by decide) hlt [(0, zr g v0), (1, .int (zi v1)), (2, .int (zi v2))] (by simp only [lv_args, zr_cat, Value.category] <;> rfl) (by rw [zsl_len]; simp only [List.map_cons, List.map_nil, zr_cat, Value.category, List.sum_cons, List.sum_nil] <;> decide) (fun K hC hE hN => ?_)
  unfold F_X6_putInOrder at h
  have J_45 : ∀ (v0 : Nat) (v2 : Int) (v3 : Int) (hv2 : inR v2) (hv3 : inR v3) (M : zM) (_ : F_X6_putInOrder_J45 v0 v2 v3 M S = some M'), zJ K g 0 0 45 5 [(0, zr g v0), (2, .int (zi v2)), (3, .int (zi v3))] [] M S := by
    intro v0 v2 v3 hv2 hv3 M h
    unfold F_X6_putInOrder_J45 at h
    refine j_aload_n hC 0 dX6_putInOrder_45 rfl rfl ?_
    refine j_iload_n hC 2 dX6_putInOrder_46 rfl rfl ?_
    refine j_iload_n hC 1 dX6_putInOrder_47 rfl rfl ?_
    obtain ⟨M1, hy, h⟩ := zb1_ex h
    refine j_callSv hC hE lk_X6_13 dX6_putInOrder_48 (c_X6_put l hlt g v0 v3 v2 hv3 hv2 M S hF hy) [zr g v0, .int (zi v3), .int (zi v2)] [] rfl rfl rfl (Nat.le_of_ble_eq_true rfl) (Nat.le_of_ble_eq_true rfl) (Nat.le_of_ble_eq_true rfl) (Nat.le_of_ble_eq_true rfl) (Nat.le_of_ble_eq_true rfl) (fun hp2 => ?_)
    have e1 := Option.some.inj h
    exact j_vret hC hE dX6_putInOrder_51 rfl e1 rfl trivial (Nat.le_of_ble_eq_true rfl) (Nat.le_of_ble_eq_true rfl)
  have L_7 : ∀ (v0 : Nat) (v2 : Int) (v3 : Int) (v4 : Int) (hv2 : inR v2) (hv3 : inR v3) (hv4 : inR v4) (M : zM) (_ : F_X6_putInOrder_L7 v0 v2 v3 v4 M S = some M'), zJ K g 0 0 7 5 [(0, zr g v0), (2, .int (zi v2)), (3, .int (zi v3)), (4, .int (zi v4))] [] M S := by
    intro v0 v2 v3 v4 hv2 hv3 hv4 M h
    unfold F_X6_putInOrder_L7 at h
    obtain ⟨ex7, hl, hd7⟩ := zb1_ex h
    obtain ⟨bd7, ebd⟩ : ∃ f, f = (fun (s : Int × Int × zM) => F_X6_putInOrder_B7 v0 v2 s.1 s.2.1 s.2.2 S) := ⟨_, rfl⟩
    rw [← ebd] at hl
    have main : ∀ (n7 : Nat) (v3 : Int) (v4 : Int) (hv3 : inR v3) (hv4 : inR v4) (M : zM) (_ : zloop bd7 n7 (v3, v4, M) = some ex7), zJ K g 0 0 7 5 [(0, zr g v0), (2, .int (zi v2)), (3, .int (zi v3)), (4, .int (zi v4))] [] M S := by
      intro n7
      induction n7 with
      | zero => intro v3 v4 hv3 hv4 M hl; exact zloop_0 hl
      | succ n7 ih7 =>
        intro v3 v4 hv3 hv4 M hl
        obtain ⟨o, h, hT⟩ := zloop_ex hl
        have h : F_X6_putInOrder_B7 v0 v2 v3 v4 M S = some o := by rw [ebd] at h; exact h
        unfold F_X6_putInOrder_B7 at h
        refine j_iload hC 3 dX6_putInOrder_7 rfl ?_
        refine j_if_lt hC dX6_putInOrder_9 rfl (w_id hv4) (fun c3 => ?_) (fun c3 => ?_)
        · have h := zt c3 h
          obtain rfl := Option.some.inj h
          have hx7 := hd7
          rw [← show _ = ex7 from hT] at hx7
          refine j_sub [0, 1, 2] rfl ?_
          exact J_45 v0 v2 v3 hv2 hv3 M hx7
        · have h := zf c3 h
          refine j_aload_n hC 0 dX6_putInOrder_12 rfl rfl ?_
          refine j_iload hC 3 dX6_putInOrder_13 rfl ?_
          obtain ⟨r4, hy, h⟩ := zb1_ex h
          refine j_callSi hC hE lk_X6_7 dX6_putInOrder_15 (c_X6_at l hlt g v0 v4 hv4 M S hF hy) [zr g v0, .int (zi v4)] [] rfl rfl rfl (Nat.le_of_ble_eq_true rfl) (Nat.le_of_ble_eq_true rfl) (Nat.le_of_ble_eq_true rfl) (Nat.le_of_ble_eq_true rfl) (Nat.le_of_ble_eq_true rfl) (fun hp5 => ?_)
          have hr4 := hp5
          refine j_iload_n hC 1 dX6_putInOrder_18 rfl rfl ?_
          refine j_icmp_le hC dX6_putInOrder_19 rfl (w_id hr4) (w_id hv2) (fun c6 => ?_) (fun c6 => ?_)
          · have h := zf c6 h
            obtain rfl := Option.some.inj h
            have hx7 := hd7
            rw [← show _ = ex7 from hT] at hx7
            refine j_sub [0, 1, 2] rfl ?_
            exact J_45 v0 v2 v3 hv2 hv3 M hx7
          · have h := zt c6 h
            refine j_aload_n hC 0 dX6_putInOrder_22 rfl rfl ?_
            refine j_iload hC 3 dX6_putInOrder_23 rfl ?_
            refine j_iconst hC dX6_putInOrder_25 ?_
            refine j_iadd hC dX6_putInOrder_26 ?_
            refine j_aload_n hC 0 dX6_putInOrder_27 rfl rfl ?_
            refine j_iload hC 3 dX6_putInOrder_28 rfl ?_
            obtain ⟨r7, hy, h⟩ := zb1_ex h
            refine j_callSi hC hE lk_X6_7 dX6_putInOrder_30 (c_X6_at l hlt g v0 v4 hv4 M S hF hy) [zr g v0, .int (zi v4)] [.int (zi (v4 + 1)), zr g v0] rfl rfl rfl (Nat.le_of_ble_eq_true rfl) (Nat.le_of_ble_eq_true rfl) (Nat.le_of_ble_eq_true rfl) (Nat.le_of_ble_eq_true rfl) (Nat.le_of_ble_eq_true rfl) (fun hp8 => ?_)
            have hr7 := hp8
            obtain ⟨M9, hy, h⟩ := zb1_ex h
            refine j_callSv hC hE lk_X6_13 dX6_putInOrder_33 (c_X6_put l hlt g v0 (w (v4 + 1)) r7 (inR_w _) hr7 M S hF hy) [zr g v0, .int (zi (v4 + 1)), .int (zi r7)] [] rfl (by simp only [zi_w, zl_wl]) rfl (Nat.le_of_ble_eq_true rfl) (Nat.le_of_ble_eq_true rfl) (Nat.le_of_ble_eq_true rfl) (Nat.le_of_ble_eq_true rfl) (Nat.le_of_ble_eq_true rfl) (fun hp10 => ?_)
            refine j_iload hC 3 dX6_putInOrder_36 rfl ?_
            refine j_istore_n hC dX6_putInOrder_38 rfl (Nat.le_of_ble_eq_true rfl) rfl ?_
            obtain ⟨x11, ex11, h⟩ := zlet_ex h
            have hx11 : inR x11 := by rw [ex11]; exact inR_w _
            refine j_iinc hC 3 dX6_putInOrder_39 rfl ex11 (Nat.le_of_ble_eq_true rfl) rfl ?_
            refine j_goto hC dX6_putInOrder_42 rfl ?_
            obtain rfl := Option.some.inj h
            refine j_sub [2, 3, 1, 0] rfl ?_
            exact ih7 v4 x11 hv4 hx11 M9 hT
    exact main zN v3 v4 hv3 hv4 M hl
  refine j_iload_n hC 1 dX6_putInOrder_0 rfl rfl ?_
  refine j_istore_n hC dX6_putInOrder_1 rfl (Nat.le_of_ble_eq_true rfl) rfl ?_
  refine j_iload_n hC 2 dX6_putInOrder_2 rfl rfl ?_
  refine j_iconst hC dX6_putInOrder_3 ?_
  refine j_isub hC dX6_putInOrder_4 ?_
  obtain ⟨x12, ex12, h⟩ := zlet_ex h
  have hx12 : inR x12 := by rw [ex12]; exact inR_w _
  refine j_namei ex12 ?_
  refine j_istore hC dX6_putInOrder_5 (Nat.le_of_ble_eq_true rfl) rfl ?_
  refine j_sub [2, 4, 1, 0] rfl ?_
  exact L_7 v0 v2 v1 x12 hv2 hv1 hx12 M h
set_option maxHeartbeats 4000000 in
set_option maxRecDepth 100000 in
theorem c_X4_word (l : Launch) (hlt : l.stackTraces = false) (g : zG) (v0 : Int) (hv0 : inR v0) (M : zM) (S : zS) {r : Int} (h : F_X4_word v0 = some r) : zMet l g yX4_word cX4_word 1 (some .int) 1 0 0 [.int (zi v0)] M S (.inl (some (.int (zi r)))) M S (inR r) := by
  refine zMet_of (by decide) hlt [(0, .int (zi v0))] rfl (Nat.le_of_ble_eq_true rfl) (fun K hC hE hN => ?_)
  unfold F_X4_word at h
  refine j_iload_n hC 0 dX4_word_0 rfl rfl ?_
  refine j_bipush hC dX4_word_1 rfl ?_
  refine j_ishr hC dX4_word_3 ?_
  have e1 := Option.some.inj h
  exact j_iret hC hE dX4_word_4 (w_id (cR_zshr _ _)) (zn_i _) (by rw [← e1]) rfl rfl (by rw [← e1]; exact (cR_zshr _ _)) (Nat.le_of_ble_eq_true rfl) (Nat.le_of_ble_eq_true rfl)
set_option maxHeartbeats 4000000 in
set_option maxRecDepth 100000 in
theorem c_X4_withWord (l : Launch) (hlt : l.stackTraces = false) (g : zG) (v0 : Int) (v1 : Int) (hv0 : inR v0) (hv1 : inR v1) (M : zM) (S : zS) {r : Int} (h : F_X4_withWord v0 v1 = some r) : zMet l g yX4_withWord cX4_withWord 2 (some .int) 1 0 0 [.int (zi v0), .int (zi v1)] M S (.inl (some (.int (zi r)))) M S (inR r) := by
  refine zMet_of (by decide) hlt [(0, .int (zi v0)), (1, .int (zi v1))] rfl (Nat.le_of_ble_eq_true rfl) (fun K hC hE hN => ?_)
  unfold F_X4_withWord at h
  refine j_iload_n hC 1 dX4_withWord_0 rfl rfl ?_
  refine j_bipush hC dX4_withWord_1 rfl ?_
  refine j_ishl hC dX4_withWord_3 ?_
  refine j_iload_n hC 0 dX4_withWord_4 rfl rfl ?_
  refine j_sipush hC dX4_withWord_5 rfl ?_
  refine j_iand hC dX4_withWord_8 ?_
  refine j_ior hC dX4_withWord_9 ?_
  have e1 := Option.some.inj h
  exact j_iret hC hE dX4_withWord_10 (w_id (cR_zor _ _)) (zn_i _) (by rw [← e1]) rfl rfl (by rw [← e1]; exact (cR_zor _ _)) (Nat.le_of_ble_eq_true rfl) (Nat.le_of_ble_eq_true rfl)
set_option maxHeartbeats 4000000 in
set_option maxRecDepth 100000 in
theorem c_X4_context (l : Launch) (hlt : l.stackTraces = false) (g : zG) (v0 : Int) (hv0 : inR v0) (M : zM) (S : zS) {r : Int} (h : F_X4_context v0 = some r) : zMet l g yX4_context cX4_context 1 (some .int) 1 0 0 [.int (zi v0)] M S (.inl (some (.int (zi r)))) M S (inR r) := by
  refine zMet_of (by decide) hlt [(0, .int (zi v0))] rfl (Nat.le_of_ble_eq_true rfl) (fun K hC hE hN => ?_)
  unfold F_X4_context at h
  refine j_iload_n hC 0 dX4_context_0 rfl rfl ?_
  refine j_bipush hC dX4_context_1 rfl ?_
  refine j_ishr hC dX4_context_3 ?_
  refine j_bipush hC dX4_context_4 rfl ?_
  refine j_iand hC dX4_context_6 ?_
  have e1 := Option.some.inj h
  exact j_iret hC hE dX4_context_7 (w_id (cR_zand _ _)) (zn_i _) (by rw [← e1]) rfl rfl (by rw [← e1]; exact (cR_zand _ _)) (Nat.le_of_ble_eq_true rfl) (Nat.le_of_ble_eq_true rfl)
set_option maxHeartbeats 4000000 in
set_option maxRecDepth 100000 in
theorem c_X4_start (l : Launch) (hlt : l.stackTraces = false) (g : zG) (v0 : Int) (hv0 : inR v0) (M : zM) (S : zS) {r : Int} (h : F_X4_start v0 = some r) : zMet l g yX4_start cX4_start 1 (some .int) 1 0 0 [.int (zi v0)] M S (.inl (some (.int (zi r)))) M S (inR r) := by
  refine zMet_of (by decide) hlt [(0, .int (zi v0))] rfl (Nat.le_of_ble_eq_true rfl) (fun K hC hE hN => ?_)
  unfold F_X4_start at h
  refine j_iload_n hC 0 dX4_start_0 rfl rfl ?_
  refine j_iconst hC dX4_start_1 ?_
  refine j_ishr hC dX4_start_2 ?_
  refine j_bipush hC dX4_start_3 rfl ?_
  refine j_iand hC dX4_start_5 ?_
  have e1 := Option.some.inj h
  exact j_iret hC hE dX4_start_6 (w_id (cR_zand _ _)) (zn_i _) (by rw [← e1]) rfl rfl (by rw [← e1]; exact (cR_zand _ _)) (Nat.le_of_ble_eq_true rfl) (Nat.le_of_ble_eq_true rfl)
set_option maxHeartbeats 4000000 in
set_option maxRecDepth 100000 in
theorem c_X4_end (l : Launch) (hlt : l.stackTraces = false) (g : zG) (v0 : Int) (hv0 : inR v0) (M : zM) (S : zS) {r : Int} (h : F_X4_end v0 = some r) : zMet l g yX4_end cX4_end 1 (some .int) 1 0 0 [.int (zi v0)] M S (.inl (some (.int (zi r)))) M S (inR r) := by
  refine zMet_of (by decide) hlt [(0, .int (zi v0))] rfl (Nat.le_of_ble_eq_true rfl) (fun K hC hE hN => ?_)
  unfold F_X4_end at h
  refine j_iload_n hC 0 dX4_end_0 rfl rfl ?_
  refine j_bipush hC dX4_end_1 rfl ?_
  refine j_iand hC dX4_end_3 ?_
  have e1 := Option.some.inj h
  exact j_iret hC hE dX4_end_4 (w_id (cR_zand _ _)) (zn_i _) (by rw [← e1]) rfl rfl (by rw [← e1]; exact (cR_zand _ _)) (Nat.le_of_ble_eq_true rfl) (Nat.le_of_ble_eq_true rfl)
set_option maxHeartbeats 4000000 in
set_option maxRecDepth 100000 in
theorem c_X6_sort (l : Launch) (hlt : l.stackTraces = false) (g : zG) (v0 : Nat) (v1 : Int) (hv1 : inR v1) (M : zM) (S : zS) (hF : zFx S) {M' : zM} (h : F_X6_sort v0 v1 M S = some M') : zMet l g yX6_sort cX6_sort 3 none 3 0 0 [zr g v0, .int (zi v1)] M S (.inl none) M' S (True) := by
  refine zMet_of (by decide) hlt [(0, zr g v0), (1, .int (zi v1))] (by simp only [lv_args, zr_cat, Value.category] <;> rfl) (by rw [zsl_len]; simp only [List.map_cons, List.map_nil, zr_cat, Value.category, List.sum_cons, List.sum_nil] <;> decide) (fun K hC hE hN => ?_)
  unfold F_X6_sort at h
  have J_23 : ∀ (M : zM) (_ : F_X6_sort_J23 M S = some M'), zJ K g 0 0 23 3 [] [] M S := by
    intro M h
    unfold F_X6_sort_J23 at h
    have e1 := Option.some.inj h
    exact j_vret hC hE dX6_sort_23 rfl e1 rfl trivial (Nat.le_of_ble_eq_true rfl) (Nat.le_of_ble_eq_true rfl)
  have L_2 : ∀ (v0 : Nat) (v1 : Int) (v2 : Int) (hv1 : inR v1) (hv2 : inR v2) (M : zM) (_ : F_X6_sort_L2 v0 v1 v2 M S = some M'), zJ K g 0 0 2 3 [(0, zr g v0), (1, .int (zi v1)), (2, .int (zi v2))] [] M S := by
    intro v0 v1 v2 hv1 hv2 M h
    unfold F_X6_sort_L2 at h
    obtain ⟨ex2, hl, hd2⟩ := zb1_ex h
    obtain ⟨bd2, ebd⟩ : ∃ f, f = (fun (s : Int × zM) => F_X6_sort_B2 v0 v1 s.1 s.2 S) := ⟨_, rfl⟩
    rw [← ebd] at hl
    have main : ∀ (n2 : Nat) (v2 : Int) (hv2 : inR v2) (M : zM) (_ : zloop bd2 n2 (v2, M) = some ex2), zJ K g 0 0 2 3 [(0, zr g v0), (1, .int (zi v1)), (2, .int (zi v2))] [] M S := by
      intro n2
      induction n2 with
      | zero => intro v2 hv2 M hl; exact zloop_0 hl
      | succ n2 ih2 =>
        intro v2 hv2 M hl
        obtain ⟨o, h, hT⟩ := zloop_ex hl
        have h : F_X6_sort_B2 v0 v1 v2 M S = some o := by rw [ebd] at h; exact h
        unfold F_X6_sort_B2 at h
        refine j_iload_n hC 2 dX6_sort_2 rfl rfl ?_
        refine j_iload_n hC 1 dX6_sort_3 rfl rfl ?_
        refine j_icmp_ge hC dX6_sort_4 rfl (w_id hv2) (w_id hv1) (fun c1 => ?_) (fun c1 => ?_)
        · have h := zf c1 h
          obtain rfl := Option.some.inj h
          have hx2 := hd2
          rw [← show _ = ex2 from hT] at hx2
          refine j_sub [] rfl ?_
          exact J_23 M hx2
        · have h := zt c1 h
          refine j_aload_n hC 0 dX6_sort_7 rfl rfl ?_
          refine j_iload_n hC 2 dX6_sort_8 rfl rfl ?_
          refine j_aload_n hC 0 dX6_sort_9 rfl rfl ?_
          refine j_iload_n hC 2 dX6_sort_10 rfl rfl ?_
          obtain ⟨r2, hy, h⟩ := zb1_ex h
          refine j_callSi hC hE lk_X6_7 dX6_sort_11 (c_X6_at l hlt g v0 v2 hv2 M S hF hy) [zr g v0, .int (zi v2)] [.int (zi v2), zr g v0] rfl rfl rfl (Nat.le_of_ble_eq_true rfl) (Nat.le_of_ble_eq_true rfl) (Nat.le_of_ble_eq_true rfl) (Nat.le_of_ble_eq_true rfl) (Nat.le_of_ble_eq_true rfl) (fun hp3 => ?_)
          have hr2 := hp3
          obtain ⟨M4, hy, h⟩ := zb1_ex h
          refine j_callSv hC hE lk_X6_17 dX6_sort_14 (c_X6_putInOrder l hlt g v0 v2 r2 hv2 hr2 M S hF hy) [zr g v0, .int (zi v2), .int (zi r2)] [] rfl rfl rfl (Nat.le_of_ble_eq_true rfl) (Nat.le_of_ble_eq_true rfl) (Nat.le_of_ble_eq_true rfl) (Nat.le_of_ble_eq_true rfl) (Nat.le_of_ble_eq_true rfl) (fun hp5 => ?_)
          obtain ⟨x6, ex6, h⟩ := zlet_ex h
          have hx6 : inR x6 := by rw [ex6]; exact inR_w _
          refine j_iinc hC 2 dX6_sort_17 rfl ex6 (Nat.le_of_ble_eq_true rfl) rfl ?_
          refine j_goto hC dX6_sort_20 rfl ?_
          obtain rfl := Option.some.inj h
          refine j_sub [1, 2, 0] rfl ?_
          exact ih2 x6 hx6 M4 hT
    exact main zN v2 hv2 M hl
  refine j_iconst hC dX6_sort_0 ?_
  refine j_istore_n hC dX6_sort_1 rfl (Nat.le_of_ble_eq_true rfl) rfl ?_
  refine j_sub [1, 2, 0] rfl ?_
  exact L_2 v0 v1 1 hv1 kR_1 M h
