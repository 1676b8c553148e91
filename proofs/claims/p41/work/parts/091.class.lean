/-! CERTIFICATES: a program has written them (wip/p41/gen5.py) -/
/-! a cell that is not yet made holds zeros -/
theorem j_fresh {K : zK} {g : zG} {nL nc ns pc q : Nat} {lv : List (Nat × Value)} {rest : List Value} {M : zM} {S : zS} (hq : S.1 < q) (k : zJ K g nc ns pc nL lv rest (up M q (fun _ => 0)) S) : zJ K g nc ns pc nL lv rest M S := by
  obtain ⟨p, l, e, R, s, m, args, below, meth, c, Q⟩ := K
  intro H locs ls hR hS hl
  have e1 : up M q (fun _ => 0) = M := by
    funext a
    by_cases h : a = q
    · subst h; rw [up_eq]; exact (hR.2.2.1.1 a (Or.inr hq)).2.1.symm
    · exact up_ne _ _ h
  exact k H locs ls (by rw [e1]; exact hR) hS hl
theorem j_fresh2 {K : zK} {g : zG} {nL nc ns pc : Nat} {lv : List (Nat × Value)} {rest : List Value} {M M1 : zM} {S : zS} (e : M1 = up (up M (S.1 + 1) (fun _ => 0)) (S.1 + 2) (fun _ => 0)) (k : zJ K g nc ns pc nL lv rest M1 S) : zJ K g nc ns pc nL lv rest M S := by
  subst e
  exact j_fresh (Nat.lt_succ_self S.1) (j_fresh (Nat.lt_of_lt_of_le (Nat.lt_succ_self S.1) (Nat.le_succ (S.1 + 1))) k)
set_option maxHeartbeats 4000000 in
set_option maxRecDepth 100000 in
theorem c_X9_length (l : Launch) (hlt : l.stackTraces = false) (g : zG) (v0 : Int) (hv0 : inR v0) (M : zM) (S : zS) {r : Int} (h : F_X9_length v0 = some r) : zMet l g yX9_length cX9_length 4 (some .int) 1 0 0 [.int (zi v0)] M S (.inl (some (.int (zi r)))) M S (inR r) := by
  refine zMet_of (by decide) hlt [(0, .int (zi v0))] rfl (Nat.le_of_ble_eq_true rfl) (fun K hC hE hN => ?_)
  unfold F_X9_length at h
  have J_31 : ∀ (v1 : Int) (hv1 : inR v1) (_ : F_X9_length_J31 v1 = some r), zJ K g 0 0 31 4 [(1, .int (zi v1))] [] M S := by
    intro v1 hv1 h
    unfold F_X9_length_J31 at h
    refine j_iload_n hC 0 dX9_length_31 rfl rfl ?_
    have e1 := Option.some.inj h
    exact j_iret hC hE dX9_length_32 (w_id hv1) (zn_i _) (by rw [← e1]) rfl rfl (by rw [← e1]; exact hv1) (Nat.le_of_ble_eq_true rfl) (Nat.le_of_ble_eq_true rfl)
  have L_6 : ∀ (v0 : Int) (v1 : Int) (v2 : Int) (v3 : Int) (hv0 : inR v0) (hv1 : inR v1) (hv2 : inR v2) (hv3 : inR v3) (_ : F_X9_length_L6 v0 v1 v2 v3 = some r), zJ K g 0 0 6 4 [(0, .int (zi v0)), (1, .int (zi v1)), (2, .int (zi v2)), (3, .int (zi v3))] [] M S := by
    intro v0 v1 v2 v3 hv0 hv1 hv2 hv3 h
    unfold F_X9_length_L6 at h
    obtain ⟨ex6, hl, hd6⟩ := zb1_ex h
    obtain ⟨bd6, ebd⟩ : ∃ f, f = (fun (s : Int × Int × Int) => F_X9_length_B6 v0 s.1 s.2.1 s.2.2) := ⟨_, rfl⟩
    rw [← ebd] at hl
    have main : ∀ (n6 : Nat) (v1 : Int) (v2 : Int) (v3 : Int) (hv1 : inR v1) (hv2 : inR v2) (hv3 : inR v3) (_ : zloop bd6 n6 (v1, v2, v3) = some ex6), zJ K g 0 0 6 4 [(0, .int (zi v0)), (1, .int (zi v1)), (2, .int (zi v2)), (3, .int (zi v3))] [] M S := by
      intro n6
      induction n6 with
      | zero => intro v1 v2 v3 hv1 hv2 hv3 hl; exact zloop_0 hl
      | succ n6 ih6 =>
        intro v1 v2 v3 hv1 hv2 hv3 hl
        obtain ⟨o, h, hT⟩ := zloop_ex hl
        have h : F_X9_length_B6 v0 v1 v2 v3 = some o := by rw [ebd] at h; exact h
        unfold F_X9_length_B6 at h
        refine j_iload_n hC 3 dX9_length_6 rfl rfl ?_
        refine j_bipush hC dX9_length_7 rfl ?_
        refine j_icmp_gt hC dX9_length_9 rfl (w_id hv3) (w_id kR_9) (fun c1 => ?_) (fun c1 => ?_)
        · have h := zt c1 h
          obtain rfl := Option.some.inj h
          have hx6 := hd6
          rw [← show _ = ex6 from hT] at hx6
          refine j_sub [1] rfl ?_
          exact J_31 v1 hv1 hx6
        · have h := zf c1 h
          refine j_iload_n hC 0 dX9_length_12 rfl rfl ?_
          refine j_iload_n hC 2 dX9_length_13 rfl rfl ?_
          refine j_icmp_lt hC dX9_length_14 rfl (w_id hv0) (w_id hv2) (fun c2 => ?_) (fun c2 => ?_)
          · have h := zt c2 h
            obtain rfl := Option.some.inj h
            have hx6 := hd6
            rw [← show _ = ex6 from hT] at hx6
            refine j_sub [1] rfl ?_
            exact J_31 v1 hv1 hx6
          · have h := zf c2 h
            refine j_iload_n hC 3 dX9_length_17 rfl rfl ?_
            refine j_istore_n hC dX9_length_18 rfl (Nat.le_of_ble_eq_true rfl) rfl ?_
            refine j_iconst hC dX9_length_19 ?_
            refine j_iload_n hC 2 dX9_length_20 rfl rfl ?_
            refine j_imul hC dX9_length_21 ?_
            refine j_iconst hC dX9_length_22 ?_
            refine j_iadd hC dX9_length_23 ?_
            obtain ⟨x3, ex3, h⟩ := zlet_ex h
            have hx3 : inR x3 := by rw [ex3]; exact inR_w _
            refine j_namei ex3 ?_
            refine j_istore_n hC dX9_length_24 rfl (Nat.le_of_ble_eq_true rfl) rfl ?_
            obtain ⟨x4, ex4, h⟩ := zlet_ex h
            have hx4 : inR x4 := by rw [ex4]; exact inR_w _
            refine j_iinc hC 3 dX9_length_25 rfl ex4 (Nat.le_of_ble_eq_true rfl) rfl ?_
            refine j_goto hC dX9_length_28 rfl ?_
            obtain rfl := Option.some.inj h
            refine j_sub [3, 2, 1, 0] rfl ?_
            exact ih6 v3 x3 x4 hv3 hx3 hx4 hT
    exact main zN v1 v2 v3 hv1 hv2 hv3 hl
  refine j_iconst hC dX9_length_0 ?_
  refine j_istore_n hC dX9_length_1 rfl (Nat.le_of_ble_eq_true rfl) rfl ?_
  refine j_iconst hC dX9_length_2 ?_
  refine j_istore_n hC dX9_length_3 rfl (Nat.le_of_ble_eq_true rfl) rfl ?_
  refine j_iconst hC dX9_length_4 ?_
  refine j_istore_n hC dX9_length_5 rfl (Nat.le_of_ble_eq_true rfl) rfl ?_
  refine j_sub [3, 2, 1, 0] rfl ?_
  exact L_6 v0 0 1 1 hv0 kR_0 kR_1 kR_1 h
set_option maxHeartbeats 4000000 in
set_option maxRecDepth 100000 in
theorem c_X0_init (l : Launch) (hlt : l.stackTraces = false) (g : zG) (v0 : Nat) (v1 : Int) (v2 : Int) (v3 : Nat) (hv1 : inR v1) (hv2 : inR v2) (M : zM) (S : zS) {M' : zM} {S' : zS} (h : F_X0_init v0 v1 v2 v3 M S = some (M', S')) : zMet l g yX0_init cX0_init 4 none 3 0 0 [zr g v0, .int (zi v1), .int (zi v2), zr g v3] M S (.inl none) M' S' ((zFx S → 89 < v0 → zFx S')) := by
  refine zMet_of (by decide) hlt [(0, zr g v0), (1, .int (zi v1)), (2, .int (zi v2)), (3, zr g v3)] (by simp only [lv_args, zr_cat, zc_i, zc_l, zc_d, zc_r] <;> rfl) (by rw [zsl_len]; simp only [List.map_cons, List.map_nil, zr_cat, zc_i, zc_l, zc_d, zc_r, List.sum_cons, List.sum_nil] <;> decide) (fun K hC hE hN => ?_)
  unfold F_X0_init at h
  refine j_aload_n hC 0 dX0_init_0 rfl rfl ?_
  obtain ⟨c1, h⟩ := zchk_ex h
  refine j_objI hC hE dX0_init_1 k1110 k79 k80 c1 (Nat.le_of_ble_eq_true rfl) (Nat.le_of_ble_eq_true rfl) ?_
  refine j_aload_n hC 0 dX0_init_4 rfl rfl ?_
  refine j_iload_n hC 1 dX0_init_5 rfl rfl ?_
  obtain ⟨hk, h⟩ := zchk_ex h
  have hk2 := hk
  obtain ⟨M3, eM3, h⟩ := zlet_ex h
  refine j_putF hC hE dX0_init_6 f_X0_7 pF_X0 hk2 (Or.inl rfl) rfl 0 rfl (w_id hv1) hv1 eM3 rfl ?_
  refine j_aload_n hC 0 dX0_init_9 rfl rfl ?_
  refine j_iload_n hC 1 dX0_init_10 rfl rfl ?_
  obtain ⟨r4, hy, h⟩ := zb1_ex h
  refine j_callSi hC hE lk_X0_13 dX0_init_11 (c_X9_length l hlt g v1 hv1 M3 S hy) [.int (zi v1)] [zr g v0] rfl rfl rfl (zcat (Nat.le_of_ble_eq_true rfl)) (Nat.le_of_ble_eq_true rfl) (Nat.le_of_ble_eq_true rfl) (Nat.le_of_ble_eq_true rfl) (Nat.le_of_ble_eq_true rfl) (fun hp5 => ?_)
  have hr4 := hp5
  obtain ⟨hk, h⟩ := zchk_ex h
  have hk6 := hk
  obtain ⟨M7, eM7, h⟩ := zlet_ex h
  refine j_putF hC hE dX0_init_14 f_X0_19 pF_X0 hk6 (Or.inl rfl) rfl 1 rfl (w_id hr4) hr4 eM7 rfl ?_
  refine j_aload_n hC 0 dX0_init_17 rfl rfl ?_
  refine j_iload_n hC 2 dX0_init_18 rfl rfl ?_
  obtain ⟨hk, h⟩ := zchk_ex h
  have hk8 := hk
  obtain ⟨M9, eM9, h⟩ := zlet_ex h
  refine j_putF hC hE dX0_init_19 f_X0_22 pF_X0 hk8 (Or.inl rfl) rfl 2 rfl (w_id hv2) hv2 eM9 rfl ?_
  refine j_aload_n hC 0 dX0_init_22 rfl rfl ?_
  refine j_iload_n hC 2 dX0_init_23 rfl rfl ?_
  obtain ⟨r10, hy, h⟩ := zb1_ex h
  refine j_callSi hC hE lk_X0_13 dX0_init_24 (c_X9_length l hlt g v2 hv2 M9 S hy) [.int (zi v2)] [zr g v0] rfl rfl rfl (zcat (Nat.le_of_ble_eq_true rfl)) (Nat.le_of_ble_eq_true rfl) (Nat.le_of_ble_eq_true rfl) (Nat.le_of_ble_eq_true rfl) (Nat.le_of_ble_eq_true rfl) (fun hp11 => ?_)
  have hr10 := hp11
  obtain ⟨hk, h⟩ := zchk_ex h
  have hk12 := hk
  obtain ⟨M13, eM13, h⟩ := zlet_ex h
  refine j_putF hC hE dX0_init_27 f_X0_25 pF_X0 hk12 (Or.inl rfl) rfl 3 rfl (w_id hr10) hr10 eM13 rfl ?_
  refine j_aload_n hC 0 dX0_init_30 rfl rfl ?_
  refine j_aload_n hC 3 dX0_init_31 rfl rfl ?_
  obtain ⟨hk, h⟩ := zchk_ex h
  have hk14 := hk
  obtain ⟨S15, eS15, h⟩ := zlet_ex h
  refine j_putq hC hE dX0_init_32 f_X0_28 pF_X0 hk14 rfl rfl rfl 4 rfl eS15 ?_
  obtain ⟨e1, e2⟩ := zpr2 (Option.some.inj h)
  exact j_vret hC hE dX0_init_35 rfl e1 e2 (by rw [← e2]; exact (zFx_pq (zFx_id (S := S)) eS15)) (Nat.le_of_ble_eq_true rfl) (Nat.le_of_ble_eq_true rfl)
set_option maxHeartbeats 4000000 in
set_option maxRecDepth 100000 in
theorem c_X0_growth (l : Launch) (hlt : l.stackTraces = false) (g : zG) (v0 : Nat) (M : zM) (S : zS) (hF : zFx S) {r : Int} (h : F_X0_growth v0 M S = some r) : zMet l g yX0_growth cX0_growth 1 (some .int) 1 0 0 [zr g v0] M S (.inl (some (.int (zi r)))) M S (inR r) := by
  refine zMet_of (by decide) hlt [(0, zr g v0)] (by simp only [lv_args, zr_cat, zc_i, zc_l, zc_d, zc_r] <;> rfl) (by rw [zsl_len]; simp only [List.map_cons, List.map_nil, zr_cat, zc_i, zc_l, zc_d, zc_r, List.sum_cons, List.sum_nil] <;> decide) (fun K hC hE hN => ?_)
  unfold F_X0_growth at h
  refine j_aload_n hC 0 dX0_growth_0 rfl rfl ?_
  obtain ⟨hk, h⟩ := zchk_ex h
  have hk1 := hk
  refine j_get hC dX0_growth_1 f_X0_19 hk1 rfl 1 rfl (fun hg2 => ?_)
  refine j_aload_n hC 0 dX0_growth_4 rfl rfl ?_
  obtain ⟨hk, h⟩ := zchk_ex h
  have hk3 := hk
  refine j_get hC dX0_growth_5 f_X0_25 hk3 rfl 3 rfl (fun hg4 => ?_)
  refine j_iadd hC dX0_growth_8 ?_
  have e1 := Option.some.inj h
  exact j_iret hC hE dX0_growth_9 rfl (zn_i _) (by rw [← e1]) rfl rfl (by rw [← e1]; exact (inR_w _)) (Nat.le_of_ble_eq_true rfl) (Nat.le_of_ble_eq_true rfl)
set_option maxHeartbeats 4000000 in
set_option maxRecDepth 100000 in
theorem c_X9_power (l : Launch) (hlt : l.stackTraces = false) (g : zG) (v0 : Int) (hv0 : inR v0) (M : zM) (S : zS) {r : Int} (h : F_X9_power v0 = some r) : zMet l g yX9_power cX9_power 1 (some .int) 1 0 0 [.int (zi v0)] M S (.inl (some (.int (zi r)))) M S (inR r) := by
  refine zMet_of (by decide) hlt [(0, .int (zi v0))] rfl (Nat.le_of_ble_eq_true rfl) (fun K hC hE hN => ?_)
  unfold F_X9_power at h
  have J_12 : ∀ (_ : F_X9_power_J12 = some r), zJ K g 0 0 12 1 [] [] M S := by
    intro h
    unfold F_X9_power_J12 at h
    refine j_iconst hC dX9_power_12 ?_
    refine j_goto hC dX9_power_13 rfl ?_
    have e1 := Option.some.inj h
    exact j_iret hC hE dX9_power_21 (w_id kR_1) (zn_i _) (by rw [← e1]) rfl rfl (by rw [← e1]; exact kR_1) (Nat.le_of_ble_eq_true rfl) (Nat.le_of_ble_eq_true rfl)
  refine j_iload_n hC 0 dX9_power_0 rfl rfl ?_
  refine j_if_lt hC dX9_power_1 rfl (w_id hv0) (fun c1 => ?_) (fun c1 => ?_)
  · have h := zt c1 h
    refine j_sub [] rfl ?_
    exact J_12 h
  · have h := zf c1 h
    refine j_iload_n hC 0 dX9_power_4 rfl rfl ?_
    refine j_gets hC dX9_power_5 k454 ?_
    refine j_powln hC dX9_power_8 ?_
    refine j_icmp_lt hC dX9_power_9 rfl (w_id hv0) (w_id kR_10) (fun c2 => ?_) (fun c2 => ?_)
    · have h := zt c2 h
      refine j_gets hC dX9_power_16 k454 ?_
      refine j_iload_n hC 0 dX9_power_19 rfl rfl ?_
      obtain ⟨c3, h⟩ := zchk_ex h
      refine j_powld hC dX9_power_20 (w_id hv0) c3.1 c3.2 ?_
      have e1 := Option.some.inj h
      exact j_iret hC hE dX9_power_21 (w_id (cR_zpow c3.1 c3.2)) (zn_i _) (by rw [← e1]) rfl rfl (by rw [← e1]; exact (cR_zpow c3.1 c3.2)) (Nat.le_of_ble_eq_true rfl) (Nat.le_of_ble_eq_true rfl)
    · have h := zf c2 h
      refine j_sub [] rfl ?_
      exact J_12 h
set_option maxHeartbeats 4000000 in
set_option maxRecDepth 100000 in
theorem c_X9_factor (l : Launch) (hlt : l.stackTraces = false) (g : zG) (v0 : Int) (v1 : Int) (v2 : Int) (v3 : Int) (hv0 : inR v0) (hv1 : inR v1) (hv2 : inR v2) (hv3 : inR v3) (M : zM) (S : zS) {r : Int} (h : F_X9_factor v0 v1 v2 v3 = some r) : zMet l g yX9_factor cX9_factor 8 (some .int) 2 0 0 [.int (zi v0), .int (zi v1), .int (zi v2), .int (zi v3)] M S (.inl (some (.int (zi r)))) M S (inR r) := by
  refine zMet_of (by decide) hlt [(0, .int (zi v0)), (1, .int (zi v1)), (2, .int (zi v2)), (3, .int (zi v3))] rfl (Nat.le_of_ble_eq_true rfl) (fun K hC hE hN => ?_)
  unfold F_X9_factor at h
  refine j_iload_n hC 1 dX9_factor_0 rfl rfl ?_
  refine j_iload_n hC 3 dX9_factor_1 rfl rfl ?_
  refine j_isub hC dX9_factor_2 ?_
  obtain ⟨r1, hy, h⟩ := zb1_ex h
  refine j_callSi hC hE lk_X9_13 dX9_factor_3 (c_X9_power l hlt g (w (v1 - v3)) (inR_w _) M S hy) [.int (zi (v1 - v3))] [] rfl (by simp only [zi_w, zl_wl]) rfl (zcat (Nat.le_of_ble_eq_true rfl)) (Nat.le_of_ble_eq_true rfl) (Nat.le_of_ble_eq_true rfl) (Nat.le_of_ble_eq_true rfl) (Nat.le_of_ble_eq_true rfl) (fun hp2 => ?_)
  have hr1 := hp2
  refine j_istore hC dX9_factor_6 (Nat.le_of_ble_eq_true rfl) rfl ?_
  refine j_iload_n hC 4 dX9_factor_8 rfl rfl ?_
  refine j_iload_n hC 3 dX9_factor_9 rfl rfl ?_
  refine j_isub hC dX9_factor_10 ?_
  obtain ⟨r3, hy, h⟩ := zb1_ex h
  refine j_callSi hC hE lk_X9_13 dX9_factor_11 (c_X9_power l hlt g (w (v3 - v2)) (inR_w _) M S hy) [.int (zi (v3 - v2))] [] rfl (by simp only [zi_w, zl_wl]) rfl (zcat (Nat.le_of_ble_eq_true rfl)) (Nat.le_of_ble_eq_true rfl) (Nat.le_of_ble_eq_true rfl) (Nat.le_of_ble_eq_true rfl) (Nat.le_of_ble_eq_true rfl) (fun hp4 => ?_)
  have hr3 := hp4
  refine j_istore hC dX9_factor_14 (Nat.le_of_ble_eq_true rfl) rfl ?_
  refine j_iload hC 1 dX9_factor_16 rfl ?_
  refine j_iconst hC dX9_factor_18 ?_
  refine j_icmp_lt hC dX9_factor_19 rfl (w_id hr1) (w_id kR_1) (fun c5 => ?_) (fun c5 => ?_)
  · have h := zt c5 h
    refine j_iconst hC dX9_factor_28 ?_
    have e1 := Option.some.inj h
    exact j_iret hC hE dX9_factor_29 (w_id kR_0) (zn_i _) (by rw [← e1]) rfl rfl (by rw [← e1]; exact kR_0) (Nat.le_of_ble_eq_true rfl) (Nat.le_of_ble_eq_true rfl)
  · have h := zf c5 h
    refine j_iload hC 0 dX9_factor_22 rfl ?_
    refine j_iconst hC dX9_factor_24 ?_
    refine j_icmp_ge hC dX9_factor_25 rfl (w_id hr3) (w_id kR_1) (fun c6 => ?_) (fun c6 => ?_)
    · have h := zf c6 h
      refine j_iload_n hC 2 dX9_factor_30 rfl rfl ?_
      refine j_iload hC 1 dX9_factor_31 rfl ?_
      refine j_iconst hC dX9_factor_33 ?_
      refine j_idiv hC dX9_factor_34 (w_id kR_2) (by decide) ?_
      refine j_isub hC dX9_factor_35 ?_
      refine j_iload hC 1 dX9_factor_36 rfl ?_
      obtain ⟨c7, h⟩ := zchk_ex h
      refine j_idiv hC dX9_factor_38 (w_id hr1) c7 ?_
      obtain ⟨x8, ex8, h⟩ := zlet_ex h
      have hx8 : inR x8 := by rw [ex8]; exact (cR_zdiv _ _)
      refine j_names ex8 ?_
      refine j_istore hC dX9_factor_39 (Nat.le_of_ble_eq_true rfl) rfl ?_
      refine j_iload hC 1 dX9_factor_41 rfl ?_
      refine j_iconst hC dX9_factor_43 ?_
      refine j_idiv hC dX9_factor_44 (w_id kR_2) (by decide) ?_
      obtain ⟨x9, ex9, h⟩ := zlet_ex h
      have hx9 : inR x9 := by rw [ex9]; exact (cR_zdiv _ _)
      refine j_names ex9 ?_
      refine j_istore hC dX9_factor_45 (Nat.le_of_ble_eq_true rfl) rfl ?_
      refine j_iload hC 1 dX9_factor_47 rfl ?_
      refine j_iload hC 0 dX9_factor_49 rfl ?_
      refine j_isub hC dX9_factor_51 ?_
      refine j_iload hC 2 dX9_factor_52 rfl ?_
      obtain ⟨c10, h⟩ := zchk_ex h
      refine j_irem hC dX9_factor_54 (w_id hr3) c10 ?_
      refine j_iload hC 0 dX9_factor_55 rfl ?_
      refine j_iadd hC dX9_factor_57 ?_
      have e1 := Option.some.inj h
      exact j_iret hC hE dX9_factor_58 rfl (zn_i _) (by rw [← e1]) rfl rfl (by rw [← e1]; exact (inR_w _)) (Nat.le_of_ble_eq_true rfl) (Nat.le_of_ble_eq_true rfl)
    · have h := zt c6 h
      refine j_iconst hC dX9_factor_28 ?_
      have e1 := Option.some.inj h
      exact j_iret hC hE dX9_factor_29 (w_id kR_0) (zn_i _) (by rw [← e1]) rfl rfl (by rw [← e1]; exact kR_0) (Nat.le_of_ble_eq_true rfl) (Nat.le_of_ble_eq_true rfl)
set_option maxHeartbeats 4000000 in
set_option maxRecDepth 100000 in
theorem c_X6_at_ (l : Launch) (hlt : l.stackTraces = false) (g : zG) (v0 : Nat) (v1 : Int) (hv1 : inR v1) (M : zM) (S : zS) (hF : zFx S) {r : Int} (h : F_X6_at_ v0 v1 M S = some r) : zMet l g yX6_at_ cX6_at_ 2 (some .long) 1 0 0 [zr g v0, .int (zi v1)] M S (.inl (some (.long (zl r)))) M S (inL r) := by
  refine zMet_of (by decide) hlt [(0, zr g v0), (1, .int (zi v1))] (by simp only [lv_args, zr_cat, zc_i, zc_l, zc_d, zc_r] <;> rfl) (by rw [zsl_len]; simp only [List.map_cons, List.map_nil, zr_cat, zc_i, zc_l, zc_d, zc_r, List.sum_cons, List.sum_nil] <;> decide) (fun K hC hE hN => ?_)
  unfold F_X6_at_ at h
  have J_10 : ∀ (_ : F_X6_at__J10 M S = some r), zJ K g 0 0 10 2 [] [] M S := by
    intro h
    unfold F_X6_at__J10 at h
    refine j_lconst (z := 0) hC dX6_at__10 rfl ?_
    refine j_goto hC dX6_at__11 rfl ?_
    have e1 := Option.some.inj h
    exact j_lret hC hE dX6_at__17 (wl_id (inLc rfl)) (by rw [← e1]) rfl rfl (by rw [← e1]; exact (inLc rfl)) (Nat.le_of_ble_eq_true rfl) (Nat.le_of_ble_eq_true rfl)
  refine j_iload_n hC 1 dX6_at__0 rfl rfl ?_
  refine j_if_lt hC dX6_at__1 rfl (w_id hv1) (fun c1 => ?_) (fun c1 => ?_)
  · have h := zt c1 h
    refine j_sub [] rfl ?_
    exact J_10 h
  · have h := zf c1 h
    refine j_iload_n hC 1 dX6_at__4 rfl rfl ?_
    refine j_aload_n hC 0 dX6_at__5 rfl rfl ?_
    obtain ⟨hk, h⟩ := zchk_ex h
    have hk2 := hk
    refine j_alen (k := 21) (n := (zlen S v0)) hC dX6_at__6 hk2 (Nat.le_of_ble_eq_true rfl) (Nat.le_of_ble_eq_true rfl) rfl (fun hl3 => ?_)
    refine j_icmp_lt hC dX6_at__7 rfl (w_id hv1) (w_id hl3) (fun c4 => ?_) (fun c4 => ?_)
    · have h := zt c4 h
      refine j_aload_n hC 0 dX6_at__14 rfl rfl ?_
      refine j_iload_n hC 1 dX6_at__15 rfl rfl ?_
      obtain ⟨hk, h⟩ := zchk_ex h
      have hk5 := hk
      obtain ⟨c6, h⟩ := zchk_ex h
      refine j_lald (n := (zlen S v0)) hC dX6_at__16 (w_id hv1) hk5 rfl c6.1 c6.2 (fun hg7 => ?_)
      have e1 := Option.some.inj h
      exact j_lret hC hE dX6_at__17 (wl_id hg7) (by rw [← e1]) rfl rfl (by rw [← e1]; exact hg7) (Nat.le_of_ble_eq_true rfl) (Nat.le_of_ble_eq_true rfl)
    · have h := zf c4 h
      refine j_sub [] rfl ?_
      exact J_10 h
set_option maxHeartbeats 4000000 in
set_option maxRecDepth 100000 in
theorem c_X6_put_ (l : Launch) (hlt : l.stackTraces = false) (g : zG) (v0 : Nat) (v1 : Int) (v2 : Int) (hv1 : inR v1) (hv2 : inL v2) (M : zM) (S : zS) (hF : zFx S) {M' : zM} (h : F_X6_put_ v0 v1 v2 M S = some M') : zMet l g yX6_put_ cX6_put_ 4 none 1 0 0 [zr g v0, .int (zi v1), .long (zl v2)] M S (.inl none) M' S (True) := by
  refine zMet_of (by decide) hlt [(0, zr g v0), (1, .int (zi v1)), (2, .long (zl v2))] (by simp only [lv_args, zr_cat, zc_i, zc_l, zc_d, zc_r] <;> rfl) (by rw [zsl_len]; simp only [List.map_cons, List.map_nil, zr_cat, zc_i, zc_l, zc_d, zc_r, List.sum_cons, List.sum_nil] <;> decide) (fun K hC hE hN => ?_)
  unfold F_X6_put_ at h
  refine j_iload_n hC 1 dX6_put__0 rfl rfl ?_
  refine j_if_lt hC dX6_put__1 rfl (w_id hv1) (fun c1 => ?_) (fun c1 => ?_)
  · have h := zt c1 h
    have e1 := Option.some.inj h
    exact j_vret hC hE dX6_put__14 rfl e1 rfl trivial (Nat.le_of_ble_eq_true rfl) (Nat.le_of_ble_eq_true rfl)
  · have h := zf c1 h
    refine j_iload_n hC 1 dX6_put__4 rfl rfl ?_
    refine j_aload_n hC 0 dX6_put__5 rfl rfl ?_
    obtain ⟨hk, h⟩ := zchk_ex h
    have hk2 := hk
    refine j_alen (k := 21) (n := (zlen S v0)) hC dX6_put__6 hk2 (Nat.le_of_ble_eq_true rfl) (Nat.le_of_ble_eq_true rfl) rfl (fun hl3 => ?_)
    refine j_icmp_ge hC dX6_put__7 rfl (w_id hv1) (w_id hl3) (fun c4 => ?_) (fun c4 => ?_)
    · have h := zf c4 h
      have e1 := Option.some.inj h
      exact j_vret hC hE dX6_put__14 rfl e1 rfl trivial (Nat.le_of_ble_eq_true rfl) (Nat.le_of_ble_eq_true rfl)
    · have h := zt c4 h
      refine j_aload_n hC 0 dX6_put__10 rfl rfl ?_
      refine j_iload_n hC 1 dX6_put__11 rfl rfl ?_
      refine j_lload_n hC 2 dX6_put__12 rfl rfl ?_
      obtain ⟨hk, h⟩ := zchk_ex h
      have hk5 := hk
      obtain ⟨c6, h⟩ := zchk_ex h
      obtain ⟨M7, eM7, h⟩ := zlet_ex h
      refine j_last (n := (zlen S v0)) hC dX6_put__13 (w_id hv1) (wl_id hv2) hv2 hk5 rfl c6.1 c6.2 eM7 ?_
      have e1 := Option.some.inj h
      exact j_vret hC hE dX6_put__14 rfl e1 rfl trivial (Nat.le_of_ble_eq_true rfl) (Nat.le_of_ble_eq_true rfl)
set_option maxHeartbeats 4000000 in
set_option maxRecDepth 100000 in
theorem c_X7_compares (l : Launch) (hlt : l.stackTraces = false) (g : zG) (v0 : Int) (v1 : Int) (v2 : Int) (hv0 : inR v0) (hv1 : inR v1) (hv2 : inR v2) (M : zM) (S : zS) {r : Int} (h : F_X7_compares v0 v1 v2 = some r) : zMet l g yX7_compares cX7_compares 9 (some .boolean) 1 0 0 [.int (zi v0), .int (zi v1), .int (zi v2)] M S (.inl (some (.int (zi r)))) M S (inR r) := by
  refine zMet_of (by decide) hlt [(0, .int (zi v0)), (1, .int (zi v1)), (2, .int (zi v2))] rfl (Nat.le_of_ble_eq_true rfl) (fun K hC hE hN => ?_)
  unfold F_X7_compares at h
  have J_70 : ∀ (v4 : Int) (v5 : Int) (v6 : Int) (hv4 : inR v4) (hv5 : inR v5) (hv6 : inR v6) (_ : F_X7_compares_J70 v4 v5 v6 = some r), zJ K g 0 0 70 9 [(4, .int (zi v4)), (5, .int (zi v5)), (6, .int (zi v6))] [] M S := by
    intro v4 v5 v6 hv4 hv5 hv6 h
    unfold F_X7_compares_J70 at h
    refine j_iload hC 0 dX7_compares_70 rfl ?_
    refine j_if_ne hC dX7_compares_72 rfl (w_id hv4) (fun c1 => ?_) (fun c1 => ?_)
    · have h := zf c1 h
      refine j_iload hC 0 dX7_compares_88 rfl ?_
      refine j_iconst hC dX7_compares_90 ?_
      refine j_icmp_ne hC dX7_compares_91 rfl (w_id hv4) (w_id kR_1) (fun c2 => ?_) (fun c2 => ?_)
      · have h := zf c2 h
        refine j_iload hC 2 dX7_compares_109 rfl ?_
        refine j_iload hC 1 dX7_compares_111 rfl ?_
        refine j_icmp_le hC dX7_compares_113 rfl (w_id hv6) (w_id hv5) (fun c3 => ?_) (fun c3 => ?_)
        · have h := zf c3 h
          refine j_iconst hC dX7_compares_120 ?_
          have e1 := Option.some.inj h
          exact j_iret hC hE dX7_compares_121 (w_id kR_0) (zn_z zb01_0) (by rw [← e1]) rfl rfl (by rw [← e1]; exact kR_0) (Nat.le_of_ble_eq_true rfl) (Nat.le_of_ble_eq_true rfl)
        · have h := zt c3 h
          refine j_iconst hC dX7_compares_116 ?_
          refine j_goto hC dX7_compares_117 rfl ?_
          have e1 := Option.some.inj h
          exact j_iret hC hE dX7_compares_121 (w_id kR_1) (zn_z zb01_1) (by rw [← e1]) rfl rfl (by rw [← e1]; exact kR_1) (Nat.le_of_ble_eq_true rfl) (Nat.le_of_ble_eq_true rfl)
      · have h := zt c2 h
        refine j_iload hC 2 dX7_compares_94 rfl ?_
        refine j_iload hC 1 dX7_compares_96 rfl ?_
        refine j_icmp_ne hC dX7_compares_98 rfl (w_id hv6) (w_id hv5) (fun c4 => ?_) (fun c4 => ?_)
        · have h := zf c4 h
          refine j_iconst hC dX7_compares_105 ?_
          refine j_goto hC dX7_compares_106 rfl ?_
          have e1 := Option.some.inj h
          exact j_iret hC hE dX7_compares_121 (w_id kR_0) (zn_z zb01_0) (by rw [← e1]) rfl rfl (by rw [← e1]; exact kR_0) (Nat.le_of_ble_eq_true rfl) (Nat.le_of_ble_eq_true rfl)
        · have h := zt c4 h
          refine j_iconst hC dX7_compares_101 ?_
          refine j_goto hC dX7_compares_102 rfl ?_
          have e1 := Option.some.inj h
          exact j_iret hC hE dX7_compares_121 (w_id kR_1) (zn_z zb01_1) (by rw [← e1]) rfl rfl (by rw [← e1]; exact kR_1) (Nat.le_of_ble_eq_true rfl) (Nat.le_of_ble_eq_true rfl)
    · have h := zt c1 h
      refine j_iload hC 2 dX7_compares_75 rfl ?_
      refine j_iload hC 1 dX7_compares_77 rfl ?_
      refine j_icmp_ge hC dX7_compares_79 rfl (w_id hv6) (w_id hv5) (fun c5 => ?_) (fun c5 => ?_)
      · have h := zf c5 h
        refine j_iconst hC dX7_compares_86 ?_
        have e1 := Option.some.inj h
        exact j_iret hC hE dX7_compares_87 (w_id kR_0) (zn_z zb01_0) (by rw [← e1]) rfl rfl (by rw [← e1]; exact kR_0) (Nat.le_of_ble_eq_true rfl) (Nat.le_of_ble_eq_true rfl)
      · have h := zt c5 h
        refine j_iconst hC dX7_compares_82 ?_
        refine j_goto hC dX7_compares_83 rfl ?_
        have e1 := Option.some.inj h
        exact j_iret hC hE dX7_compares_87 (w_id kR_1) (zn_z zb01_1) (by rw [← e1]) rfl rfl (by rw [← e1]; exact kR_1) (Nat.le_of_ble_eq_true rfl) (Nat.le_of_ble_eq_true rfl)
  have L_37 : ∀ (v2 : Int) (v3 : Int) (v4 : Int) (v5 : Int) (v6 : Int) (v7 : Int) (v8 : Int) (hv2 : inR v2) (hv3 : inR v3) (hv4 : inR v4) (hv5 : inR v5) (hv6 : inR v6) (hv7 : inR v7) (hv8 : inR v8) (_ : F_X7_compares_L37 v2 v3 v4 v5 v6 v7 v8 = some r), zJ K g 0 0 37 9 [(2, .int (zi v2)), (3, .int (zi v3)), (4, .int (zi v4)), (5, .int (zi v5)), (6, .int (zi v6)), (7, .int (zi v7)), (8, .int (zi v8))] [] M S := by
    intro v2 v3 v4 v5 v6 v7 v8 hv2 hv3 hv4 hv5 hv6 hv7 hv8 h
    unfold F_X7_compares_L37 at h
    obtain ⟨ex37, hl, hd37⟩ := zb1_ex h
    obtain ⟨bd37, ebd⟩ : ∃ f, f = (fun (s : Int × Int × Int) => F_X7_compares_B37 v2 v3 v4 v5 s.1 s.2.1 s.2.2) := ⟨_, rfl⟩
    rw [← ebd] at hl
    have main : ∀ (n37 : Nat) (v6 : Int) (v7 : Int) (v8 : Int) (hv6 : inR v6) (hv7 : inR v7) (hv8 : inR v8) (_ : zloop bd37 n37 (v6, v7, v8) = some ex37), zJ K g 0 0 37 9 [(2, .int (zi v2)), (3, .int (zi v3)), (4, .int (zi v4)), (5, .int (zi v5)), (6, .int (zi v6)), (7, .int (zi v7)), (8, .int (zi v8))] [] M S := by
      intro n37
      induction n37 with
      | zero => intro v6 v7 v8 hv6 hv7 hv8 hl; exact zloop_0 hl
      | succ n37 ih37 =>
        have J_56 : ∀ (v6 : Int) (v7 : Int) (v8 : Int) (hv6 : inR v6) (hv7 : inR v7) (hv8 : inR v8) (o : _) (_ : F_X7_compares_J56 v2 v3 v4 v5 v6 v7 v8 = some o), zAft (bd37) n37 ex37 o → zJ K g 0 0 56 9 [(2, .int (zi v2)), (3, .int (zi v3)), (4, .int (zi v4)), (5, .int (zi v5)), (6, .int (zi v6)), (7, .int (zi v7)), (8, .int (zi v8))] [] M S := by
          intro v6 v7 v8 hv6 hv7 hv8 o h hT
          unfold F_X7_compares_J56 at h
          refine j_iload hC 5 dX7_compares_56 rfl ?_
          refine j_iconst hC dX7_compares_58 ?_
          refine j_isub hC dX7_compares_59 ?_
          refine j_iconst hC dX7_compares_60 ?_
          refine j_idiv hC dX7_compares_61 (w_id kR_3) (by decide) ?_
          obtain ⟨x6, ex6, h⟩ := zlet_ex h
          have hx6 : inR x6 := by rw [ex6]; exact (cR_zdiv _ _)
          refine j_names ex6 ?_
          refine j_istore hC dX7_compares_62 (Nat.le_of_ble_eq_true rfl) rfl ?_
          obtain ⟨x7, ex7, h⟩ := zlet_ex h
          have hx7 : inR x7 := by rw [ex7]; exact inR_w _
          refine j_iinc hC 6 dX7_compares_64 rfl ex7 (Nat.le_of_ble_eq_true rfl) rfl ?_
          refine j_goto hC dX7_compares_67 rfl ?_
          obtain rfl := Option.some.inj h
          refine j_sub [2, 3, 4, 5, 6, 1, 0] rfl ?_
          exact ih37 v6 x6 x7 hv6 hx6 hx7 hT
        intro v6 v7 v8 hv6 hv7 hv8 hl
        obtain ⟨o, h, hT⟩ := zloop_ex hl
        have h : F_X7_compares_B37 v2 v3 v4 v5 v6 v7 v8 = some o := by rw [ebd] at h; exact h
        unfold F_X7_compares_B37 at h
        refine j_iload hC 6 dX7_compares_37 rfl ?_
        refine j_iload_n hC 0 dX7_compares_39 rfl rfl ?_
        refine j_icmp_ge hC dX7_compares_40 rfl (w_id hv8) (w_id hv2) (fun c8 => ?_) (fun c8 => ?_)
        · have h := zf c8 h
          obtain rfl := Option.some.inj h
          have hx37 := hd37
          rw [← show _ = ex37 from hT] at hx37
          refine j_sub [2, 3, 4] rfl ?_
          exact J_70 v4 v5 v6 hv4 hv5 hv6 hx37
        · have h := zt c8 h
          refine j_iload hC 5 dX7_compares_43 rfl ?_
          refine j_iconst hC dX7_compares_45 ?_
          refine j_isub hC dX7_compares_46 ?_
          refine j_iconst hC dX7_compares_47 ?_
          refine j_irem hC dX7_compares_48 (w_id kR_3) (by decide) ?_
          refine j_iload_n hC 1 dX7_compares_49 rfl rfl ?_
          refine j_icmp_ne hC dX7_compares_50 rfl (w_id (cR_zrem _ _)) (w_id hv3) (fun c9 => ?_) (fun c9 => ?_)
          · have h := zf c9 h
            exact J_56 v6 v7 v8 hv6 hv7 hv8 _ h hT
          · have h := zt c9 h
            obtain ⟨x10, ex10, h⟩ := zlet_ex h
            have hx10 : inR x10 := by rw [ex10]; exact inR_w _
            refine j_iinc hC 4 dX7_compares_53 rfl ex10 (Nat.le_of_ble_eq_true rfl) rfl ?_
            refine j_sub [1, 2, 3, 4, 0, 5, 6] rfl ?_
            exact J_56 x10 v7 v8 hx10 hv7 hv8 _ h hT
    exact main zN v6 v7 v8 hv6 hv7 hv8 hl
  have J_29 : ∀ (v1 : Int) (v2 : Int) (v3 : Int) (v4 : Int) (v5 : Int) (t0 : Int) (hv1 : inR v1) (hv2 : inR v2) (hv3 : inR v3) (hv4 : inR v4) (hv5 : inR v5) (ht0 : inR t0) (_ : F_X7_compares_J29 v1 v2 v3 v4 v5 t0 = some r), zJ K g 0 0 29 9 [(1, .int (zi v1)), (2, .int (zi v2)), (3, .int (zi v3)), (4, .int (zi v4)), (5, .int (zi v5))] [.int (zi t0)] M S := by
    intro v1 v2 v3 v4 v5 t0 hv1 hv2 hv3 hv4 hv5 ht0 h
    unfold F_X7_compares_J29 at h
    refine j_istore hC dX7_compares_29 (Nat.le_of_ble_eq_true rfl) rfl ?_
    refine j_iload_n hC 1 dX7_compares_31 rfl rfl ?_
    refine j_istore hC dX7_compares_32 (Nat.le_of_ble_eq_true rfl) rfl ?_
    refine j_iconst hC dX7_compares_34 ?_
    refine j_istore hC dX7_compares_35 (Nat.le_of_ble_eq_true rfl) rfl ?_
    refine j_sub [4, 5, 6, 7, 2, 1, 0] rfl ?_
    exact L_37 v2 v3 v4 v5 t0 v1 0 hv2 hv3 hv4 hv5 ht0 hv1 kR_0 h
  refine j_iload_n hC 0 dX7_compares_0 rfl rfl ?_
  refine j_bipush hC dX7_compares_1 rfl ?_
  refine j_idiv hC dX7_compares_3 (w_id kR_30) (by decide) ?_
  obtain ⟨x11, ex11, h⟩ := zlet_ex h
  have hx11 : inR x11 := by rw [ex11]; exact (cR_zdiv _ _)
  refine j_names ex11 ?_
  refine j_istore_n hC dX7_compares_4 rfl (Nat.le_of_ble_eq_true rfl) rfl ?_
  refine j_iload_n hC 1 dX7_compares_5 rfl rfl ?_
  refine j_bipush hC dX7_compares_6 rfl ?_
  refine j_idiv hC dX7_compares_8 (w_id kR_10) (by decide) ?_
  refine j_iconst hC dX7_compares_9 ?_
  refine j_irem hC dX7_compares_10 (w_id kR_3) (by decide) ?_
  obtain ⟨x12, ex12, h⟩ := zlet_ex h
  have hx12 : inR x12 := by rw [ex12]; exact (cR_zrem _ _)
  refine j_names ex12 ?_
  refine j_istore hC dX7_compares_11 (Nat.le_of_ble_eq_true rfl) rfl ?_
  refine j_iload_n hC 2 dX7_compares_13 rfl rfl ?_
  refine j_bipush hC dX7_compares_14 rfl ?_
  refine j_irem hC dX7_compares_16 (w_id kR_10) (by decide) ?_
  obtain ⟨x13, ex13, h⟩ := zlet_ex h
  have hx13 : inR x13 := by rw [ex13]; exact (cR_zrem _ _)
  refine j_names ex13 ?_
  refine j_istore hC dX7_compares_17 (Nat.le_of_ble_eq_true rfl) rfl ?_
  refine j_iload_n hC 2 dX7_compares_19 rfl rfl ?_
  refine j_iconst hC dX7_compares_20 ?_
  refine j_icmp_ne hC dX7_compares_21 rfl (w_id hx11) (w_id kR_3) (fun c14 => ?_) (fun c14 => ?_)
  · have h := zf c14 h
    refine j_iconst hC dX7_compares_28 ?_
    refine j_sub [4, 5, 2, 1, 0] rfl ?_
    exact J_29 v1 v2 x11 x12 x13 0 hv1 hv2 hx11 hx12 hx13 kR_0 h
  · have h := zt c14 h
    refine j_iload_n hC 5 dX7_compares_24 rfl rfl ?_
    refine j_goto hC dX7_compares_25 rfl ?_
    refine j_sub [4, 5, 2, 1, 0] rfl ?_
    exact J_29 v1 v2 x11 x12 x13 v2 hv1 hv2 hx11 hx12 hx13 hv2 h
set_option maxHeartbeats 4000000 in
set_option maxRecDepth 100000 in
theorem c_X7_matches (l : Launch) (hlt : l.stackTraces = false) (g : zG) (v0 : Int) (v1 : Int) (v2 : Int) (v3 : Int) (hv0 : inR v0) (hv1 : inR v1) (hv2 : inR v2) (hv3 : inR v3) (M : zM) (S : zS) {r : Int} (h : F_X7_matches v0 v1 v2 v3 = some r) : zMet l g yX7_matches cX7_matches 10 (some .boolean) 3 0 0 [.int (zi v0), .int (zi v1), .int (zi v2), .int (zi v3)] M S (.inl (some (.int (zi r)))) M S (inR r) := by
  refine zMet_of (by decide) hlt [(0, .int (zi v0)), (1, .int (zi v1)), (2, .int (zi v2)), (3, .int (zi v3))] rfl (Nat.le_of_ble_eq_true rfl) (fun K hC hE hN => ?_)
  unfold F_X7_matches at h
  have J_140 : ∀ (_ : F_X7_matches_J140 = some r), zJ K g 0 0 140 10 [] [] M S := by
    intro h
    unfold F_X7_matches_J140 at h
    refine j_iconst hC dX7_matches_140 ?_
    have e1 := Option.some.inj h
    exact j_iret hC hE dX7_matches_141 (w_id kR_0) (zn_z zb01_0) (by rw [← e1]) rfl rfl (by rw [← e1]; exact kR_0) (Nat.le_of_ble_eq_true rfl) (Nat.le_of_ble_eq_true rfl)
  have J_124 : ∀ (_ : F_X7_matches_J124 = some r), zJ K g 0 0 124 10 [] [] M S := by
    intro h
    unfold F_X7_matches_J124 at h
    refine j_iconst hC dX7_matches_124 ?_
    have e1 := Option.some.inj h
    exact j_iret hC hE dX7_matches_125 (w_id kR_1) (zn_z zb01_1) (by rw [← e1]) rfl rfl (by rw [← e1]; exact kR_1) (Nat.le_of_ble_eq_true rfl) (Nat.le_of_ble_eq_true rfl)
  have L_91 : ∀ (v1 : Int) (v5 : Int) (v6 : Int) (v7 : Int) (v8 : Int) (v9 : Int) (hv1 : inR v1) (hv5 : inR v5) (hv6 : inR v6) (hv7 : inR v7) (hv8 : inR v8) (hv9 : inR v9) (_ : F_X7_matches_L91 v1 v5 v6 v7 v8 v9 = some r), zJ K g 0 0 91 10 [(1, .int (zi v1)), (5, .int (zi v5)), (6, .int (zi v6)), (7, .int (zi v7)), (8, .int (zi v8)), (9, .int (zi v9))] [] M S := by
    intro v1 v5 v6 v7 v8 v9 hv1 hv5 hv6 hv7 hv8 hv9 h
    unfold F_X7_matches_L91 at h
    obtain ⟨ex91, hl, hd91⟩ := zb1_ex h
    obtain ⟨bd91, ebd⟩ : ∃ f, f = (fun (s : Int × Int) => F_X7_matches_B91 v1 v5 v6 v7 s.1 s.2) := ⟨_, rfl⟩
    rw [← ebd] at hl
    have main : ∀ (n91 : Nat) (v8 : Int) (v9 : Int) (hv8 : inR v8) (hv9 : inR v9) (_ : zloop bd91 n91 (v8, v9) = some ex91), zJ K g 0 0 91 10 [(1, .int (zi v1)), (5, .int (zi v5)), (6, .int (zi v6)), (7, .int (zi v7)), (8, .int (zi v8)), (9, .int (zi v9))] [] M S := by
      intro n91
      induction n91 with
      | zero => intro v8 v9 hv8 hv9 hl; exact zloop_0 hl
      | succ n91 ih91 =>
        have J_126 : ∀ (v8 : Int) (v9 : Int) (hv8 : inR v8) (hv9 : inR v9) (o : _) (_ : F_X7_matches_J126 v1 v5 v6 v7 v8 v9 = some o), zAft (bd91) n91 ex91 o → zJ K g 0 0 126 10 [(1, .int (zi v1)), (5, .int (zi v5)), (6, .int (zi v6)), (7, .int (zi v7)), (8, .int (zi v8)), (9, .int (zi v9))] [] M S := by
          intro v8 v9 hv8 hv9 o h hT
          unfold F_X7_matches_J126 at h
          refine j_iload hC 4 dX7_matches_126 rfl ?_
          refine j_iconst hC dX7_matches_128 ?_
          refine j_isub hC dX7_matches_129 ?_
          refine j_iconst hC dX7_matches_130 ?_
          refine j_idiv hC dX7_matches_131 (w_id kR_3) (by decide) ?_
          obtain ⟨x1, ex1, h⟩ := zlet_ex h
          have hx1 : inR x1 := by rw [ex1]; exact (cR_zdiv _ _)
          refine j_names ex1 ?_
          refine j_istore hC dX7_matches_132 (Nat.le_of_ble_eq_true rfl) rfl ?_
          obtain ⟨x2, ex2, h⟩ := zlet_ex h
          have hx2 : inR x2 := by rw [ex2]; exact inR_w _
          refine j_iinc hC 5 dX7_matches_134 rfl ex2 (Nat.le_of_ble_eq_true rfl) rfl ?_
          refine j_goto hC dX7_matches_137 rfl ?_
          obtain rfl := Option.some.inj h
          refine j_sub [2, 3, 4, 5, 1, 0] rfl ?_
          exact ih91 x1 x2 hx1 hx2 hT
        intro v8 v9 hv8 hv9 hl
        obtain ⟨o, h, hT⟩ := zloop_ex hl
        have h : F_X7_matches_B91 v1 v5 v6 v7 v8 v9 = some o := by rw [ebd] at h; exact h
        unfold F_X7_matches_B91 at h
        refine j_iload hC 5 dX7_matches_91 rfl ?_
        refine j_iload hC 3 dX7_matches_93 rfl ?_
        refine j_icmp_gt hC dX7_matches_95 rfl (w_id hv9) (w_id hv7) (fun c3 => ?_) (fun c3 => ?_)
        · have h := zt c3 h
          obtain rfl := Option.some.inj h
          have hx91 := hd91
          rw [← show _ = ex91 from hT] at hx91
          dsimp only [Sum.elim] at hx91
          refine j_sub [] rfl ?_
          exact J_140 hx91
        · have h := zf c3 h
          refine j_iload hC 5 dX7_matches_98 rfl ?_
          refine j_iload hC 2 dX7_matches_100 rfl ?_
          refine j_icmp_lt hC dX7_matches_102 rfl (w_id hv9) (w_id hv6) (fun c4 => ?_) (fun c4 => ?_)
          · have h := zt c4 h
            exact J_126 v8 v9 hv8 hv9 _ h hT
          · have h := zf c4 h
            refine j_iload hC 4 dX7_matches_105 rfl ?_
            refine j_iload hC 1 dX7_matches_107 rfl ?_
            refine j_iconst hC dX7_matches_109 ?_
            refine j_idiv hC dX7_matches_110 (w_id kR_2) (by decide) ?_
            refine j_isub hC dX7_matches_111 ?_
            refine j_iload hC 1 dX7_matches_112 rfl ?_
            obtain ⟨c5, h⟩ := zchk_ex h
            refine j_irem hC dX7_matches_114 (w_id hv5) c5 ?_
            refine j_iload hC 1 dX7_matches_115 rfl ?_
            refine j_iconst hC dX7_matches_117 ?_
            refine j_idiv hC dX7_matches_118 (w_id kR_2) (by decide) ?_
            refine j_iadd hC dX7_matches_119 ?_
            refine j_iload_n hC 0 dX7_matches_120 rfl rfl ?_
            refine j_icmp_ne hC dX7_matches_121 rfl rfl (w_id hv1) (fun c6 => ?_) (fun c6 => ?_)
            · have h := zf c6 h
              exact J_126 v8 v9 hv8 hv9 _ h hT
            · have h := zt c6 h
              obtain rfl := Option.some.inj h
              have hx91 := hd91
              rw [← show _ = ex91 from hT] at hx91
              dsimp only [Sum.elim] at hx91
              refine j_sub [] rfl ?_
              exact J_124 hx91
    exact main zN v8 v9 hv8 hv9 hl
  have J_83 : ∀ (v1 : Int) (v2 : Int) (v5 : Int) (v6 : Int) (t0 : Int) (hv1 : inR v1) (hv2 : inR v2) (hv5 : inR v5) (hv6 : inR v6) (ht0 : inR t0) (_ : F_X7_matches_J83 v1 v2 v5 v6 t0 = some r), zJ K g 0 0 83 10 [(1, .int (zi v1)), (2, .int (zi v2)), (5, .int (zi v5)), (6, .int (zi v6))] [.int (zi t0)] M S := by
    intro v1 v2 v5 v6 t0 hv1 hv2 hv5 hv6 ht0 h
    unfold F_X7_matches_J83 at h
    refine j_istore hC dX7_matches_83 (Nat.le_of_ble_eq_true rfl) rfl ?_
    refine j_iload_n hC 2 dX7_matches_85 rfl rfl ?_
    refine j_istore hC dX7_matches_86 (Nat.le_of_ble_eq_true rfl) rfl ?_
    refine j_iconst hC dX7_matches_88 ?_
    refine j_istore hC dX7_matches_89 (Nat.le_of_ble_eq_true rfl) rfl ?_
    refine j_sub [3, 5, 6, 2, 1, 0] rfl ?_
    exact L_91 v1 v5 v6 t0 v2 0 hv1 hv5 hv6 ht0 hv2 kR_0 h
  have J_60 : ∀ (v0 : Int) (v1 : Int) (v2 : Int) (v3 : Int) (v4 : Int) (v5 : Int) (t0 : Int) (hv0 : inR v0) (hv1 : inR v1) (hv2 : inR v2) (hv3 : inR v3) (hv4 : inR v4) (hv5 : inR v5) (ht0 : inR t0) (_ : F_X7_matches_J60 v0 v1 v2 v3 v4 v5 t0 = some r), zJ K g 0 0 60 10 [(0, .int (zi v0)), (1, .int (zi v1)), (2, .int (zi v2)), (3, .int (zi v3)), (4, .int (zi v4)), (5, .int (zi v5))] [.int (zi t0)] M S := by
    intro v0 v1 v2 v3 v4 v5 t0 hv0 hv1 hv2 hv3 hv4 hv5 ht0 h
    unfold F_X7_matches_J60 at h
    refine j_istore hC dX7_matches_60 (Nat.le_of_ble_eq_true rfl) rfl ?_
    refine j_iload_n hC 1 dX7_matches_62 rfl rfl ?_
    refine j_bipush hC dX7_matches_63 rfl ?_
    refine j_icmp_ne hC dX7_matches_65 rfl (w_id hv0) (w_id kR_6) (fun c7 => ?_) (fun c7 => ?_)
    · have h := zf c7 h
      refine j_iload_n hC 4 dX7_matches_79 rfl rfl ?_
      refine j_iload hC 5 dX7_matches_80 rfl ?_
      refine j_isub hC dX7_matches_82 ?_
      refine j_sub [2, 3, 6, 0] rfl ?_
      refine j_stk (st2 := [.int (zi (w (v3 - v4)))]) (by simp only [zi_w, zl_wl]) ?_
      exact J_83 v1 v2 v5 t0 (w (v3 - v4)) hv1 hv2 hv5 ht0 (inR_w _) h
    · have h := zt c7 h
      refine j_iconst hC dX7_matches_68 ?_
      refine j_iload_n hC 4 dX7_matches_69 rfl rfl ?_
      refine j_iload hC 5 dX7_matches_70 rfl ?_
      refine j_isub hC dX7_matches_72 ?_
      refine j_mmin hC hE lk_X7_50 dX7_matches_73 (w_id kR_0) rfl (Nat.le_of_ble_eq_true rfl) (Nat.le_of_ble_eq_true rfl) (Nat.le_of_ble_eq_true rfl) (Nat.le_of_ble_eq_true rfl) ?_
      refine j_goto hC dX7_matches_76 rfl ?_
      refine j_sub [2, 3, 6, 0] rfl ?_
      exact J_83 v1 v2 v5 t0 (zmin 0 (w (v3 - v4))) hv1 hv2 hv5 ht0 (cR_zmin kR_0 (inR_w _)) h
  have J_45 : ∀ (v0 : Int) (v1 : Int) (v2 : Int) (v3 : Int) (v4 : Int) (t0 : Int) (hv0 : inR v0) (hv1 : inR v1) (hv2 : inR v2) (hv3 : inR v3) (hv4 : inR v4) (ht0 : inR t0) (_ : F_X7_matches_J45 v0 v1 v2 v3 v4 t0 = some r), zJ K g 0 0 45 10 [(0, .int (zi v0)), (1, .int (zi v1)), (2, .int (zi v2)), (3, .int (zi v3)), (4, .int (zi v4))] [.int (zi t0)] M S := by
    intro v0 v1 v2 v3 v4 t0 hv0 hv1 hv2 hv3 hv4 ht0 h
    unfold F_X7_matches_J45 at h
    refine j_istore hC dX7_matches_45 (Nat.le_of_ble_eq_true rfl) rfl ?_
    refine j_iload_n hC 1 dX7_matches_47 rfl rfl ?_
    refine j_iconst hC dX7_matches_48 ?_
    refine j_icmp_ne hC dX7_matches_49 rfl (w_id hv0) (w_id kR_5) (fun c8 => ?_) (fun c8 => ?_)
    · have h := zf c8 h
      refine j_iconst hC dX7_matches_59 ?_
      refine j_sub [1, 2, 3, 4, 5, 0] rfl ?_
      exact J_60 v0 v1 v2 v3 v4 t0 0 hv0 hv1 hv2 hv3 hv4 ht0 kR_0 h
    · have h := zt c8 h
      refine j_iload_n hC 4 dX7_matches_52 rfl rfl ?_
      refine j_iload hC 5 dX7_matches_53 rfl ?_
      refine j_isub hC dX7_matches_55 ?_
      refine j_goto hC dX7_matches_56 rfl ?_
      refine j_sub [1, 2, 3, 4, 5, 0] rfl ?_
      refine j_stk (st2 := [.int (zi (w (v3 - v4)))]) (by simp only [zi_w, zl_wl]) ?_
      exact J_60 v0 v1 v2 v3 v4 t0 (w (v3 - v4)) hv0 hv1 hv2 hv3 hv4 ht0 (inR_w _) h
  have J_20 : ∀ (v0 : Int) (v1 : Int) (v2 : Int) (v3 : Int) (t0 : Int) (hv0 : inR v0) (hv1 : inR v1) (hv2 : inR v2) (hv3 : inR v3) (ht0 : inR t0) (_ : F_X7_matches_J20 v0 v1 v2 v3 t0 = some r), zJ K g 0 0 20 10 [(0, .int (zi v0)), (1, .int (zi v1)), (2, .int (zi v2)), (3, .int (zi v3))] [.int (zi t0)] M S := by
    intro v0 v1 v2 v3 t0 hv0 hv1 hv2 hv3 ht0 h
    unfold F_X7_matches_J20 at h
    refine j_istore hC dX7_matches_20 (Nat.le_of_ble_eq_true rfl) rfl ?_
    refine j_iload hC 0 dX7_matches_22 rfl ?_
    refine j_iconst hC dX7_matches_24 ?_
    refine j_icmp_ne hC dX7_matches_25 rfl (w_id ht0) (w_id kR_1) (fun c9 => ?_) (fun c9 => ?_)
    · have h := zf c9 h
      refine j_iload hC 0 dX7_matches_32 rfl ?_
      refine j_iconst hC dX7_matches_34 ?_
      refine j_icmp_ne hC dX7_matches_35 rfl (w_id ht0) (w_id kR_2) (fun c10 => ?_) (fun c10 => ?_)
      · have h := zf c10 h
        refine j_bipush hC dX7_matches_43 rfl ?_
        refine j_sub [1, 2, 3, 4, 0] rfl ?_
        exact J_45 v0 v1 v2 v3 t0 27 hv0 hv1 hv2 hv3 ht0 kR_27 h
      · have h := zt c10 h
        refine j_bipush hC dX7_matches_38 rfl ?_
        refine j_goto hC dX7_matches_40 rfl ?_
        refine j_sub [1, 2, 3, 4, 0] rfl ?_
        exact J_45 v0 v1 v2 v3 t0 9 hv0 hv1 hv2 hv3 ht0 kR_9 h
    · have h := zt c9 h
      refine j_iconst hC dX7_matches_28 ?_
      refine j_goto hC dX7_matches_29 rfl ?_
      refine j_sub [1, 2, 3, 4, 0] rfl ?_
      exact J_45 v0 v1 v2 v3 t0 3 hv0 hv1 hv2 hv3 ht0 kR_3 h
  refine j_iload_n hC 1 dX7_matches_0 rfl rfl ?_
  refine j_iconst hC dX7_matches_1 ?_
  refine j_icmp_ge hC dX7_matches_2 rfl (w_id hv1) (w_id kR_4) (fun c11 => ?_) (fun c11 => ?_)
  · have h := zf c11 h
    refine j_iload_n hC 1 dX7_matches_9 rfl rfl ?_
    refine j_bipush hC dX7_matches_10 rfl ?_
    refine j_icmp_ge hC dX7_matches_12 rfl (w_id hv1) (w_id kR_13) (fun c12 => ?_) (fun c12 => ?_)
    · have h := zf c12 h
      refine j_iconst hC dX7_matches_19 ?_
      exact J_20 v0 v1 v2 v3 3 hv0 hv1 hv2 hv3 kR_3 h
    · have h := zt c12 h
      refine j_iconst hC dX7_matches_15 ?_
      refine j_goto hC dX7_matches_16 rfl ?_
      exact J_20 v0 v1 v2 v3 2 hv0 hv1 hv2 hv3 kR_2 h
  · have h := zt c11 h
    refine j_iconst hC dX7_matches_5 ?_
    refine j_goto hC dX7_matches_6 rfl ?_
    exact J_20 v0 v1 v2 v3 1 hv0 hv1 hv2 hv3 kR_1 h
set_option maxHeartbeats 4000000 in
set_option maxRecDepth 100000 in
theorem c_X7_evaluate (l : Launch) (hlt : l.stackTraces = false) (g : zG) (v0 : Nat) (v1 : Int) (hv1 : inR v1) (M : zM) (S : zS) (hF : zFx S) {r : Int} (h : F_X7_evaluate v0 v1 M S = some r) : zMet l g yX7_evaluate cX7_evaluate 8 (some .boolean) 4 0 0 [zr g v0, .int (zi v1)] M S (.inl (some (.int (zi r)))) M S (inR r) := by
  refine zMet_of (by decide) hlt [(0, zr g v0), (1, .int (zi v1))] (by simp only [lv_args, zr_cat, zc_i, zc_l, zc_d, zc_r] <;> rfl) (by rw [zsl_len]; simp only [List.map_cons, List.map_nil, zr_cat, zc_i, zc_l, zc_d, zc_r, List.sum_cons, List.sum_nil] <;> decide) (fun K hC hE hN => ?_)
  unfold F_X7_evaluate at h
  have J_173 : ∀ (v3 : Int) (hv3 : inL v3) (_ : F_X7_evaluate_J173 v3 M S = some r), zJ K g 0 0 173 8 [(3, .long (zl v3))] [] M S := by
    intro v3 hv3 h
    unfold F_X7_evaluate_J173 at h
    refine j_lload_n hC 0 dX7_evaluate_173 rfl rfl ?_
    refine j_lconst (z := 1) hC dX7_evaluate_174 rfl ?_
    refine j_land hC dX7_evaluate_175 ?_
    refine j_lconst (z := 0) hC dX7_evaluate_176 rfl ?_
    refine j_lcmp hC dX7_evaluate_177 (cL_zland _ _) (inLc rfl) ?_
    refine j_if_eq hC dX7_evaluate_178 rfl (w_id (inR_cmp _ _)) (fun c1 => ?_) (fun c1 => ?_)
    · have h := zt c1 h
      refine j_iconst hC dX7_evaluate_185 ?_
      have e1 := Option.some.inj h
      exact j_iret hC hE dX7_evaluate_186 (w_id kR_0) (zn_z zb01_0) (by rw [← e1]) rfl rfl (by rw [← e1]; exact kR_0) (Nat.le_of_ble_eq_true rfl) (Nat.le_of_ble_eq_true rfl)
    · have h := zf c1 h
      refine j_iconst hC dX7_evaluate_181 ?_
      refine j_goto hC dX7_evaluate_182 rfl ?_
      have e1 := Option.some.inj h
      exact j_iret hC hE dX7_evaluate_186 (w_id kR_1) (zn_z zb01_1) (by rw [← e1]) rfl rfl (by rw [← e1]; exact kR_1) (Nat.le_of_ble_eq_true rfl) (Nat.le_of_ble_eq_true rfl)
  have L_10 : ∀ (v0 : Nat) (v1 : Int) (v2 : Int) (v3 : Int) (v5 : Int) (hv1 : inR v1) (hv2 : inR v2) (hv3 : inL v3) (hv5 : inR v5) (_ : F_X7_evaluate_L10 v0 v1 v2 v3 v5 M S = some r), zJ K g 0 0 10 8 [(0, zr g v0), (1, .int (zi v1)), (2, .int (zi v2)), (3, .long (zl v3)), (5, .int (zi v5))] [] M S := by
    intro v0 v1 v2 v3 v5 hv1 hv2 hv3 hv5 h
    unfold F_X7_evaluate_L10 at h
    obtain ⟨ex10, hl, hd10⟩ := zb1_ex h
    obtain ⟨bd10, ebd⟩ : ∃ f, f = (fun (s : Int × Int) => F_X7_evaluate_B10 v0 v1 v2 s.1 s.2 M S) := ⟨_, rfl⟩
    rw [← ebd] at hl
    have main : ∀ (n10 : Nat) (v3 : Int) (v5 : Int) (hv3 : inL v3) (hv5 : inR v5) (_ : zloop bd10 n10 (v3, v5) = some ex10), zJ K g 0 0 10 8 [(0, zr g v0), (1, .int (zi v1)), (2, .int (zi v2)), (3, .long (zl v3)), (5, .int (zi v5))] [] M S := by
      intro n10
      induction n10 with
      | zero => intro v3 v5 hv3 hv5 hl; exact zloop_0 hl
      | succ n10 ih10 =>
        have J_167 : ∀ (v3 : Int) (v5 : Int) (hv3 : inL v3) (hv5 : inR v5) (o : _) (_ : F_X7_evaluate_J167 v0 v1 v2 v3 v5 M S = some o), zAft (bd10) n10 ex10 o → zJ K g 0 0 167 8 [(0, zr g v0), (1, .int (zi v1)), (2, .int (zi v2)), (3, .long (zl v3)), (5, .int (zi v5))] [] M S := by
          intro v3 v5 hv3 hv5 o h hT
          unfold F_X7_evaluate_J167 at h
          obtain ⟨x2, ex2, h⟩ := zlet_ex h
          have hx2 : inR x2 := by rw [ex2]; exact inR_w _
          refine j_iinc hC 4 dX7_evaluate_167 rfl ex2 (Nat.le_of_ble_eq_true rfl) rfl ?_
          refine j_goto hC dX7_evaluate_170 rfl ?_
          obtain rfl := Option.some.inj h
          refine j_sub [1, 2, 3, 4, 0] rfl ?_
          exact ih10 v3 x2 hv3 hx2 hT
        have J_164 : ∀ (v5 : Int) (t0 : Int) (t1 : Int) (hv5 : inR v5) (ht0 : inL t0) (ht1 : inR t1) (o : _) (_ : F_X7_evaluate_J164 v0 v1 v2 v5 t0 t1 M S = some o), zAft (bd10) n10 ex10 o → zJ K g 0 0 164 8 [(0, zr g v0), (1, .int (zi v1)), (2, .int (zi v2)), (5, .int (zi v5))] [.int (zi t1), .long (zl t0)] M S := by
          intro v5 t0 t1 hv5 ht0 ht1 o h hT
          unfold F_X7_evaluate_J164 at h
          refine j_i2l hC dX7_evaluate_164 (w_id ht1) ?_
          refine j_lor hC dX7_evaluate_165 ?_
          obtain ⟨x3, ex3, h⟩ := zlet_ex h
          have hx3 : inL x3 := by rw [ex3]; exact (cL_zlor _ _)
          refine j_namesl ex3 ?_
          refine j_lstore_n hC dX7_evaluate_166 rfl (Nat.le_of_ble_eq_true rfl) rfl ?_
          refine j_sub [1, 2, 3, 0, 4] rfl ?_
          exact J_167 x3 v5 hx3 hv5 _ h hT
        have J_138 : ∀ (v5 : Int) (t0 : Int) (t1 : Int) (hv5 : inR v5) (ht0 : inL t0) (ht1 : inR t1) (o : _) (_ : F_X7_evaluate_J138 v0 v1 v2 v5 t0 t1 M S = some o), zAft (bd10) n10 ex10 o → zJ K g 0 0 138 8 [(0, zr g v0), (1, .int (zi v1)), (2, .int (zi v2)), (5, .int (zi v5))] [.int (zi t1), .long (zl t0)] M S := by
          intro v5 t0 t1 hv5 ht0 ht1 o h hT
          unfold F_X7_evaluate_J138 at h
          refine j_i2l hC dX7_evaluate_138 (w_id ht1) ?_
          refine j_lor hC dX7_evaluate_139 ?_
          obtain ⟨x4, ex4, h⟩ := zlet_ex h
          have hx4 : inL x4 := by rw [ex4]; exact (cL_zlor _ _)
          refine j_namesl ex4 ?_
          refine j_lstore_n hC dX7_evaluate_140 rfl (Nat.le_of_ble_eq_true rfl) rfl ?_
          refine j_goto hC dX7_evaluate_141 rfl ?_
          refine j_sub [1, 2, 3, 0, 4] rfl ?_
          exact J_167 x4 v5 hx4 hv5 _ h hT
        intro v3 v5 hv3 hv5 hl
        obtain ⟨o, h, hT⟩ := zloop_ex hl
        have h : F_X7_evaluate_B10 v0 v1 v2 v3 v5 M S = some o := by rw [ebd] at h; exact h
        unfold F_X7_evaluate_B10 at h
        refine j_iload hC 4 dX7_evaluate_10 rfl ?_
        refine j_aload_n hC 0 dX7_evaluate_12 rfl rfl ?_
        obtain ⟨hk, h⟩ := zchk_ex h
        have hk5 := hk
        refine j_getq hC dX7_evaluate_13 f_X7_18 hk5 rfl 0 rfl rfl ?_
        obtain ⟨hk, h⟩ := zchk_ex h
        have hk6 := hk
        refine j_alen (k := 20) (n := (zlen S (zrf S v0 0))) hC dX7_evaluate_16 hk6 (Nat.le_of_ble_eq_true rfl) (Nat.le_of_ble_eq_true rfl) rfl (fun hl7 => ?_)
        refine j_icmp_ge hC dX7_evaluate_17 rfl (w_id hv5) (w_id hl7) (fun c8 => ?_) (fun c8 => ?_)
        · have h := zf c8 h
          obtain rfl := Option.some.inj h
          have hx10 := hd10
          rw [← show _ = ex10 from hT] at hx10
          refine j_sub [3] rfl ?_
          exact J_173 v3 hv3 hx10
        · have h := zt c8 h
          refine j_aload_n hC 0 dX7_evaluate_20 rfl rfl ?_
          obtain ⟨hk, h⟩ := zchk_ex h
          have hk9 := hk
          refine j_getq hC dX7_evaluate_21 f_X7_18 hk9 rfl 0 rfl rfl ?_
          refine j_iload hC 4 dX7_evaluate_24 rfl ?_
          obtain ⟨hk, h⟩ := zchk_ex h
          have hk10 := hk
          obtain ⟨c11, h⟩ := zchk_ex h
          refine j_iald (n := (zlen S (zrf S v0 0))) hC dX7_evaluate_26 (w_id hv5) hk10 rfl c11.1 c11.2 (fun hg12 => ?_)
          refine j_bipush hC dX7_evaluate_27 rfl ?_
          refine j_iand hC dX7_evaluate_29 ?_
          obtain ⟨x13, ex13, h⟩ := zlet_ex h
          have hx13 : inR x13 := by rw [ex13]; exact (cR_zand _ _)
          refine j_names ex13 ?_
          refine j_istore hC dX7_evaluate_30 (Nat.le_of_ble_eq_true rfl) rfl ?_
          refine j_aload_n hC 1 dX7_evaluate_32 rfl rfl ?_
          obtain ⟨hk, h⟩ := zchk_ex h
          have hk14 := hk
          refine j_getq hC dX7_evaluate_33 f_X7_18 hk14 rfl 0 rfl rfl ?_
          refine j_iload hC 5 dX7_evaluate_36 rfl ?_
          obtain ⟨hk, h⟩ := zchk_ex h
          have hk15 := hk
          obtain ⟨c16, h⟩ := zchk_ex h
          refine j_iald (n := (zlen S (zrf S v0 0))) hC dX7_evaluate_38 (w_id hv5) hk15 rfl c16.1 c16.2 (fun hg17 => ?_)
          refine j_iconst hC dX7_evaluate_39 ?_
          refine j_ishr hC dX7_evaluate_40 ?_
          obtain ⟨x18, ex18, h⟩ := zlet_ex h
          have hx18 : inR x18 := by rw [ex18]; exact (cR_zshr _ _)
          refine j_names ex18 ?_
          refine j_istore hC dX7_evaluate_41 (Nat.le_of_ble_eq_true rfl) rfl ?_
          refine j_iload hC 1 dX7_evaluate_43 rfl ?_
          by_cases c19 : x13 = 0
          · have h := zt c19 h
            refine j_tswIn hC 0 dX7_evaluate_45 (w_id hx13) c19 (by decide) (by decide) rfl rfl ?_
            refine j_lload_n hC 5 dX7_evaluate_80 rfl rfl ?_
            refine j_iconst hC dX7_evaluate_81 ?_
            refine j_lshl hC dX7_evaluate_82 ?_
            refine j_lconst (z := 1) hC dX7_evaluate_83 rfl ?_
            refine j_lor hC dX7_evaluate_84 ?_
            obtain ⟨x20, ex20, h⟩ := zlet_ex h
            have hx20 : inL x20 := by rw [ex20]; exact (cL_zlor _ _)
            refine j_namesl ex20 ?_
            refine j_lstore_n hC dX7_evaluate_85 rfl (Nat.le_of_ble_eq_true rfl) rfl ?_
            refine j_goto hC dX7_evaluate_86 rfl ?_
            refine j_sub [3, 4, 5, 0, 6] rfl ?_
            exact J_167 x20 v5 hx20 hv5 _ h hT
          have h := zf c19 h
          by_cases c21 : x13 = 1
          · have h := zt c21 h
            refine j_tswIn hC 1 dX7_evaluate_45 (w_id hx13) c21 (by decide) (by decide) rfl rfl ?_
            refine j_lload_n hC 5 dX7_evaluate_89 rfl rfl ?_
            refine j_lconst (z := 1) hC dX7_evaluate_90 rfl ?_
            refine j_lxor hC dX7_evaluate_91 ?_
            obtain ⟨x22, ex22, h⟩ := zlet_ex h
            have hx22 : inL x22 := by rw [ex22]; exact (cL_zlxor _ _)
            refine j_namesl ex22 ?_
            refine j_lstore_n hC dX7_evaluate_92 rfl (Nat.le_of_ble_eq_true rfl) rfl ?_
            refine j_goto hC dX7_evaluate_93 rfl ?_
            refine j_sub [3, 4, 5, 0, 6] rfl ?_
            exact J_167 x22 v5 hx22 hv5 _ h hT
          have h := zf c21 h
          by_cases c23 : x13 = 2
          · have h := zt c23 h
            refine j_tswIn hC 2 dX7_evaluate_45 (w_id hx13) c23 (by decide) (by decide) rfl rfl ?_
            refine j_lload_n hC 5 dX7_evaluate_96 rfl rfl ?_
            refine j_iconst hC dX7_evaluate_97 ?_
            refine j_lshr hC dX7_evaluate_98 ?_
            refine j_lload_n hC 5 dX7_evaluate_99 rfl rfl ?_
            refine j_ldc2 (n := (-2)) hC dX7_evaluate_100 k472 rfl ?_
            refine j_lor hC dX7_evaluate_103 ?_
            refine j_land hC dX7_evaluate_104 ?_
            obtain ⟨x24, ex24, h⟩ := zlet_ex h
            have hx24 : inL x24 := by rw [ex24]; exact (cL_zland _ _)
            refine j_namesl ex24 ?_
            refine j_lstore_n hC dX7_evaluate_105 rfl (Nat.le_of_ble_eq_true rfl) rfl ?_
            refine j_goto hC dX7_evaluate_106 rfl ?_
            refine j_sub [3, 4, 5, 0, 6] rfl ?_
            exact J_167 x24 v5 hx24 hv5 _ h hT
          have h := zf c23 h
          by_cases c25 : x13 = 3
          · have h := zt c25 h
            refine j_tswIn hC 3 dX7_evaluate_45 (w_id hx13) c25 (by decide) (by decide) rfl rfl ?_
            refine j_lload_n hC 5 dX7_evaluate_109 rfl rfl ?_
            refine j_iconst hC dX7_evaluate_110 ?_
            refine j_lshr hC dX7_evaluate_111 ?_
            refine j_lload_n hC 5 dX7_evaluate_112 rfl rfl ?_
            refine j_lconst (z := 1) hC dX7_evaluate_113 rfl ?_
            refine j_land hC dX7_evaluate_114 ?_
            refine j_lor hC dX7_evaluate_115 ?_
            obtain ⟨x26, ex26, h⟩ := zlet_ex h
            have hx26 : inL x26 := by rw [ex26]; exact (cL_zlor _ _)
            refine j_namesl ex26 ?_
            refine j_lstore_n hC dX7_evaluate_116 rfl (Nat.le_of_ble_eq_true rfl) rfl ?_
            refine j_goto hC dX7_evaluate_117 rfl ?_
            refine j_sub [3, 4, 5, 0, 6] rfl ?_
            exact J_167 x26 v5 hx26 hv5 _ h hT
          have h := zf c25 h
          by_cases c27 : x13 = 4
          · have h := zt c27 h
            refine j_tswIn hC 4 dX7_evaluate_45 (w_id hx13) c27 (by decide) (by decide) rfl rfl ?_
            refine j_lload_n hC 5 dX7_evaluate_120 rfl rfl ?_
            refine j_iconst hC dX7_evaluate_121 ?_
            refine j_lshl hC dX7_evaluate_122 ?_
            refine j_iload hC 0 dX7_evaluate_123 rfl ?_
            refine j_iload_n hC 3 dX7_evaluate_125 rfl rfl ?_
            refine j_iload_n hC 4 dX7_evaluate_126 rfl rfl ?_
            obtain ⟨r28, hy, h⟩ := zb1_ex h
            refine j_callSi hC hE lk_X7_42 dX7_evaluate_127 (c_X7_compares l hlt g x18 v1 v2 hx18 hv1 hv2 M S hy) [.int (zi x18), .int (zi v1), .int (zi v2)] [.long (zl (zlshl v3 1))] rfl rfl rfl (zcat (Nat.le_of_ble_eq_true rfl)) (Nat.le_of_ble_eq_true rfl) (Nat.le_of_ble_eq_true rfl) (Nat.le_of_ble_eq_true rfl) (Nat.le_of_ble_eq_true rfl) (fun hp29 => ?_)
            have hr28 := hp29
            refine j_if_eq hC dX7_evaluate_130 rfl (w_id hr28) (fun c30 => ?_) (fun c30 => ?_)
            · have h := zt c30 h
              refine j_iconst hC dX7_evaluate_137 ?_
              refine j_sub [2, 3, 4, 6] rfl ?_
              exact J_138 v5 (zlshl v3 1) 0 hv5 (cL_zlshl _ _) kR_0 _ h hT
            · have h := zf c30 h
              refine j_iconst hC dX7_evaluate_133 ?_
              refine j_goto hC dX7_evaluate_134 rfl ?_
              refine j_sub [2, 3, 4, 6] rfl ?_
              exact J_138 v5 (zlshl v3 1) 1 hv5 (cL_zlshl _ _) kR_1 _ h hT
          have h := zf c27 h
          refine j_tswOut hC dX7_evaluate_45 (w_id hx13) (by omega) rfl ?_
          refine j_lload_n hC 5 dX7_evaluate_144 rfl rfl ?_
          refine j_iconst hC dX7_evaluate_145 ?_
          refine j_lshl hC dX7_evaluate_146 ?_
          refine j_iload hC 1 dX7_evaluate_147 rfl ?_
          refine j_iload hC 0 dX7_evaluate_149 rfl ?_
          refine j_iload_n hC 3 dX7_evaluate_151 rfl rfl ?_
          refine j_iload_n hC 4 dX7_evaluate_152 rfl rfl ?_
          obtain ⟨r31, hy, h⟩ := zb1_ex h
          refine j_callSi hC hE lk_X7_46 dX7_evaluate_153 (c_X7_matches l hlt g x13 x18 v1 v2 hx13 hx18 hv1 hv2 M S hy) [.int (zi x13), .int (zi x18), .int (zi v1), .int (zi v2)] [.long (zl (zlshl v3 1))] rfl rfl rfl (zcat (Nat.le_of_ble_eq_true rfl)) (Nat.le_of_ble_eq_true rfl) (Nat.le_of_ble_eq_true rfl) (Nat.le_of_ble_eq_true rfl) (Nat.le_of_ble_eq_true rfl) (fun hp32 => ?_)
          have hr31 := hp32
          refine j_if_eq hC dX7_evaluate_156 rfl (w_id hr31) (fun c33 => ?_) (fun c33 => ?_)
          · have h := zt c33 h
            refine j_iconst hC dX7_evaluate_163 ?_
            refine j_sub [2, 3, 4, 6] rfl ?_
            exact J_164 v5 (zlshl v3 1) 0 hv5 (cL_zlshl _ _) kR_0 _ h hT
          · have h := zf c33 h
            refine j_iconst hC dX7_evaluate_159 ?_
            refine j_goto hC dX7_evaluate_160 rfl ?_
            refine j_sub [2, 3, 4, 6] rfl ?_
            exact J_164 v5 (zlshl v3 1) 1 hv5 (cL_zlshl _ _) kR_1 _ h hT
    exact main zN v3 v5 hv3 hv5 hl
  refine j_iload_n hC 1 dX7_evaluate_0 rfl rfl ?_
  obtain ⟨r34, hy, h⟩ := zb1_ex h
  refine j_callSi hC hE lk_X7_36 dX7_evaluate_1 (c_X9_length l hlt g v1 hv1 M S hy) [.int (zi v1)] [] rfl rfl rfl (zcat (Nat.le_of_ble_eq_true rfl)) (Nat.le_of_ble_eq_true rfl) (Nat.le_of_ble_eq_true rfl) (Nat.le_of_ble_eq_true rfl) (Nat.le_of_ble_eq_true rfl) (fun hp35 => ?_)
  have hr34 := hp35
  refine j_istore_n hC dX7_evaluate_4 rfl (Nat.le_of_ble_eq_true rfl) rfl ?_
  refine j_lconst (z := 0) hC dX7_evaluate_5 rfl ?_
  refine j_lstore_n hC dX7_evaluate_6 rfl (Nat.le_of_ble_eq_true rfl) rfl ?_
  refine j_iconst hC dX7_evaluate_7 ?_
  refine j_istore hC dX7_evaluate_8 (Nat.le_of_ble_eq_true rfl) rfl ?_
  refine j_sub [3, 4, 2, 1, 0] rfl ?_
  exact L_10 v0 v1 r34 0 0 hv1 hr34 (inLc rfl) kR_0 h
set_option maxHeartbeats 4000000 in
set_option maxRecDepth 100000 in
theorem c_X7_fulfils (l : Launch) (hlt : l.stackTraces = false) (g : zG) (v0 : Nat) (v1 : Int) (hv1 : inR v1) (M : zM) (S : zS) (hF : zFx S) {r : Int} {M' : zM} (h : F_X7_fulfils v0 v1 M S = some (r, M')) : zMet l g yX7_fulfils cX7_fulfils 5 (some .boolean) 5 0 0 [zr g v0, .int (zi v1)] M S (.inl (some (.int (zi r)))) M' S (inR r) := by
  refine zMet_of (by decide) hlt [(0, zr g v0), (1, .int (zi v1))] (by simp only [lv_args, zr_cat, zc_i, zc_l, zc_d, zc_r] <;> rfl) (by rw [zsl_len]; simp only [List.map_cons, List.map_nil, zr_cat, zc_i, zc_l, zc_d, zc_r, List.sum_cons, List.sum_nil] <;> decide) (fun K hC hE hN => ?_)
  unfold F_X7_fulfils at h
  have J_71 : ∀ (v0 : Nat) (v2 : Int) (v3 : Int) (hv2 : inR v2) (hv3 : inL v3) (M : zM) (_ : F_X7_fulfils_J71 v0 v2 v3 M S = some (r, M')), zJ K g 0 0 71 5 [(0, zr g v0), (2, .int (zi v2)), (3, .long (zl v3))] [] M S := by
    intro v0 v2 v3 hv2 hv3 M h
    unfold F_X7_fulfils_J71 at h
    refine j_aload_n hC 0 dX7_fulfils_71 rfl rfl ?_
    obtain ⟨hk, h⟩ := zchk_ex h
    have hk1 := hk
    refine j_getq hC dX7_fulfils_72 f_X7_15 hk1 rfl 2 rfl rfl ?_
    refine j_iload_n hC 1 dX7_fulfils_75 rfl rfl ?_
    obtain ⟨r2, hy, h⟩ := zb1_ex h
    refine j_callSl hC hE lk_X7_22 dX7_fulfils_76 (c_X6_at_ l hlt g (zrf S v0 2) v2 hv2 M S hF hy) [zr g (zrf S v0 2), .int (zi v2)] [] rfl rfl rfl (zcat (Nat.le_of_ble_eq_true rfl)) (Nat.le_of_ble_eq_true rfl) (Nat.le_of_ble_eq_true rfl) (Nat.le_of_ble_eq_true rfl) (Nat.le_of_ble_eq_true rfl) (fun hp3 => ?_)
    have hr2 := hp3
    refine j_lload_n hC 2 dX7_fulfils_79 rfl rfl ?_
    refine j_land hC dX7_fulfils_80 ?_
    refine j_lconst (z := 0) hC dX7_fulfils_81 rfl ?_
    refine j_lcmp hC dX7_fulfils_82 (cL_zland _ _) (inLc rfl) ?_
    refine j_if_eq hC dX7_fulfils_83 rfl (w_id (inR_cmp _ _)) (fun c4 => ?_) (fun c4 => ?_)
    · have h := zt c4 h
      refine j_iconst hC dX7_fulfils_90 ?_
      obtain ⟨e1, e2⟩ := zpr2 (Option.some.inj h)
      exact j_iret hC hE dX7_fulfils_91 (w_id kR_0) (zn_z zb01_0) (by rw [← e1]) e2 rfl (by rw [← e1]; exact kR_0) (Nat.le_of_ble_eq_true rfl) (Nat.le_of_ble_eq_true rfl)
    · have h := zf c4 h
      refine j_iconst hC dX7_fulfils_86 ?_
      refine j_goto hC dX7_fulfils_87 rfl ?_
      obtain ⟨e1, e2⟩ := zpr2 (Option.some.inj h)
      exact j_iret hC hE dX7_fulfils_91 (w_id kR_1) (zn_z zb01_1) (by rw [← e1]) e2 rfl (by rw [← e1]; exact kR_1) (Nat.le_of_ble_eq_true rfl) (Nat.le_of_ble_eq_true rfl)
  refine j_iload_n hC 1 dX7_fulfils_0 rfl rfl ?_
  refine j_bipush hC dX7_fulfils_1 rfl ?_
  refine j_ishr hC dX7_fulfils_3 ?_
  obtain ⟨x5, ex5, h⟩ := zlet_ex h
  have hx5 : inR x5 := by rw [ex5]; exact (cR_zshr _ _)
  refine j_names ex5 ?_
  refine j_istore_n hC dX7_fulfils_4 rfl (Nat.le_of_ble_eq_true rfl) rfl ?_
  refine j_lconst (z := 1) hC dX7_fulfils_5 rfl ?_
  refine j_iload_n hC 2 dX7_fulfils_6 rfl rfl ?_
  refine j_bipush hC dX7_fulfils_7 rfl ?_
  refine j_iand hC dX7_fulfils_9 ?_
  refine j_lshl hC dX7_fulfils_10 ?_
  obtain ⟨x6, ex6, h⟩ := zlet_ex h
  have hx6 : inL x6 := by rw [ex6]; exact (cL_zlshl _ _)
  refine j_namesl ex6 ?_
  refine j_lstore_n hC dX7_fulfils_11 rfl (Nat.le_of_ble_eq_true rfl) rfl ?_
  refine j_aload_n hC 2 dX7_fulfils_12 rfl rfl ?_
  obtain ⟨hk, h⟩ := zchk_ex h
  have hk7 := hk
  refine j_getq hC dX7_fulfils_13 f_X7_9 hk7 rfl 1 rfl rfl ?_
  refine j_iload_n hC 1 dX7_fulfils_16 rfl rfl ?_
  obtain ⟨r8, hy, h⟩ := zb1_ex h
  refine j_callSl hC hE lk_X7_22 dX7_fulfils_17 (c_X6_at_ l hlt g (zrf S v0 1) x5 hx5 M S hF hy) [zr g (zrf S v0 1), .int (zi x5)] [] rfl rfl rfl (zcat (Nat.le_of_ble_eq_true rfl)) (Nat.le_of_ble_eq_true rfl) (Nat.le_of_ble_eq_true rfl) (Nat.le_of_ble_eq_true rfl) (Nat.le_of_ble_eq_true rfl) (fun hp9 => ?_)
  have hr8 := hp9
  refine j_lload_n hC 0 dX7_fulfils_20 rfl rfl ?_
  refine j_land hC dX7_fulfils_21 ?_
  refine j_lconst (z := 0) hC dX7_fulfils_22 rfl ?_
  refine j_lcmp hC dX7_fulfils_23 (cL_zland _ _) (inLc rfl) ?_
  refine j_if_ne hC dX7_fulfils_24 rfl (w_id (inR_cmp _ _)) (fun c10 => ?_) (fun c10 => ?_)
  · have h := zf c10 h
    refine j_sub [2, 1, 0] rfl ?_
    exact J_71 v0 x5 x6 hx5 hx6 M h
  · have h := zt c10 h
    refine j_aload_n hC 2 dX7_fulfils_27 rfl rfl ?_
    obtain ⟨hk, h⟩ := zchk_ex h
    have hk11 := hk
    refine j_getq hC dX7_fulfils_28 f_X7_9 hk11 rfl 1 rfl rfl ?_
    refine j_iload_n hC 1 dX7_fulfils_31 rfl rfl ?_
    refine j_aload_n hC 2 dX7_fulfils_32 rfl rfl ?_
    obtain ⟨hk, h⟩ := zchk_ex h
    have hk12 := hk
    refine j_getq hC dX7_fulfils_33 f_X7_9 hk12 rfl 1 rfl rfl ?_
    refine j_iload_n hC 1 dX7_fulfils_36 rfl rfl ?_
    obtain ⟨r13, hy, h⟩ := zb1_ex h
    refine j_callSl hC hE lk_X7_22 dX7_fulfils_37 (c_X6_at_ l hlt g (zrf S v0 1) x5 hx5 M S hF hy) [zr g (zrf S v0 1), .int (zi x5)] [.int (zi x5), zr g (zrf S v0 1)] rfl rfl rfl (zcat (Nat.le_of_ble_eq_true rfl)) (Nat.le_of_ble_eq_true rfl) (Nat.le_of_ble_eq_true rfl) (Nat.le_of_ble_eq_true rfl) (Nat.le_of_ble_eq_true rfl) (fun hp14 => ?_)
    have hr13 := hp14
    refine j_lload_n hC 0 dX7_fulfils_40 rfl rfl ?_
    refine j_lor hC dX7_fulfils_41 ?_
    obtain ⟨M15, hy, h⟩ := zb1_ex h
    refine j_callSv hC hE lk_X7_28 dX7_fulfils_42 (c_X6_put_ l hlt g (zrf S v0 1) x5 (zlor r13 x6) hx5 (cL_zlor _ _) M S hF hy) [zr g (zrf S v0 1), .int (zi x5), .long (zl (zlor r13 x6))] [] rfl rfl rfl (zcat (Nat.le_of_ble_eq_true rfl)) (Nat.le_of_ble_eq_true rfl) (Nat.le_of_ble_eq_true rfl) (Nat.le_of_ble_eq_true rfl) (Nat.le_of_ble_eq_true rfl) (fun hp16 => ?_)
    refine j_aload_n hC 2 dX7_fulfils_45 rfl rfl ?_
    refine j_iload_n hC 3 dX7_fulfils_46 rfl rfl ?_
    obtain ⟨hk, h⟩ := zchk_ex h
    have hk17 := hk
    obtain ⟨r18, hy, h⟩ := zb1_ex h
    refine j_callVi (ci := 5) hC hE lk_X7_32 dX7_fulfils_47 (c_X7_evaluate l hlt g v0 v1 hv1 M15 S hF hy) [.int (zi v1)] [] hk17 ⟨_, rfl, by decide, rfl⟩ rfl rfl rfl (zcat (Nat.le_of_ble_eq_true rfl)) (Nat.le_of_ble_eq_true rfl) (Nat.le_of_ble_eq_true rfl) (Nat.le_of_ble_eq_true rfl) (Nat.le_of_ble_eq_true rfl) (fun hp19 => ?_)
    have hr18 := hp19
    refine j_if_eq hC dX7_fulfils_50 rfl (w_id hr18) (fun c20 => ?_) (fun c20 => ?_)
    · have h := zt c20 h
      refine j_sub [2, 1, 0] rfl ?_
      exact J_71 v0 x5 x6 hx5 hx6 M15 h
    · have h := zf c20 h
      refine j_aload_n hC 2 dX7_fulfils_53 rfl rfl ?_
      obtain ⟨hk, h⟩ := zchk_ex h
      have hk21 := hk
      refine j_getq hC dX7_fulfils_54 f_X7_15 hk21 rfl 2 rfl rfl ?_
      refine j_iload_n hC 1 dX7_fulfils_57 rfl rfl ?_
      refine j_aload_n hC 2 dX7_fulfils_58 rfl rfl ?_
      obtain ⟨hk, h⟩ := zchk_ex h
      have hk22 := hk
      refine j_getq hC dX7_fulfils_59 f_X7_15 hk22 rfl 2 rfl rfl ?_
      refine j_iload_n hC 1 dX7_fulfils_62 rfl rfl ?_
      obtain ⟨r23, hy, h⟩ := zb1_ex h
      refine j_callSl hC hE lk_X7_22 dX7_fulfils_63 (c_X6_at_ l hlt g (zrf S v0 2) x5 hx5 M15 S hF hy) [zr g (zrf S v0 2), .int (zi x5)] [.int (zi x5), zr g (zrf S v0 2)] rfl rfl rfl (zcat (Nat.le_of_ble_eq_true rfl)) (Nat.le_of_ble_eq_true rfl) (Nat.le_of_ble_eq_true rfl) (Nat.le_of_ble_eq_true rfl) (Nat.le_of_ble_eq_true rfl) (fun hp24 => ?_)
      have hr23 := hp24
      refine j_lload_n hC 0 dX7_fulfils_66 rfl rfl ?_
      refine j_lor hC dX7_fulfils_67 ?_
      obtain ⟨M25, hy, h⟩ := zb1_ex h
      refine j_callSv hC hE lk_X7_28 dX7_fulfils_68 (c_X6_put_ l hlt g (zrf S v0 2) x5 (zlor r23 x6) hx5 (cL_zlor _ _) M15 S hF hy) [zr g (zrf S v0 2), .int (zi x5), .long (zl (zlor r23 x6))] [] rfl rfl rfl (zcat (Nat.le_of_ble_eq_true rfl)) (Nat.le_of_ble_eq_true rfl) (Nat.le_of_ble_eq_true rfl) (Nat.le_of_ble_eq_true rfl) (Nat.le_of_ble_eq_true rfl) (fun hp26 => ?_)
      refine j_sub [2, 1, 0] rfl ?_
      exact J_71 v0 x5 x6 hx5 hx6 M25 h
set_option maxHeartbeats 4000000 in
set_option maxRecDepth 100000 in
theorem c_X0_selects (l : Launch) (hlt : l.stackTraces = false) (g : zG) (v0 : Nat) (v1 : Int) (v2 : Int) (v3 : Int) (v4 : Int) (v5 : Int) (hv1 : inR v1) (hv2 : inR v2) (hv3 : inR v3) (hv4 : inR v4) (hv5 : inR v5) (M : zM) (S : zS) (hF : zFx S) {r : Int} {M' : zM} (h : F_X0_selects v0 v1 v2 v3 v4 v5 M S = some (r, M')) : zMet l g yX0_selects cX0_selects 10 (some .boolean) 6 0 0 [zr g v0, .int (zi v1), .int (zi v2), .int (zi v3), .int (zi v4), .int (zi v5)] M S (.inl (some (.int (zi r)))) M' S (inR r) := by
  refine zMet_of (by decide) hlt [(0, zr g v0), (1, .int (zi v1)), (2, .int (zi v2)), (3, .int (zi v3)), (4, .int (zi v4)), (5, .int (zi v5))] (by simp only [lv_args, zr_cat, zc_i, zc_l, zc_d, zc_r] <;> rfl) (by rw [zsl_len]; simp only [List.map_cons, List.map_nil, zr_cat, zc_i, zc_l, zc_d, zc_r, List.sum_cons, List.sum_nil] <;> decide) (fun K hC hE hN => ?_)
  unfold F_X0_selects at h
  have J_176 : ∀ (M : zM) (_ : F_X0_selects_J176 M S = some (r, M')), zJ K g 0 0 176 10 [] [] M S := by
    intro M h
    unfold F_X0_selects_J176 at h
    refine j_iconst hC dX0_selects_176 ?_
    obtain ⟨e1, e2⟩ := zpr2 (Option.some.inj h)
    exact j_iret hC hE dX0_selects_177 (w_id kR_1) (zn_z zb01_1) (by rw [← e1]) e2 rfl (by rw [← e1]; exact kR_1) (Nat.le_of_ble_eq_true rfl) (Nat.le_of_ble_eq_true rfl)
  have J_162 : ∀ (M : zM) (_ : F_X0_selects_J162 M S = some (r, M')), zJ K g 0 0 162 10 [] [] M S := by
    intro M h
    unfold F_X0_selects_J162 at h
    refine j_iconst hC dX0_selects_162 ?_
    obtain ⟨e1, e2⟩ := zpr2 (Option.some.inj h)
    exact j_iret hC hE dX0_selects_163 (w_id kR_0) (zn_z zb01_0) (by rw [← e1]) e2 rfl (by rw [← e1]; exact kR_0) (Nat.le_of_ble_eq_true rfl) (Nat.le_of_ble_eq_true rfl)
  have L_101 : ∀ (v0 : Nat) (v1 : Int) (v2 : Int) (v3 : Int) (v4 : Int) (v5 : Int) (v6 : Int) (v7 : Int) (v8 : Int) (hv1 : inR v1) (hv2 : inR v2) (hv3 : inR v3) (hv4 : inR v4) (hv5 : inR v5) (hv6 : inR v6) (hv7 : inR v7) (hv8 : inR v8) (M : zM) (_ : F_X0_selects_L101 v0 v1 v2 v3 v4 v5 v6 v7 v8 M S = some (r, M')), zJ K g 0 0 101 10 [(0, zr g v0), (1, .int (zi v1)), (2, .int (zi v2)), (3, .int (zi v3)), (4, .int (zi v4)), (5, .int (zi v5)), (6, .int (zi v6)), (7, .int (zi v7)), (8, .int (zi v8))] [] M S := by
    intro v0 v1 v2 v3 v4 v5 v6 v7 v8 hv1 hv2 hv3 hv4 hv5 hv6 hv7 hv8 M h
    unfold F_X0_selects_L101 at h
    obtain ⟨ex101, hl, hd101⟩ := zb1_ex h
    obtain ⟨bd101, ebd⟩ : ∃ f, f = (fun (s : Int × zM) => F_X0_selects_B101 v0 v1 v2 v3 v4 v5 v6 v7 s.1 s.2 S) := ⟨_, rfl⟩
    rw [← ebd] at hl
    have main : ∀ (n101 : Nat) (v8 : Int) (hv8 : inR v8) (M : zM) (_ : zloop bd101 n101 (v8, M) = some ex101), zJ K g 0 0 101 10 [(0, zr g v0), (1, .int (zi v1)), (2, .int (zi v2)), (3, .int (zi v3)), (4, .int (zi v4)), (5, .int (zi v5)), (6, .int (zi v6)), (7, .int (zi v7)), (8, .int (zi v8))] [] M S := by
      intro n101
      induction n101 with
      | zero => intro v8 hv8 M hl; exact zloop_0 hl
      | succ n101 ih101 =>
        have J_170 : ∀ (v8 : Int) (hv8 : inR v8) (M : zM) (o : _) (_ : F_X0_selects_J170 v0 v1 v2 v3 v4 v5 v6 v7 v8 M S = some o), zAft (bd101) n101 ex101 o → zJ K g 0 0 170 10 [(0, zr g v0), (1, .int (zi v1)), (2, .int (zi v2)), (3, .int (zi v3)), (4, .int (zi v4)), (5, .int (zi v5)), (6, .int (zi v6)), (7, .int (zi v7)), (8, .int (zi v8))] [] M S := by
          intro v8 hv8 M o h hT
          unfold F_X0_selects_J170 at h
          obtain ⟨x1, ex1, h⟩ := zlet_ex h
          have hx1 : inR x1 := by rw [ex1]; exact inR_w _
          refine j_iinc hC 8 dX0_selects_170 rfl ex1 (Nat.le_of_ble_eq_true rfl) rfl ?_
          refine j_goto hC dX0_selects_173 rfl ?_
          obtain rfl := Option.some.inj h
          refine j_sub [1, 2, 3, 4, 5, 6, 7, 8, 0] rfl ?_
          exact ih101 x1 hx1 M hT
        have L_122 : ∀ (v8 : Int) (v9 : Int) (hv8 : inR v8) (hv9 : inR v9) (M : zM) (o : _) (_ : F_X0_selects_L122 v0 v1 v2 v3 v4 v5 v6 v7 v8 v9 M S = some o), zAft (bd101) n101 ex101 o → zJ K g 0 0 122 10 [(0, zr g v0), (1, .int (zi v1)), (2, .int (zi v2)), (3, .int (zi v3)), (4, .int (zi v4)), (5, .int (zi v5)), (6, .int (zi v6)), (7, .int (zi v7)), (8, .int (zi v8)), (9, .int (zi v9))] [] M S := by
          intro v8 v9 hv8 hv9 M oh122 h hT122
          unfold F_X0_selects_L122 at h
          obtain ⟨ex122, hl, hd122⟩ := zb1_ex h
          obtain ⟨bd122, ebd⟩ : ∃ f, f = (fun (s : Int × zM) => F_X0_selects_B122 v0 v1 v2 v3 v4 v5 v6 v7 v8 s.1 s.2 S) := ⟨_, rfl⟩
          rw [← ebd] at hl
          have main : ∀ (n122 : Nat) (v9 : Int) (hv9 : inR v9) (M : zM) (_ : zloop bd122 n122 (v9, M) = some ex122), zJ K g 0 0 122 10 [(0, zr g v0), (1, .int (zi v1)), (2, .int (zi v2)), (3, .int (zi v3)), (4, .int (zi v4)), (5, .int (zi v5)), (6, .int (zi v6)), (7, .int (zi v7)), (8, .int (zi v8)), (9, .int (zi v9))] [] M S := by
            intro n122
            induction n122 with
            | zero => intro v9 hv9 M hl; exact zloop_0 hl
            | succ n122 ih122 =>
              have J_164 : ∀ (v9 : Int) (hv9 : inR v9) (M : zM) (o : _) (_ : F_X0_selects_J164 v0 v1 v2 v3 v4 v5 v6 v7 v8 v9 M S = some o), zAft (bd122) n122 ex122 o → zJ K g 0 0 164 10 [(0, zr g v0), (1, .int (zi v1)), (2, .int (zi v2)), (3, .int (zi v3)), (4, .int (zi v4)), (5, .int (zi v5)), (6, .int (zi v6)), (7, .int (zi v7)), (8, .int (zi v8)), (9, .int (zi v9))] [] M S := by
                intro v9 hv9 M o h hT
                unfold F_X0_selects_J164 at h
                obtain ⟨x2, ex2, h⟩ := zlet_ex h
                have hx2 : inR x2 := by rw [ex2]; exact inR_w _
                refine j_iinc hC 9 dX0_selects_164 rfl ex2 (Nat.le_of_ble_eq_true rfl) rfl ?_
                refine j_goto hC dX0_selects_167 rfl ?_
                obtain rfl := Option.some.inj h
                refine j_sub [1, 2, 3, 4, 5, 6, 7, 8, 9, 0] rfl ?_
                exact ih122 x2 hx2 M hT
              have J_143 : ∀ (v9 : Int) (hv9 : inR v9) (M : zM) (o : _) (_ : F_X0_selects_J143 v0 v1 v2 v3 v4 v5 v6 v7 v8 v9 M S = some o), zAft (bd122) n122 ex122 o → zJ K g 0 0 143 10 [(0, zr g v0), (1, .int (zi v1)), (2, .int (zi v2)), (3, .int (zi v3)), (4, .int (zi v4)), (5, .int (zi v5)), (6, .int (zi v6)), (7, .int (zi v7)), (8, .int (zi v8)), (9, .int (zi v9))] [] M S := by
                intro v9 hv9 M o h hT
                unfold F_X0_selects_J143 at h
                refine j_aload_n hC 0 dX0_selects_143 rfl rfl ?_
                obtain ⟨hk, h⟩ := zchk_ex h
                have hk3 := hk
                refine j_getq hC dX0_selects_144 f_X0_28 hk3 rfl 4 rfl rfl ?_
                refine j_iload_n hC 2 dX0_selects_147 rfl rfl ?_
                refine j_iload_n hC 3 dX0_selects_148 rfl rfl ?_
                refine j_iload hC 8 dX0_selects_149 rfl ?_
                refine j_iload hC 9 dX0_selects_151 rfl ?_
                obtain ⟨r4, hy, h⟩ := zb1_ex h
                refine j_callSi hC hE lk_X0_32 dX0_selects_153 (c_X9_factor l hlt g v2 v3 v8 v9 hv2 hv3 hv8 hv9 M S hy) [.int (zi v2), .int (zi v3), .int (zi v8), .int (zi v9)] [zr g (zrf S v0 4)] rfl rfl rfl (zcat (Nat.le_of_ble_eq_true rfl)) (Nat.le_of_ble_eq_true rfl) (Nat.le_of_ble_eq_true rfl) (Nat.le_of_ble_eq_true rfl) (Nat.le_of_ble_eq_true rfl) (fun hp5 => ?_)
                have hr4 := hp5
                obtain ⟨hk, h⟩ := zchk_ex h
                have hk6 := hk
                obtain ⟨r7, M8, hy, h⟩ := zb2_ex h
                refine j_callVi (ci := 5) hC hE lk_X0_36 dX0_selects_156 (c_X7_fulfils l hlt g (zrf S v0 4) r4 hr4 M S hF hy) [.int (zi r4)] [] hk6 ⟨_, rfl, by decide, rfl⟩ rfl rfl rfl (zcat (Nat.le_of_ble_eq_true rfl)) (Nat.le_of_ble_eq_true rfl) (Nat.le_of_ble_eq_true rfl) (Nat.le_of_ble_eq_true rfl) (Nat.le_of_ble_eq_true rfl) (fun hp9 => ?_)
                have hr7 := hp9
                refine j_if_eq hC dX0_selects_159 rfl (w_id hr7) (fun c10 => ?_) (fun c10 => ?_)
                · have h := zt c10 h
                  exact J_164 v9 hv9 M8 _ h hT
                · have h := zf c10 h
                  obtain rfl := Option.some.inj h
                  have hx122 := hd122
                  rw [← show _ = ex122 from hT] at hx122
                  dsimp only [Sum.elim] at hx122
                  obtain rfl := Option.some.inj hx122
                  have hx101 := hd101
                  rw [← show _ = ex101 from hT122] at hx101
                  dsimp only [Sum.elim] at hx101
                  refine j_sub [] rfl ?_
                  exact J_162 M8 hx101
              intro v9 hv9 M hl
              obtain ⟨o, h, hT⟩ := zloop_ex hl
              have h : F_X0_selects_B122 v0 v1 v2 v3 v4 v5 v6 v7 v8 v9 M S = some o := by rw [ebd] at h; exact h
              unfold F_X0_selects_B122 at h
              refine j_iload hC 9 dX0_selects_122 rfl ?_
              refine j_iload hC 7 dX0_selects_124 rfl ?_
              refine j_icmp_gt hC dX0_selects_126 rfl (w_id hv9) (w_id hv7) (fun c11 => ?_) (fun c11 => ?_)
              · have h := zt c11 h
                obtain rfl := Option.some.inj h
                have hx122 := hd122
                rw [← show _ = ex122 from hT] at hx122
                dsimp only [Sum.elim] at hx122
                refine j_sub [0, 1, 2, 3, 4, 5, 6, 7, 8] rfl ?_
                exact J_170 v8 hv8 M _ hx122 hT122
              · have h := zf c11 h
                refine j_iload hC 8 dX0_selects_129 rfl ?_
                refine j_iload hC 4 dX0_selects_131 rfl ?_
                refine j_icmp_ne hC dX0_selects_133 rfl (w_id hv8) (w_id hv4) (fun c12 => ?_) (fun c12 => ?_)
                · have h := zf c12 h
                  exact J_143 v9 hv9 M _ h hT
                · have h := zt c12 h
                  refine j_iload hC 9 dX0_selects_136 rfl ?_
                  refine j_iload hC 5 dX0_selects_138 rfl ?_
                  refine j_icmp_eq hC dX0_selects_140 rfl (w_id hv9) (w_id hv5) (fun c13 => ?_) (fun c13 => ?_)
                  · have h := zt c13 h
                    exact J_164 v9 hv9 M _ h hT
                  · have h := zf c13 h
                    exact J_143 v9 hv9 M _ h hT
          exact main zN v9 hv9 M hl
        have J_120 : ∀ (v8 : Int) (t0 : Int) (hv8 : inR v8) (ht0 : inR t0) (M : zM) (o : _) (_ : F_X0_selects_J120 v0 v1 v2 v3 v4 v5 v6 v7 v8 t0 M S = some o), zAft (bd101) n101 ex101 o → zJ K g 0 0 120 10 [(0, zr g v0), (1, .int (zi v1)), (2, .int (zi v2)), (3, .int (zi v3)), (4, .int (zi v4)), (5, .int (zi v5)), (6, .int (zi v6)), (7, .int (zi v7)), (8, .int (zi v8))] [.int (zi t0)] M S := by
          intro v8 t0 hv8 ht0 M o h hT
          unfold F_X0_selects_J120 at h
          refine j_istore hC dX0_selects_120 (Nat.le_of_ble_eq_true rfl) rfl ?_
          refine j_sub [1, 2, 3, 4, 5, 6, 7, 8, 9, 0] rfl ?_
          exact L_122 v8 t0 hv8 ht0 M _ h hT
        intro v8 hv8 M hl
        obtain ⟨o, h, hT⟩ := zloop_ex hl
        have h : F_X0_selects_B101 v0 v1 v2 v3 v4 v5 v6 v7 v8 M S = some o := by rw [ebd] at h; exact h
        unfold F_X0_selects_B101 at h
        refine j_iload hC 8 dX0_selects_101 rfl ?_
        refine j_iload hC 6 dX0_selects_103 rfl ?_
        refine j_icmp_gt hC dX0_selects_105 rfl (w_id hv8) (w_id hv6) (fun c14 => ?_) (fun c14 => ?_)
        · have h := zt c14 h
          obtain rfl := Option.some.inj h
          have hx101 := hd101
          rw [← show _ = ex101 from hT] at hx101
          dsimp only [Sum.elim] at hx101
          refine j_sub [] rfl ?_
          exact J_176 M hx101
        · have h := zf c14 h
          refine j_iload_n hC 1 dX0_selects_108 rfl rfl ?_
          refine j_iconst hC dX0_selects_109 ?_
          refine j_icmp_ne hC dX0_selects_110 rfl (w_id hv1) (w_id kR_2) (fun c15 => ?_) (fun c15 => ?_)
          · have h := zf c15 h
            refine j_iload hC 8 dX0_selects_118 rfl ?_
            exact J_120 v8 v8 hv8 hv8 M _ h hT
          · have h := zt c15 h
            refine j_iload hC 5 dX0_selects_113 rfl ?_
            refine j_goto hC dX0_selects_115 rfl ?_
            exact J_120 v8 v5 hv8 hv5 M _ h hT
    exact main zN v8 hv8 M hl
  have J_99 : ∀ (v0 : Nat) (v1 : Int) (v2 : Int) (v3 : Int) (v4 : Int) (v5 : Int) (v6 : Int) (v7 : Int) (t0 : Int) (hv1 : inR v1) (hv2 : inR v2) (hv3 : inR v3) (hv4 : inR v4) (hv5 : inR v5) (hv6 : inR v6) (hv7 : inR v7) (ht0 : inR t0) (M : zM) (_ : F_X0_selects_J99 v0 v1 v2 v3 v4 v5 v6 v7 t0 M S = some (r, M')), zJ K g 0 0 99 10 [(0, zr g v0), (1, .int (zi v1)), (2, .int (zi v2)), (3, .int (zi v3)), (4, .int (zi v4)), (5, .int (zi v5)), (6, .int (zi v6)), (7, .int (zi v7))] [.int (zi t0)] M S := by
    intro v0 v1 v2 v3 v4 v5 v6 v7 t0 hv1 hv2 hv3 hv4 hv5 hv6 hv7 ht0 M h
    unfold F_X0_selects_J99 at h
    refine j_istore hC dX0_selects_99 (Nat.le_of_ble_eq_true rfl) rfl ?_
    refine j_sub [1, 2, 3, 4, 5, 6, 7, 8, 0] rfl ?_
    exact L_101 v0 v1 v2 v3 v4 v5 v6 v7 t0 hv1 hv2 hv3 hv4 hv5 hv6 hv7 ht0 M h
  have J_86 : ∀ (v0 : Nat) (v1 : Int) (v2 : Int) (v3 : Int) (v4 : Int) (v5 : Int) (v6 : Int) (t0 : Int) (hv1 : inR v1) (hv2 : inR v2) (hv3 : inR v3) (hv4 : inR v4) (hv5 : inR v5) (hv6 : inR v6) (ht0 : inR t0) (M : zM) (_ : F_X0_selects_J86 v0 v1 v2 v3 v4 v5 v6 t0 M S = some (r, M')), zJ K g 0 0 86 10 [(0, zr g v0), (1, .int (zi v1)), (2, .int (zi v2)), (3, .int (zi v3)), (4, .int (zi v4)), (5, .int (zi v5)), (6, .int (zi v6))] [.int (zi t0)] M S := by
    intro v0 v1 v2 v3 v4 v5 v6 t0 hv1 hv2 hv3 hv4 hv5 hv6 ht0 M h
    unfold F_X0_selects_J86 at h
    refine j_istore hC dX0_selects_86 (Nat.le_of_ble_eq_true rfl) rfl ?_
    refine j_iload_n hC 2 dX0_selects_88 rfl rfl ?_
    refine j_iconst hC dX0_selects_89 ?_
    refine j_icmp_ne hC dX0_selects_90 rfl (w_id hv1) (w_id kR_3) (fun c16 => ?_) (fun c16 => ?_)
    · have h := zf c16 h
      refine j_iconst hC dX0_selects_98 ?_
      refine j_sub [1, 2, 3, 4, 5, 6, 7, 0] rfl ?_
      exact J_99 v0 v1 v2 v3 v4 v5 v6 t0 0 hv1 hv2 hv3 hv4 hv5 hv6 ht0 kR_0 M h
    · have h := zt c16 h
      refine j_iload hC 5 dX0_selects_93 rfl ?_
      refine j_goto hC dX0_selects_95 rfl ?_
      refine j_sub [1, 2, 3, 4, 5, 6, 7, 0] rfl ?_
      exact J_99 v0 v1 v2 v3 v4 v5 v6 t0 v4 hv1 hv2 hv3 hv4 hv5 hv6 ht0 hv4 M h
  have J_73 : ∀ (v0 : Nat) (v1 : Int) (v2 : Int) (v3 : Int) (v4 : Int) (v5 : Int) (t0 : Int) (hv1 : inR v1) (hv2 : inR v2) (hv3 : inR v3) (hv4 : inR v4) (hv5 : inR v5) (ht0 : inR t0) (M : zM) (_ : F_X0_selects_J73 v0 v1 v2 v3 v4 v5 t0 M S = some (r, M')), zJ K g 0 0 73 10 [(0, zr g v0), (1, .int (zi v1)), (2, .int (zi v2)), (3, .int (zi v3)), (4, .int (zi v4)), (5, .int (zi v5))] [.int (zi t0)] M S := by
    intro v0 v1 v2 v3 v4 v5 t0 hv1 hv2 hv3 hv4 hv5 ht0 M h
    unfold F_X0_selects_J73 at h
    refine j_istore hC dX0_selects_73 (Nat.le_of_ble_eq_true rfl) rfl ?_
    refine j_iload_n hC 2 dX0_selects_75 rfl rfl ?_
    refine j_iconst hC dX0_selects_76 ?_
    refine j_icmp_ne hC dX0_selects_77 rfl (w_id hv1) (w_id kR_3) (fun c17 => ?_) (fun c17 => ?_)
    · have h := zf c17 h
      refine j_iload_n hC 4 dX0_selects_85 rfl rfl ?_
      refine j_sub [1, 2, 3, 4, 5, 6, 0] rfl ?_
      exact J_86 v0 v1 v2 v3 v4 v5 t0 v3 hv1 hv2 hv3 hv4 hv5 ht0 hv3 M h
    · have h := zt c17 h
      refine j_iload hC 6 dX0_selects_80 rfl ?_
      refine j_goto hC dX0_selects_82 rfl ?_
      refine j_sub [1, 2, 3, 4, 5, 6, 0] rfl ?_
      exact J_86 v0 v1 v2 v3 v4 v5 t0 v5 hv1 hv2 hv3 hv4 hv5 ht0 hv5 M h
  have J_40 : ∀ (M : zM) (_ : F_X0_selects_J40 M S = some (r, M')), zJ K g 0 0 40 10 [] [] M S := by
    intro M h
    unfold F_X0_selects_J40 at h
    refine j_iconst hC dX0_selects_40 ?_
    obtain ⟨e1, e2⟩ := zpr2 (Option.some.inj h)
    exact j_iret hC hE dX0_selects_41 (w_id kR_0) (zn_z zb01_0) (by rw [← e1]) e2 rfl (by rw [← e1]; exact kR_0) (Nat.le_of_ble_eq_true rfl) (Nat.le_of_ble_eq_true rfl)
  refine j_aload_n hC 0 dX0_selects_0 rfl rfl ?_
  obtain ⟨hk, h⟩ := zchk_ex h
  have hk18 := hk
  refine j_getq hC dX0_selects_1 f_X0_28 hk18 rfl 4 rfl rfl ?_
  refine j_iload_n hC 2 dX0_selects_4 rfl rfl ?_
  refine j_iload_n hC 3 dX0_selects_5 rfl rfl ?_
  refine j_iload hC 4 dX0_selects_6 rfl ?_
  refine j_iload hC 5 dX0_selects_8 rfl ?_
  obtain ⟨r19, hy, h⟩ := zb1_ex h
  refine j_callSi hC hE lk_X0_32 dX0_selects_10 (c_X9_factor l hlt g v2 v3 v4 v5 hv2 hv3 hv4 hv5 M S hy) [.int (zi v2), .int (zi v3), .int (zi v4), .int (zi v5)] [zr g (zrf S v0 4)] rfl rfl rfl (zcat (Nat.le_of_ble_eq_true rfl)) (Nat.le_of_ble_eq_true rfl) (Nat.le_of_ble_eq_true rfl) (Nat.le_of_ble_eq_true rfl) (Nat.le_of_ble_eq_true rfl) (fun hp20 => ?_)
  have hr19 := hp20
  obtain ⟨hk, h⟩ := zchk_ex h
  have hk21 := hk
  obtain ⟨r22, M23, hy, h⟩ := zb2_ex h
  refine j_callVi (ci := 5) hC hE lk_X0_36 dX0_selects_13 (c_X7_fulfils l hlt g (zrf S v0 4) r19 hr19 M S hF hy) [.int (zi r19)] [] hk21 ⟨_, rfl, by decide, rfl⟩ rfl rfl rfl (zcat (Nat.le_of_ble_eq_true rfl)) (Nat.le_of_ble_eq_true rfl) (Nat.le_of_ble_eq_true rfl) (Nat.le_of_ble_eq_true rfl) (Nat.le_of_ble_eq_true rfl) (fun hp24 => ?_)
  have hr22 := hp24
  refine j_if_ne hC dX0_selects_16 rfl (w_id hr22) (fun c25 => ?_) (fun c25 => ?_)
  · have h := zf c25 h
    refine j_iload_n hC 1 dX0_selects_21 rfl rfl ?_
    refine j_if_ne hC dX0_selects_22 rfl (w_id hv1) (fun c26 => ?_) (fun c26 => ?_)
    · have h := zf c26 h
      refine j_iload_n hC 1 dX0_selects_42 rfl rfl ?_
      refine j_iconst hC dX0_selects_43 ?_
      refine j_icmp_ne hC dX0_selects_44 rfl (w_id hv1) (w_id kR_1) (fun c27 => ?_) (fun c27 => ?_)
      · have h := zf c27 h
        refine j_iload_n hC 1 dX0_selects_49 rfl rfl ?_
        refine j_iconst hC dX0_selects_50 ?_
        refine j_icmp_ne hC dX0_selects_51 rfl (w_id hv1) (w_id kR_3) (fun c28 => ?_) (fun c28 => ?_)
        · have h := zf c28 h
          refine j_iload_n hC 1 dX0_selects_59 rfl rfl ?_
          refine j_iconst hC dX0_selects_60 ?_
          refine j_icmp_ne hC dX0_selects_61 rfl (w_id hv1) (w_id kR_2) (fun c29 => ?_) (fun c29 => ?_)
          · have h := zf c29 h
            refine j_iload hC 4 dX0_selects_69 rfl ?_
            refine j_iconst hC dX0_selects_71 ?_
            refine j_isub hC dX0_selects_72 ?_
            refine j_stk (st2 := [.int (zi (w (v4 - 1)))]) (by simp only [zi_w, zl_wl]) ?_
            exact J_73 v0 v1 v2 v3 v4 v5 (w (v4 - 1)) hv1 hv2 hv3 hv4 hv5 (inR_w _) M23 h
          · have h := zt c29 h
            refine j_iload hC 4 dX0_selects_64 rfl ?_
            refine j_goto hC dX0_selects_66 rfl ?_
            exact J_73 v0 v1 v2 v3 v4 v5 v4 hv1 hv2 hv3 hv4 hv5 hv4 M23 h
        · have h := zt c28 h
          refine j_iload hC 5 dX0_selects_54 rfl ?_
          refine j_goto hC dX0_selects_56 rfl ?_
          exact J_73 v0 v1 v2 v3 v4 v5 v5 hv1 hv2 hv3 hv4 hv5 hv5 M23 h
      · have h := zt c27 h
        refine j_iconst hC dX0_selects_47 ?_
        obtain ⟨e1, e2⟩ := zpr2 (Option.some.inj h)
        exact j_iret hC hE dX0_selects_48 (w_id kR_1) (zn_z zb01_1) (by rw [← e1]) e2 rfl (by rw [← e1]; exact kR_1) (Nat.le_of_ble_eq_true rfl) (Nat.le_of_ble_eq_true rfl)
    · have h := zt c26 h
      refine j_iload hC 4 dX0_selects_25 rfl ?_
      refine j_if_ne hC dX0_selects_27 rfl (w_id hv4) (fun c30 => ?_) (fun c30 => ?_)
      · have h := zf c30 h
        refine j_sub [] rfl ?_
        exact J_40 M23 h
      · have h := zt c30 h
        refine j_iload hC 5 dX0_selects_30 rfl ?_
        refine j_iload_n hC 3 dX0_selects_32 rfl rfl ?_
        refine j_icmp_ne hC dX0_selects_33 rfl (w_id hv5) (w_id hv3) (fun c31 => ?_) (fun c31 => ?_)
        · have h := zf c31 h
          refine j_sub [] rfl ?_
          exact J_40 M23 h
        · have h := zt c31 h
          refine j_iconst hC dX0_selects_36 ?_
          refine j_goto hC dX0_selects_37 rfl ?_
          obtain ⟨e1, e2⟩ := zpr2 (Option.some.inj h)
          exact j_iret hC hE dX0_selects_41 (w_id kR_1) (zn_z zb01_1) (by rw [← e1]) e2 rfl (by rw [← e1]; exact kR_1) (Nat.le_of_ble_eq_true rfl) (Nat.le_of_ble_eq_true rfl)
  · have h := zt c25 h
    refine j_iconst hC dX0_selects_19 ?_
    obtain ⟨e1, e2⟩ := zpr2 (Option.some.inj h)
    exact j_iret hC hE dX0_selects_20 (w_id kR_0) (zn_z zb01_0) (by rw [← e1]) e2 rfl (by rw [← e1]; exact kR_0) (Nat.le_of_ble_eq_true rfl) (Nat.le_of_ble_eq_true rfl)
set_option maxHeartbeats 4000000 in
set_option maxRecDepth 100000 in
theorem c_X9_join (l : Launch) (hlt : l.stackTraces = false) (g : zG) (v0 : Int) (v1 : Int) (v2 : Int) (hv0 : inR v0) (hv1 : inR v1) (hv2 : inR v2) (M : zM) (S : zS) {r : Int} (h : F_X9_join v0 v1 v2 = some r) : zMet l g yX9_join cX9_join 3 (some .int) 2 0 0 [.int (zi v0), .int (zi v1), .int (zi v2)] M S (.inl (some (.int (zi r)))) M S (inR r) := by
  refine zMet_of (by decide) hlt [(0, .int (zi v0)), (1, .int (zi v1)), (2, .int (zi v2))] rfl (Nat.le_of_ble_eq_true rfl) (fun K hC hE hN => ?_)
  unfold F_X9_join at h
  refine j_iload_n hC 0 dX9_join_0 rfl rfl ?_
  refine j_iload_n hC 2 dX9_join_1 rfl rfl ?_
  obtain ⟨r1, hy, h⟩ := zb1_ex h
  refine j_callSi hC hE lk_X9_13 dX9_join_2 (c_X9_power l hlt g v2 hv2 M S hy) [.int (zi v2)] [.int (zi v0)] rfl rfl rfl (zcat (Nat.le_of_ble_eq_true rfl)) (Nat.le_of_ble_eq_true rfl) (Nat.le_of_ble_eq_true rfl) (Nat.le_of_ble_eq_true rfl) (Nat.le_of_ble_eq_true rfl) (fun hp2 => ?_)
  have hr1 := hp2
  refine j_imul hC dX9_join_5 ?_
  refine j_iload_n hC 1 dX9_join_6 rfl rfl ?_
  refine j_iadd hC dX9_join_7 ?_
  have e1 := Option.some.inj h
  exact j_iret hC hE dX9_join_8 rfl (zn_i _) (by rw [← e1]) rfl rfl (by rw [← e1]; exact (inR_w _)) (Nat.le_of_ble_eq_true rfl) (Nat.le_of_ble_eq_true rfl)
set_option maxHeartbeats 4000000 in
set_option maxRecDepth 100000 in
theorem c_X0_putAround (l : Launch) (hlt : l.stackTraces = false) (g : zG) (v0 : Nat) (v1 : Int) (v2 : Int) (v3 : Int) (v4 : Int) (hv1 : inR v1) (hv2 : inR v2) (hv3 : inR v3) (hv4 : inR v4) (M : zM) (S : zS) (hF : zFx S) {r : Int} (h : F_X0_putAround v0 v1 v2 v3 v4 M S = some r) : zMet l g yX0_putAround cX0_putAround 6 (some .int) 3 0 0 [zr g v0, .int (zi v1), .int (zi v2), .int (zi v3), .int (zi v4)] M S (.inl (some (.int (zi r)))) M S (inR r) := by
  refine zMet_of (by decide) hlt [(0, zr g v0), (1, .int (zi v1)), (2, .int (zi v2)), (3, .int (zi v3)), (4, .int (zi v4))] (by simp only [lv_args, zr_cat, zc_i, zc_l, zc_d, zc_r] <;> rfl) (by rw [zsl_len]; simp only [List.map_cons, List.map_nil, zr_cat, zc_i, zc_l, zc_d, zc_r, List.sum_cons, List.sum_nil] <;> decide) (fun K hC hE hN => ?_)
  unfold F_X0_putAround at h
  refine j_iload_n hC 1 dX0_putAround_0 rfl rfl ?_
  refine j_iload_n hC 2 dX0_putAround_1 rfl rfl ?_
  refine j_iconst hC dX0_putAround_2 ?_
  refine j_iload_n hC 3 dX0_putAround_3 rfl rfl ?_
  obtain ⟨r1, hy, h⟩ := zb1_ex h
  refine j_callSi hC hE lk_X0_32 dX0_putAround_4 (c_X9_factor l hlt g v1 v2 0 v3 hv1 hv2 kR_0 hv3 M S hy) [.int (zi v1), .int (zi v2), .int (zi 0), .int (zi v3)] [] rfl rfl rfl (zcat (Nat.le_of_ble_eq_true rfl)) (Nat.le_of_ble_eq_true rfl) (Nat.le_of_ble_eq_true rfl) (Nat.le_of_ble_eq_true rfl) (Nat.le_of_ble_eq_true rfl) (fun hp2 => ?_)
  have hr1 := hp2
  refine j_aload_n hC 0 dX0_putAround_7 rfl rfl ?_
  obtain ⟨hk, h⟩ := zchk_ex h
  have hk3 := hk
  refine j_get hC dX0_putAround_8 f_X0_7 hk3 rfl 0 rfl (fun hg4 => ?_)
  refine j_aload_n hC 0 dX0_putAround_11 rfl rfl ?_
  obtain ⟨hk, h⟩ := zchk_ex h
  have hk5 := hk
  refine j_get hC dX0_putAround_12 f_X0_19 hk5 rfl 1 rfl (fun hg6 => ?_)
  obtain ⟨r7, hy, h⟩ := zb1_ex h
  refine j_callSi hC hE lk_X0_44 dX0_putAround_15 (c_X9_join l hlt g r1 (M v0 0) (M v0 1) hr1 hg4 hg6 M S hy) [.int (zi r1), .int (zi (M v0 0)), .int (zi (M v0 1))] [] rfl rfl rfl (zcat (Nat.le_of_ble_eq_true rfl)) (Nat.le_of_ble_eq_true rfl) (Nat.le_of_ble_eq_true rfl) (Nat.le_of_ble_eq_true rfl) (Nat.le_of_ble_eq_true rfl) (fun hp8 => ?_)
  have hr7 := hp8
  refine j_istore hC dX0_putAround_18 (Nat.le_of_ble_eq_true rfl) rfl ?_
  refine j_iload hC 0 dX0_putAround_20 rfl ?_
  refine j_iload_n hC 2 dX0_putAround_22 rfl rfl ?_
  refine j_iload_n hC 3 dX0_putAround_23 rfl rfl ?_
  refine j_iload_n hC 4 dX0_putAround_24 rfl rfl ?_
  refine j_iload hC 5 dX0_putAround_25 rfl ?_
  obtain ⟨r9, hy, h⟩ := zb1_ex h
  refine j_callSi hC hE lk_X0_32 dX0_putAround_27 (c_X9_factor l hlt g v1 v2 v3 v4 hv1 hv2 hv3 hv4 M S hy) [.int (zi v1), .int (zi v2), .int (zi v3), .int (zi v4)] [.int (zi r7)] rfl rfl rfl (zcat (Nat.le_of_ble_eq_true rfl)) (Nat.le_of_ble_eq_true rfl) (Nat.le_of_ble_eq_true rfl) (Nat.le_of_ble_eq_true rfl) (Nat.le_of_ble_eq_true rfl) (fun hp10 => ?_)
  have hr9 := hp10
  refine j_iload hC 5 dX0_putAround_30 rfl ?_
  refine j_iload_n hC 4 dX0_putAround_32 rfl rfl ?_
  refine j_isub hC dX0_putAround_33 ?_
  obtain ⟨r11, hy, h⟩ := zb1_ex h
  refine j_callSi hC hE lk_X0_44 dX0_putAround_34 (c_X9_join l hlt g r7 r9 (w (v4 - v3)) hr7 hr9 (inR_w _) M S hy) [.int (zi r7), .int (zi r9), .int (zi (v4 - v3))] [] rfl (by simp only [zi_w, zl_wl]) rfl (zcat (Nat.le_of_ble_eq_true rfl)) (Nat.le_of_ble_eq_true rfl) (Nat.le_of_ble_eq_true rfl) (Nat.le_of_ble_eq_true rfl) (Nat.le_of_ble_eq_true rfl) (fun hp12 => ?_)
  have hr11 := hp12
  refine j_istore hC dX0_putAround_37 (Nat.le_of_ble_eq_true rfl) rfl ?_
  refine j_iload hC 0 dX0_putAround_39 rfl ?_
  refine j_aload_n hC 1 dX0_putAround_41 rfl rfl ?_
  obtain ⟨hk, h⟩ := zchk_ex h
  have hk13 := hk
  refine j_get hC dX0_putAround_42 f_X0_22 hk13 rfl 2 rfl (fun hg14 => ?_)
  refine j_aload_n hC 1 dX0_putAround_45 rfl rfl ?_
  obtain ⟨hk, h⟩ := zchk_ex h
  have hk15 := hk
  refine j_get hC dX0_putAround_46 f_X0_25 hk15 rfl 3 rfl (fun hg16 => ?_)
  obtain ⟨r17, hy, h⟩ := zb1_ex h
  refine j_callSi hC hE lk_X0_44 dX0_putAround_49 (c_X9_join l hlt g r11 (M v0 2) (M v0 3) hr11 hg14 hg16 M S hy) [.int (zi r11), .int (zi (M v0 2)), .int (zi (M v0 3))] [] rfl rfl rfl (zcat (Nat.le_of_ble_eq_true rfl)) (Nat.le_of_ble_eq_true rfl) (Nat.le_of_ble_eq_true rfl) (Nat.le_of_ble_eq_true rfl) (Nat.le_of_ble_eq_true rfl) (fun hp18 => ?_)
  have hr17 := hp18
  refine j_istore hC dX0_putAround_52 (Nat.le_of_ble_eq_true rfl) rfl ?_
  refine j_iload hC 0 dX0_putAround_54 rfl ?_
  refine j_iload_n hC 2 dX0_putAround_56 rfl rfl ?_
  refine j_iload_n hC 3 dX0_putAround_57 rfl rfl ?_
  refine j_iload hC 5 dX0_putAround_58 rfl ?_
  refine j_iload_n hC 3 dX0_putAround_60 rfl rfl ?_
  obtain ⟨r19, hy, h⟩ := zb1_ex h
  refine j_callSi hC hE lk_X0_32 dX0_putAround_61 (c_X9_factor l hlt g v1 v2 v4 v2 hv1 hv2 hv4 hv2 M S hy) [.int (zi v1), .int (zi v2), .int (zi v4), .int (zi v2)] [.int (zi r17)] rfl rfl rfl (zcat (Nat.le_of_ble_eq_true rfl)) (Nat.le_of_ble_eq_true rfl) (Nat.le_of_ble_eq_true rfl) (Nat.le_of_ble_eq_true rfl) (Nat.le_of_ble_eq_true rfl) (fun hp20 => ?_)
  have hr19 := hp20
  refine j_iload_n hC 3 dX0_putAround_64 rfl rfl ?_
  refine j_iload hC 5 dX0_putAround_65 rfl ?_
  refine j_isub hC dX0_putAround_67 ?_
  obtain ⟨r21, hy, h⟩ := zb1_ex h
  refine j_callSi hC hE lk_X0_44 dX0_putAround_68 (c_X9_join l hlt g r17 r19 (w (v2 - v4)) hr17 hr19 (inR_w _) M S hy) [.int (zi r17), .int (zi r19), .int (zi (v2 - v4))] [] rfl (by simp only [zi_w, zl_wl]) rfl (zcat (Nat.le_of_ble_eq_true rfl)) (Nat.le_of_ble_eq_true rfl) (Nat.le_of_ble_eq_true rfl) (Nat.le_of_ble_eq_true rfl) (Nat.le_of_ble_eq_true rfl) (fun hp22 => ?_)
  have hr21 := hp22
  have e1 := Option.some.inj h
  exact j_iret hC hE dX0_putAround_71 (w_id hr21) (zn_i _) (by rw [← e1]) rfl rfl (by rw [← e1]; exact hr21) (Nat.le_of_ble_eq_true rfl) (Nat.le_of_ble_eq_true rfl)
set_option maxHeartbeats 4000000 in
set_option maxRecDepth 100000 in
theorem c_X0_leftStandsAt (l : Launch) (hlt : l.stackTraces = false) (g : zG) (v0 : Nat) (v1 : Int) (v2 : Int) (v3 : Int) (hv1 : inR v1) (hv2 : inR v2) (hv3 : inR v3) (M : zM) (S : zS) (hF : zFx S) {r : Int} (h : F_X0_leftStandsAt v0 v1 v2 v3 M S = some r) : zMet l g yX0_leftStandsAt cX0_leftStandsAt 4 (some .boolean) 3 0 0 [zr g v0, .int (zi v1), .int (zi v2), .int (zi v3)] M S (.inl (some (.int (zi r)))) M S (inR r) := by
  refine zMet_of (by decide) hlt [(0, zr g v0), (1, .int (zi v1)), (2, .int (zi v2)), (3, .int (zi v3))] (by simp only [lv_args, zr_cat, zc_i, zc_l, zc_d, zc_r] <;> rfl) (by rw [zsl_len]; simp only [List.map_cons, List.map_nil, zr_cat, zc_i, zc_l, zc_d, zc_r, List.sum_cons, List.sum_nil] <;> decide) (fun K hC hE hN => ?_)
  unfold F_X0_leftStandsAt at h
  refine j_iload_n hC 1 dX0_leftStandsAt_0 rfl rfl ?_
  refine j_iload_n hC 2 dX0_leftStandsAt_1 rfl rfl ?_
  refine j_iload_n hC 3 dX0_leftStandsAt_2 rfl rfl ?_
  refine j_iload_n hC 3 dX0_leftStandsAt_3 rfl rfl ?_
  refine j_aload_n hC 0 dX0_leftStandsAt_4 rfl rfl ?_
  obtain ⟨hk, h⟩ := zchk_ex h
  have hk1 := hk
  refine j_get hC dX0_leftStandsAt_5 f_X0_19 hk1 rfl 1 rfl (fun hg2 => ?_)
  refine j_iadd hC dX0_leftStandsAt_8 ?_
  obtain ⟨r3, hy, h⟩ := zb1_ex h
  refine j_callSi hC hE lk_X0_32 dX0_leftStandsAt_9 (c_X9_factor l hlt g v1 v2 v3 (w (v3 + (M v0 1))) hv1 hv2 hv3 (inR_w _) M S hy) [.int (zi v1), .int (zi v2), .int (zi v3), .int (zi (v3 + (M v0 1)))] [] rfl (by simp only [zi_w, zl_wl]) rfl (zcat (Nat.le_of_ble_eq_true rfl)) (Nat.le_of_ble_eq_true rfl) (Nat.le_of_ble_eq_true rfl) (Nat.le_of_ble_eq_true rfl) (Nat.le_of_ble_eq_true rfl) (fun hp4 => ?_)
  have hr3 := hp4
  refine j_aload_n hC 0 dX0_leftStandsAt_12 rfl rfl ?_
  obtain ⟨hk, h⟩ := zchk_ex h
  have hk5 := hk
  refine j_get hC dX0_leftStandsAt_13 f_X0_7 hk5 rfl 0 rfl (fun hg6 => ?_)
  refine j_icmp_ne hC dX0_leftStandsAt_16 rfl (w_id hr3) (w_id hg6) (fun c7 => ?_) (fun c7 => ?_)
  · have h := zf c7 h
    refine j_iconst hC dX0_leftStandsAt_23 ?_
    have e1 := Option.some.inj h
    exact j_iret hC hE dX0_leftStandsAt_24 (w_id kR_0) (zn_z zb01_0) (by rw [← e1]) rfl rfl (by rw [← e1]; exact kR_0) (Nat.le_of_ble_eq_true rfl) (Nat.le_of_ble_eq_true rfl)
  · have h := zt c7 h
    refine j_iconst hC dX0_leftStandsAt_19 ?_
    refine j_goto hC dX0_leftStandsAt_20 rfl ?_
    have e1 := Option.some.inj h
    exact j_iret hC hE dX0_leftStandsAt_24 (w_id kR_1) (zn_z zb01_1) (by rw [← e1]) rfl rfl (by rw [← e1]; exact kR_1) (Nat.le_of_ble_eq_true rfl) (Nat.le_of_ble_eq_true rfl)
set_option maxHeartbeats 4000000 in
set_option maxRecDepth 100000 in
theorem c_X0_takeAway (l : Launch) (hlt : l.stackTraces = false) (g : zG) (v0 : Nat) (v1 : Int) (v2 : Int) (v3 : Int) (v4 : Int) (hv1 : inR v1) (hv2 : inR v2) (hv3 : inR v3) (hv4 : inR v4) (M : zM) (S : zS) (hF : zFx S) {r : Int} (h : F_X0_takeAway v0 v1 v2 v3 v4 M S = some r) : zMet l g yX0_takeAway cX0_takeAway 8 (some .int) 3 0 0 [zr g v0, .int (zi v1), .int (zi v2), .int (zi v3), .int (zi v4)] M S (.inl (some (.int (zi r)))) M S (inR r) := by
  refine zMet_of (by decide) hlt [(0, zr g v0), (1, .int (zi v1)), (2, .int (zi v2)), (3, .int (zi v3)), (4, .int (zi v4))] (by simp only [lv_args, zr_cat, zc_i, zc_l, zc_d, zc_r] <;> rfl) (by rw [zsl_len]; simp only [List.map_cons, List.map_nil, zr_cat, zc_i, zc_l, zc_d, zc_r, List.sum_cons, List.sum_nil] <;> decide) (fun K hC hE hN => ?_)
  unfold F_X0_takeAway at h
  refine j_iload hC 4 dX0_takeAway_0 rfl ?_
  refine j_aload_n hC 0 dX0_takeAway_2 rfl rfl ?_
  obtain ⟨hk, h⟩ := zchk_ex h
  have hk1 := hk
  obtain ⟨r2, hy, h⟩ := zb1_ex h
  refine j_callVi (ci := 0) hC hE lk_X0_48 dX0_takeAway_3 (c_X0_growth l hlt g v0 M S hF hy) [] [.int (zi v4)] hk1 ⟨_, rfl, by decide, rfl⟩ rfl rfl rfl (zcat (Nat.le_of_ble_eq_true rfl)) (Nat.le_of_ble_eq_true rfl) (Nat.le_of_ble_eq_true rfl) (Nat.le_of_ble_eq_true rfl) (Nat.le_of_ble_eq_true rfl) (fun hp3 => ?_)
  have hr2 := hp3
  refine j_iadd hC dX0_takeAway_6 ?_
  obtain ⟨x4, ex4, h⟩ := zlet_ex h
  have hx4 : inR x4 := by rw [ex4]; exact inR_w _
  refine j_namei ex4 ?_
  refine j_istore hC dX0_takeAway_7 (Nat.le_of_ble_eq_true rfl) rfl ?_
  refine j_iload_n hC 2 dX0_takeAway_9 rfl rfl ?_
  refine j_iload_n hC 3 dX0_takeAway_10 rfl rfl ?_
  refine j_iload hC 0 dX0_takeAway_11 rfl ?_
  refine j_aload_n hC 1 dX0_takeAway_13 rfl rfl ?_
  obtain ⟨hk, h⟩ := zchk_ex h
  have hk5 := hk
  refine j_get hC dX0_takeAway_14 f_X0_25 hk5 rfl 3 rfl (fun hg6 => ?_)
  refine j_isub hC dX0_takeAway_17 ?_
  refine j_iload hC 0 dX0_takeAway_18 rfl ?_
  obtain ⟨r7, hy, h⟩ := zb1_ex h
  refine j_callSi hC hE lk_X0_32 dX0_takeAway_20 (c_X9_factor l hlt g v1 v2 (w (x4 - (M v0 3))) x4 hv1 hv2 (inR_w _) hx4 M S hy) [.int (zi v1), .int (zi v2), .int (zi (x4 - (M v0 3))), .int (zi x4)] [] rfl (by simp only [zi_w, zl_wl]) rfl (zcat (Nat.le_of_ble_eq_true rfl)) (Nat.le_of_ble_eq_true rfl) (Nat.le_of_ble_eq_true rfl) (Nat.le_of_ble_eq_true rfl) (Nat.le_of_ble_eq_true rfl) (fun hp8 => ?_)
  have hr7 := hp8
  refine j_aload_n hC 1 dX0_takeAway_23 rfl rfl ?_
  obtain ⟨hk, h⟩ := zchk_ex h
  have hk9 := hk
  refine j_get hC dX0_takeAway_24 f_X0_22 hk9 rfl 2 rfl (fun hg10 => ?_)
  refine j_icmp_eq hC dX0_takeAway_27 rfl (w_id hr7) (w_id hg10) (fun c11 => ?_) (fun c11 => ?_)
  · have h := zt c11 h
    refine j_iload_n hC 2 dX0_takeAway_32 rfl rfl ?_
    refine j_iload_n hC 3 dX0_takeAway_33 rfl rfl ?_
    refine j_iconst hC dX0_takeAway_34 ?_
    refine j_iload_n hC 4 dX0_takeAway_35 rfl rfl ?_
    obtain ⟨r12, hy, h⟩ := zb1_ex h
    refine j_callSi hC hE lk_X0_32 dX0_takeAway_36 (c_X9_factor l hlt g v1 v2 0 v3 hv1 hv2 kR_0 hv3 M S hy) [.int (zi v1), .int (zi v2), .int (zi 0), .int (zi v3)] [] rfl rfl rfl (zcat (Nat.le_of_ble_eq_true rfl)) (Nat.le_of_ble_eq_true rfl) (Nat.le_of_ble_eq_true rfl) (Nat.le_of_ble_eq_true rfl) (Nat.le_of_ble_eq_true rfl) (fun hp13 => ?_)
    have hr12 := hp13
    refine j_istore hC dX0_takeAway_39 (Nat.le_of_ble_eq_true rfl) rfl ?_
    refine j_iload hC 0 dX0_takeAway_41 rfl ?_
    refine j_iload_n hC 3 dX0_takeAway_43 rfl rfl ?_
    refine j_iload_n hC 4 dX0_takeAway_44 rfl rfl ?_
    refine j_iload_n hC 5 dX0_takeAway_45 rfl rfl ?_
    refine j_aload_n hC 2 dX0_takeAway_46 rfl rfl ?_
    obtain ⟨hk, h⟩ := zchk_ex h
    have hk14 := hk
    refine j_get hC dX0_takeAway_47 f_X0_19 hk14 rfl 1 rfl (fun hg15 => ?_)
    refine j_iadd hC dX0_takeAway_50 ?_
    refine j_iload hC 6 dX0_takeAway_51 rfl ?_
    refine j_aload_n hC 2 dX0_takeAway_53 rfl rfl ?_
    obtain ⟨hk, h⟩ := zchk_ex h
    have hk16 := hk
    refine j_get hC dX0_takeAway_54 f_X0_19 hk16 rfl 1 rfl (fun hg17 => ?_)
    refine j_iadd hC dX0_takeAway_57 ?_
    obtain ⟨r18, hy, h⟩ := zb1_ex h
    refine j_callSi hC hE lk_X0_32 dX0_takeAway_58 (c_X9_factor l hlt g v1 v2 (w (v3 + (M v0 1))) (w (v4 + (M v0 1))) hv1 hv2 (inR_w _) (inR_w _) M S hy) [.int (zi v1), .int (zi v2), .int (zi (v3 + (M v0 1))), .int (zi (v4 + (M v0 1)))] [.int (zi r12)] rfl (by simp only [zi_w, zl_wl]) rfl (zcat (Nat.le_of_ble_eq_true rfl)) (Nat.le_of_ble_eq_true rfl) (Nat.le_of_ble_eq_true rfl) (Nat.le_of_ble_eq_true rfl) (Nat.le_of_ble_eq_true rfl) (fun hp19 => ?_)
    have hr18 := hp19
    refine j_iload hC 6 dX0_takeAway_61 rfl ?_
    refine j_iload_n hC 5 dX0_takeAway_63 rfl rfl ?_
    refine j_isub hC dX0_takeAway_64 ?_
    obtain ⟨r20, hy, h⟩ := zb1_ex h
    refine j_callSi hC hE lk_X0_44 dX0_takeAway_65 (c_X9_join l hlt g r12 r18 (w (v4 - v3)) hr12 hr18 (inR_w _) M S hy) [.int (zi r12), .int (zi r18), .int (zi (v4 - v3))] [] rfl (by simp only [zi_w, zl_wl]) rfl (zcat (Nat.le_of_ble_eq_true rfl)) (Nat.le_of_ble_eq_true rfl) (Nat.le_of_ble_eq_true rfl) (Nat.le_of_ble_eq_true rfl) (Nat.le_of_ble_eq_true rfl) (fun hp21 => ?_)
    have hr20 := hp21
    refine j_istore hC dX0_takeAway_68 (Nat.le_of_ble_eq_true rfl) rfl ?_
    refine j_iload hC 0 dX0_takeAway_70 rfl ?_
    refine j_iload_n hC 4 dX0_takeAway_72 rfl rfl ?_
    refine j_iload_n hC 5 dX0_takeAway_73 rfl rfl ?_
    refine j_iload hC 2 dX0_takeAway_74 rfl ?_
    refine j_iload_n hC 5 dX0_takeAway_76 rfl rfl ?_
    obtain ⟨r22, hy, h⟩ := zb1_ex h
    refine j_callSi hC hE lk_X0_32 dX0_takeAway_77 (c_X9_factor l hlt g v1 v2 x4 v2 hv1 hv2 hx4 hv2 M S hy) [.int (zi v1), .int (zi v2), .int (zi x4), .int (zi v2)] [.int (zi r20)] rfl rfl rfl (zcat (Nat.le_of_ble_eq_true rfl)) (Nat.le_of_ble_eq_true rfl) (Nat.le_of_ble_eq_true rfl) (Nat.le_of_ble_eq_true rfl) (Nat.le_of_ble_eq_true rfl) (fun hp23 => ?_)
    have hr22 := hp23
    refine j_iload_n hC 5 dX0_takeAway_80 rfl rfl ?_
    refine j_iload hC 2 dX0_takeAway_81 rfl ?_
    refine j_isub hC dX0_takeAway_83 ?_
    obtain ⟨r24, hy, h⟩ := zb1_ex h
    refine j_callSi hC hE lk_X0_44 dX0_takeAway_84 (c_X9_join l hlt g r20 r22 (w (v2 - x4)) hr20 hr22 (inR_w _) M S hy) [.int (zi r20), .int (zi r22), .int (zi (v2 - x4))] [] rfl (by simp only [zi_w, zl_wl]) rfl (zcat (Nat.le_of_ble_eq_true rfl)) (Nat.le_of_ble_eq_true rfl) (Nat.le_of_ble_eq_true rfl) (Nat.le_of_ble_eq_true rfl) (Nat.le_of_ble_eq_true rfl) (fun hp25 => ?_)
    have hr24 := hp25
    have e1 := Option.some.inj h
    exact j_iret hC hE dX0_takeAway_87 (w_id hr24) (zn_i _) (by rw [← e1]) rfl rfl (by rw [← e1]; exact hr24) (Nat.le_of_ble_eq_true rfl) (Nat.le_of_ble_eq_true rfl)
  · have h := zf c11 h
    refine j_iconst hC dX0_takeAway_30 ?_
    have e1 := Option.some.inj h
    exact j_iret hC hE dX0_takeAway_31 (w_id kR_m1) (zn_i _) (by rw [← e1]) rfl rfl (by rw [← e1]; exact kR_m1) (Nat.le_of_ble_eq_true rfl) (Nat.le_of_ble_eq_true rfl)
set_option maxHeartbeats 4000000 in
set_option maxRecDepth 100000 in
theorem c_X1_init (l : Launch) (hlt : l.stackTraces = false) (g : zG) (v0 : Nat) (M : zM) (S : zS) {S' : zS} (h : F_X1_init v0 S = some S') : zMet l g yX1_init cX1_init 1 none 3 2 120 [zr g v0] M S (.inl none) M S' (True) := by
  refine zMet_of (by decide) hlt [(0, zr g v0)] (by simp only [lv_args, zr_cat, zc_i, zc_l, zc_d, zc_r] <;> rfl) (by rw [zsl_len]; simp only [List.map_cons, List.map_nil, zr_cat, zc_i, zc_l, zc_d, zc_r, List.sum_cons, List.sum_nil] <;> decide) (fun K hC hE hN => ?_)
  unfold F_X1_init at h
  refine j_aload_n hC 0 dX1_init_0 rfl rfl ?_
  obtain ⟨c1, h⟩ := zchk_ex h
  refine j_objI hC hE dX1_init_1 k86 k79 k80 c1 (Nat.le_of_ble_eq_true rfl) (Nat.le_of_ble_eq_true rfl) ?_
  refine j_aload_n hC 0 dX1_init_4 rfl rfl ?_
  refine j_bipush hC dX1_init_5 rfl ?_
  obtain ⟨q2, eq2, h⟩ := zlet_ex h
  obtain ⟨c3, h⟩ := zchk_ex h
  obtain ⟨S4, eS4, h⟩ := zlet_ex h
  refine j_newa23 (N := 60) (mx := 60) hC hE ka_23 dX1_init_7 (w_id kR_60) rfl (Nat.le_of_ble_eq_true rfl) (Nat.le_of_ble_eq_true rfl) eq2 eS4 (Or.inl c3) (Nat.le_of_ble_eq_true rfl) (Nat.le_of_ble_eq_true rfl) ?_
  obtain ⟨hk, h⟩ := zchk_ex h
  have hk5 := hk
  obtain ⟨S6, eS6, h⟩ := zlet_ex h
  refine j_putq hC hE dX1_init_9 f_X1_9 pF_X1 hk5 rfl rfl rfl 0 rfl eS6 ?_
  refine j_aload_n hC 0 dX1_init_12 rfl rfl ?_
  refine j_bipush hC dX1_init_13 rfl ?_
  obtain ⟨q7, eq7, h⟩ := zlet_ex h
  obtain ⟨c8, h⟩ := zchk_ex h
  obtain ⟨S9, eS9, h⟩ := zlet_ex h
  refine j_newa20 (N := 60) (mx := 60) hC hE ka_20 dX1_init_15 (w_id kR_60) rfl (Nat.le_of_ble_eq_true rfl) (Nat.le_of_ble_eq_true rfl) eq7 eS9 (Or.inl c8) (Nat.le_of_ble_eq_true rfl) (Nat.le_of_ble_eq_true rfl) ?_
  obtain ⟨hk, h⟩ := zchk_ex h
  have hk10 := hk
  obtain ⟨S11, eS11, h⟩ := zlet_ex h
  refine j_putq hC hE dX1_init_17 f_X1_13 pF_X1 hk10 rfl rfl rfl 1 rfl eS11 ?_
  have e1 := Option.some.inj h
  exact j_vret hC hE dX1_init_20 rfl rfl e1 trivial (Nat.le_of_ble_eq_true rfl) (Nat.le_of_ble_eq_true rfl)
set_option maxHeartbeats 4000000 in
set_option maxRecDepth 100000 in
theorem c_X1_accept (l : Launch) (hlt : l.stackTraces = false) (g : zG) (v1 : Int) (hv1 : inR v1) (M : zM) (S : zS) (hF : zFx S) {r : Int} {M' : zM} (h : F_X1_accept v1 M = some (r, M')) : zMet l g yX1_accept cX1_accept 2 (some .boolean) 1 0 0 [zr g 2, .int (zi v1)] M S (.inl (some (.int (zi r)))) M' S (inR r) := by
  refine zMet_of (by decide) hlt [(0, zr g 2), (1, .int (zi v1))] rfl (Nat.le_of_ble_eq_true rfl) (fun K hC hE hN => ?_)
  unfold F_X1_accept at h
  refine j_aload_n hC 0 dX1_accept_0 rfl rfl ?_
  refine j_get hC dX1_accept_1 f_X1_17 (zFx_kd hF 2 rfl) rfl 3 rfl (fun hg1 => ?_)
  refine j_if_lt hC dX1_accept_4 rfl (w_id hg1) (fun c2 => ?_) (fun c2 => ?_)
  · have h := zt c2 h
    refine j_iconst hC dX1_accept_19 ?_
    obtain ⟨e1, e2⟩ := zpr2 (Option.some.inj h)
    exact j_iret hC hE dX1_accept_20 (w_id kR_0) (zn_z zb01_0) (by rw [← e1]) e2 rfl (by rw [← e1]; exact kR_0) (Nat.le_of_ble_eq_true rfl) (Nat.le_of_ble_eq_true rfl)
  · have h := zf c2 h
    refine j_aload_n hC 0 dX1_accept_7 rfl rfl ?_
    refine j_get hC dX1_accept_8 f_X1_17 (zFx_kd hF 2 rfl) rfl 3 rfl (fun hg3 => ?_)
    refine j_aload_n hC 0 dX1_accept_11 rfl rfl ?_
    refine j_getq (q := 3) hC dX1_accept_12 f_X1_9 (zFx_kd hF 2 rfl) rfl 0 rfl (zFx_rf hF 2 0 rfl) ?_
    refine j_alen (k := 23) (n := 60) hC dX1_accept_15 (zFx_kd hF 3 rfl) (Nat.le_of_ble_eq_true rfl) (Nat.le_of_ble_eq_true rfl) (zFx_ln hF 3 rfl) (fun _ => ?_)
    refine j_icmp_lt hC dX1_accept_16 rfl (w_id hg3) (w_id kR_60) (fun c4 => ?_) (fun c4 => ?_)
    · have h := zt c4 h
      refine j_aload_n hC 0 dX1_accept_21 rfl rfl ?_
      refine j_getq (q := 3) hC dX1_accept_22 f_X1_9 (zFx_kd hF 2 rfl) rfl 0 rfl (zFx_rf hF 2 0 rfl) ?_
      refine j_aload_n hC 0 dX1_accept_25 rfl rfl ?_
      refine j_get hC dX1_accept_26 f_X1_17 (zFx_kd hF 2 rfl) rfl 3 rfl (fun hg5 => ?_)
      refine j_iload_n hC 1 dX1_accept_29 rfl rfl ?_
      obtain ⟨c6, h⟩ := zchk_ex h
      obtain ⟨c7, h⟩ := zchk_ex h
      obtain ⟨M8, eM8, h⟩ := zlet_ex h
      refine j_cast (n := 60) hC dX1_accept_30 (w_id hg5) (w_id hv1) c7 (zFx_kd hF 3 rfl) (zFx_ln hF 3 rfl) c6.1 c6.2 eM8 ?_
      refine j_aload_n hC 0 dX1_accept_31 rfl rfl ?_
      refine j_dup hC dX1_accept_32 (zr_cat _ _) ?_
      refine j_get hC dX1_accept_33 f_X1_17 (zFx_kd hF 2 rfl) rfl 3 rfl (fun hg9 => ?_)
      refine j_iconst hC dX1_accept_36 ?_
      refine j_iadd hC dX1_accept_37 ?_
      obtain ⟨M10, eM10, h⟩ := zlet_ex h
      refine j_put hC dX1_accept_38 f_X1_17 pF_X1 (zFx_kd hF 2 rfl) (Or.inl rfl) rfl 3 rfl rfl (inR_w _) eM10 ?_
      refine j_iconst hC dX1_accept_41 ?_
      obtain ⟨e1, e2⟩ := zpr2 (Option.some.inj h)
      exact j_iret hC hE dX1_accept_42 (w_id kR_1) (zn_z zb01_1) (by rw [← e1]) e2 rfl (by rw [← e1]; exact kR_1) (Nat.le_of_ble_eq_true rfl) (Nat.le_of_ble_eq_true rfl)
    · have h := zf c4 h
      refine j_iconst hC dX1_accept_19 ?_
      obtain ⟨e1, e2⟩ := zpr2 (Option.some.inj h)
      exact j_iret hC hE dX1_accept_20 (w_id kR_0) (zn_z zb01_0) (by rw [← e1]) e2 rfl (by rw [← e1]; exact kR_0) (Nat.le_of_ble_eq_true rfl) (Nat.le_of_ble_eq_true rfl)
set_option maxHeartbeats 4000000 in
set_option maxRecDepth 100000 in
theorem c_X1_empty (l : Launch) (hlt : l.stackTraces = false) (g : zG) (M : zM) (S : zS) (hF : zFx S) {M' : zM} (h : F_X1_empty M = some M') : zMet l g yX1_empty cX1_empty 1 none 1 0 0 [zr g 2] M S (.inl none) M' S (True) := by
  refine zMet_of (by decide) hlt [(0, zr g 2)] rfl (Nat.le_of_ble_eq_true rfl) (fun K hC hE hN => ?_)
  unfold F_X1_empty at h
  refine j_aload_n hC 0 dX1_empty_0 rfl rfl ?_
  refine j_iconst hC dX1_empty_1 ?_
  obtain ⟨M1, eM1, h⟩ := zlet_ex h
  refine j_put hC dX1_empty_2 f_X1_17 pF_X1 (zFx_kd hF 2 rfl) (Or.inl rfl) rfl 3 rfl (w_id kR_0) kR_0 eM1 ?_
  have e1 := Option.some.inj h
  exact j_vret hC hE dX1_empty_5 rfl e1 rfl trivial (Nat.le_of_ble_eq_true rfl) (Nat.le_of_ble_eq_true rfl)
set_option maxHeartbeats 4000000 in
set_option maxRecDepth 100000 in
theorem c_J7_copyOf_59c91 (l : Launch) (hlt : l.stackTraces = false) (g : zG) (v0 : Nat) (v1 : Int) (hv1 : inR v1) (M : zM) (S : zS) (hF : zFx S) {r : Nat} {M' : zM} {S' : zS} (h : F_J7_copyOf_59c91 v0 v1 M S = some (r, M', S')) : zMet l g yJ7_copyOf_59c91 cJ7_copyOf_59c91 3 (some (.array .int)) 3 1 100 [zr g v0, .int (zi v1)] M S (.inl (some (zr g r))) M' S' (zFx S') := by
  refine zMet_of (by decide) hlt [(0, zr g v0), (1, .int (zi v1))] (by simp only [lv_args, zr_cat, zc_i, zc_l, zc_d, zc_r] <;> rfl) (by rw [zsl_len]; simp only [List.map_cons, List.map_nil, zr_cat, zc_i, zc_l, zc_d, zc_r, List.sum_cons, List.sum_nil] <;> decide) (fun K hC hE hN => ?_)
  unfold F_J7_copyOf_59c91 at h
  refine j_iload_n hC 1 dJ7_copyOf_59c91_0 rfl rfl ?_
  refine j_aload_n hC 0 dJ7_copyOf_59c91_1 rfl rfl ?_
  obtain ⟨hk, h⟩ := zchk_ex h
  have hk1 := hk
  refine j_alen (k := 20) (n := (zlen S v0)) hC dJ7_copyOf_59c91_2 hk1 (Nat.le_of_ble_eq_true rfl) (Nat.le_of_ble_eq_true rfl) rfl (fun hl2 => ?_)
  refine j_icmp_ne hC dJ7_copyOf_59c91_3 rfl (w_id hv1) (w_id hl2) (fun c3 => ?_) (fun c3 => ?_)
  · have h := zf c3 h
    refine j_iload_n hC 1 dJ7_copyOf_59c91_14 rfl rfl ?_
    obtain ⟨c4, h⟩ := zchk_ex h
    obtain ⟨q5, eq5, h⟩ := zlet_ex h
    obtain ⟨S6, eS6, h⟩ := zlet_ex h
    refine j_newa20 (N := v1.toNat) (mx := 60) hC hE ka_20 dJ7_copyOf_59c91_15 (w_id hv1) (Int.toNat_of_nonneg c4.1) (by omega) (Nat.le_of_ble_eq_true rfl) eq5 eS6 (Or.inr ⟨zFx_cnt hF, (by omega)⟩) (Nat.le_of_ble_eq_true rfl) (Nat.le_of_ble_eq_true rfl) ?_
    have hF7 : zFx S6 := zFx_zn hF eS6
    refine j_astore_n hC dJ7_copyOf_59c91_17 rfl (Nat.le_of_ble_eq_true rfl) rfl ?_
    refine j_aload_n hC 1 dJ7_copyOf_59c91_18 rfl rfl ?_
    refine j_iconst hC dJ7_copyOf_59c91_19 ?_
    refine j_aload_n hC 0 dJ7_copyOf_59c91_20 rfl rfl ?_
    refine j_iconst hC dJ7_copyOf_59c91_21 ?_
    refine j_aload_n hC 1 dJ7_copyOf_59c91_22 rfl rfl ?_
    obtain ⟨hk, h⟩ := zchk_ex h
    have hk8 := hk
    refine j_alen (k := 20) (n := (zlen S6 v0)) hC dJ7_copyOf_59c91_23 hk8 (Nat.le_of_ble_eq_true rfl) (Nat.le_of_ble_eq_true rfl) rfl (fun hl9 => ?_)
    refine j_iload_n hC 2 dJ7_copyOf_59c91_24 rfl rfl ?_
    refine j_mmin hC hE lk_J7_304 dJ7_copyOf_59c91_25 (w_id hl9) (w_id hv1) (Nat.le_of_ble_eq_true rfl) (Nat.le_of_ble_eq_true rfl) (Nat.le_of_ble_eq_true rfl) (Nat.le_of_ble_eq_true rfl) ?_
    obtain ⟨hk, h⟩ := zchk_ex h
    have hk10 := hk
    obtain ⟨hk, h⟩ := zchk_ex h
    have hk11 := hk
    obtain ⟨c12, h⟩ := zchk_ex h
    obtain ⟨M13, eM13, h⟩ := zlet_ex h
    refine j_copy (l1 := (zlen S6 v0)) (l2 := (zlen S6 q5)) hC hE lk_J7_150 dJ7_copyOf_59c91_28 hk10 hk11 rfl rfl (w_id kR_0) (w_id kR_0) (w_id (cR_zmin hl9 hv1)) c12 eM13 (Nat.le_of_ble_eq_true rfl) (Nat.le_of_ble_eq_true rfl) ?_
    refine j_aload_n hC 0 dJ7_copyOf_59c91_31 rfl rfl ?_
    obtain ⟨e1, e2, e3⟩ := zpr3 (Option.some.inj h)
    exact j_aret hC hE dJ7_copyOf_59c91_32 (by rw [← e1]) e2 e3 (by rw [← e3]; exact hF7) (Nat.le_of_ble_eq_true rfl) (Nat.le_of_ble_eq_true rfl)
  · have h := zt c3 h
    refine j_aload_n hC 0 dJ7_copyOf_59c91_6 rfl rfl ?_
    obtain ⟨hk, h⟩ := zchk_ex h
    have hk14 := hk
    obtain ⟨c15, h⟩ := zchk_ex h
    obtain ⟨q16, eq16, h⟩ := zlet_ex h
    obtain ⟨S17, eS17, h⟩ := zlet_ex h
    obtain ⟨M18, eM18, h⟩ := zlet_ex h
    refine j_clone hC hE lk_J7_316 dJ7_copyOf_59c91_7 hk14 c15 eq16 eS17 eM18 (Or.inr ⟨zFx_cnt hF, (by omega)⟩) (Nat.le_of_ble_eq_true rfl) (Nat.le_of_ble_eq_true rfl) (Nat.le_of_ble_eq_true rfl) (Nat.le_of_ble_eq_true rfl) ?_
    have hF19 : zFx S17 := zFx_zn hF eS17
    obtain ⟨hk, h⟩ := zchk_ex h
    have hk20 := hk
    refine j_ckcast hC ca_J7_317 dJ7_copyOf_59c91_10 hk20 ?_
    obtain ⟨e1, e2, e3⟩ := zpr3 (Option.some.inj h)
    exact j_aret hC hE dJ7_copyOf_59c91_13 (by rw [← e1]) e2 e3 (by rw [← e3]; exact hF19) (Nat.le_of_ble_eq_true rfl) (Nat.le_of_ble_eq_true rfl)
set_option maxHeartbeats 4000000 in
set_option maxRecDepth 100000 in
theorem c_X1_selectorProgram (l : Launch) (hlt : l.stackTraces = false) (g : zG) (M : zM) (S : zS) (hF : zFx S) {r : Nat} {M' : zM} {S' : zS} (h : F_X1_selectorProgram M S = some (r, M', S')) : zMet l g yX1_selectorProgram cX1_selectorProgram 1 (some (.array .int)) 4 1 100 [zr g 2] M S (.inl (some (zr g r))) M' S' (zFx S') := by
  refine zMet_of (by decide) hlt [(0, zr g 2)] rfl (Nat.le_of_ble_eq_true rfl) (fun K hC hE hN => ?_)
  unfold F_X1_selectorProgram at h
  have J_19 : ∀ (t1 : Int) (ht1 : inR t1) (M : zM) (S : zS) (hF : zFx S) (_ : F_X1_selectorProgram_J19 t1 M S = some (r, M', S')), zJ K g 0 0 19 1 [] [.int (zi t1), zr g 4] M S := by
    intro t1 ht1 M S hF h
    unfold F_X1_selectorProgram_J19 at h
    obtain ⟨r1, M2, S3, hy, h⟩ := zb3_ex h
    refine j_callSr hC hE lk_X1_24 dX1_selectorProgram_19 (c_J7_copyOf_59c91 l hlt g 4 t1 ht1 M S hF hy) [zr g 4, .int (zi t1)] [] rfl rfl rfl (zcat (Nat.le_of_ble_eq_true rfl)) (Nat.le_of_ble_eq_true rfl) (Nat.le_of_ble_eq_true rfl) (Nat.le_of_ble_eq_true rfl) (Nat.le_of_ble_eq_true rfl) (fun hp4 => ?_)
    have hF5 := hp4
    obtain ⟨e1, e2, e3⟩ := zpr3 (Option.some.inj h)
    exact j_aret hC hE dX1_selectorProgram_22 (by rw [← e1]) e2 e3 (by rw [← e3]; exact hF5) (Nat.le_of_ble_eq_true rfl) (Nat.le_of_ble_eq_true rfl)
  refine j_aload_n hC 0 dX1_selectorProgram_0 rfl rfl ?_
  refine j_getq (q := 4) hC dX1_selectorProgram_1 f_X1_13 (zFx_kd hF 2 rfl) rfl 1 rfl (zFx_rf hF 2 1 rfl) ?_
  refine j_aload_n hC 0 dX1_selectorProgram_4 rfl rfl ?_
  refine j_get hC dX1_selectorProgram_5 f_X1_21 (zFx_kd hF 2 rfl) rfl 2 rfl (fun hg6 => ?_)
  refine j_if_ge hC dX1_selectorProgram_8 rfl (w_id hg6) (fun c7 => ?_) (fun c7 => ?_)
  · have h := zf c7 h
    refine j_aload_n hC 0 dX1_selectorProgram_15 rfl rfl ?_
    refine j_get hC dX1_selectorProgram_16 f_X1_21 (zFx_kd hF 2 rfl) rfl 2 rfl (fun hg8 => ?_)
    refine j_sub [] rfl ?_
    exact J_19 (M 2 2) hg8 M S hF h
  · have h := zt c7 h
    refine j_iconst hC dX1_selectorProgram_11 ?_
    refine j_goto hC dX1_selectorProgram_12 rfl ?_
    refine j_sub [] rfl ?_
    exact J_19 0 kR_0 M S hF h
set_option maxHeartbeats 4000000 in
set_option maxRecDepth 100000 in
theorem c_X1_kindName (l : Launch) (hlt : l.stackTraces = false) (g : zG) (v0 : Int) (hv0 : inR v0) (M : zM) (S : zS) {r : Nat} (h : F_X1_kindName v0 = some r) : zMet l g yX1_kindName cX1_kindName 1 (some (.object "java/lang/String")) 1 0 0 [.int (zi v0)] M S (.inl (some (.ref (zk g (1 + r))))) M S (True) := by
  refine zMet_of (by decide) hlt [(0, .int (zi v0))] rfl (Nat.le_of_ble_eq_true rfl) (fun K hC hE hN => ?_)
  unfold F_X1_kindName at h
  refine j_iload_n hC 0 dX1_kindName_0 rfl rfl ?_
  by_cases c1 : v0 = 0
  · have h := zt c1 h
    refine j_tswIn hC 0 dX1_kindName_1 (w_id hv0) c1 (by decide) (by decide) rfl rfl ?_
    refine j_ldcs hC dX1_kindName_28 zss_X1_50 ?_
    have e1 := Option.some.inj h
    exact j_sret hC hE dX1_kindName_30 (by rw [← e1]) rfl rfl trivial (Nat.le_of_ble_eq_true rfl) (Nat.le_of_ble_eq_true rfl)
  have h := zf c1 h
  by_cases c2 : v0 = 1
  · have h := zt c2 h
    refine j_tswIn hC 1 dX1_kindName_1 (w_id hv0) c2 (by decide) (by decide) rfl rfl ?_
    refine j_ldcs hC dX1_kindName_31 zss_X1_52 ?_
    have e1 := Option.some.inj h
    exact j_sret hC hE dX1_kindName_33 (by rw [← e1]) rfl rfl trivial (Nat.le_of_ble_eq_true rfl) (Nat.le_of_ble_eq_true rfl)
  have h := zf c2 h
  by_cases c3 : v0 = 2
  · have h := zt c3 h
    refine j_tswIn hC 2 dX1_kindName_1 (w_id hv0) c3 (by decide) (by decide) rfl rfl ?_
    refine j_ldcs hC dX1_kindName_34 zss_X1_54 ?_
    have e1 := Option.some.inj h
    exact j_sret hC hE dX1_kindName_36 (by rw [← e1]) rfl rfl trivial (Nat.le_of_ble_eq_true rfl) (Nat.le_of_ble_eq_true rfl)
  have h := zf c3 h
  refine j_tswOut hC dX1_kindName_1 (w_id hv0) (by omega) rfl ?_
  refine j_ldcs hC dX1_kindName_37 zss_X1_56 ?_
  have e1 := Option.some.inj h
  exact j_sret hC hE dX1_kindName_39 (by rw [← e1]) rfl rfl trivial (Nat.le_of_ble_eq_true rfl) (Nat.le_of_ble_eq_true rfl)
set_option maxHeartbeats 4000000 in
set_option maxRecDepth 100000 in
theorem c_X1_characterAt (l : Launch) (hlt : l.stackTraces = false) (g : zG) (v1 : Int) (hv1 : inR v1) (M : zM) (S : zS) (hF : zFx S) {r : Int} (h : F_X1_characterAt v1 M = some r) : zMet l g yX1_characterAt cX1_characterAt 2 (some .char) 1 0 0 [zr g 2, .int (zi v1)] M S (.inl (some (.int (zi r)))) M S (inR r) := by
  refine zMet_of (by decide) hlt [(0, zr g 2), (1, .int (zi v1))] rfl (Nat.le_of_ble_eq_true rfl) (fun K hC hE hN => ?_)
  unfold F_X1_characterAt at h
  have J_21 : ∀ (_ : F_X1_characterAt_J21 M = some r), zJ K g 0 0 21 2 [] [] M S := by
    intro h
    unfold F_X1_characterAt_J21 at h
    refine j_iconst hC dX1_characterAt_21 ?_
    refine j_goto hC dX1_characterAt_22 rfl ?_
    obtain ⟨c1, h⟩ := zchk_ex h
    have e1 := Option.some.inj h
    exact j_iret hC hE dX1_characterAt_31 (w_id kR_0) (zn_c c1) (by rw [← e1]) rfl rfl (by rw [← e1]; exact kR_0) (Nat.le_of_ble_eq_true rfl) (Nat.le_of_ble_eq_true rfl)
  refine j_iload_n hC 1 dX1_characterAt_0 rfl rfl ?_
  refine j_if_lt hC dX1_characterAt_1 rfl (w_id hv1) (fun c2 => ?_) (fun c2 => ?_)
  · have h := zt c2 h
    refine j_sub [] rfl ?_
    exact J_21 h
  · have h := zf c2 h
    refine j_iload_n hC 1 dX1_characterAt_4 rfl rfl ?_
    refine j_aload_n hC 0 dX1_characterAt_5 rfl rfl ?_
    refine j_get hC dX1_characterAt_6 f_X1_17 (zFx_kd hF 2 rfl) rfl 3 rfl (fun hg3 => ?_)
    refine j_icmp_ge hC dX1_characterAt_9 rfl (w_id hv1) (w_id hg3) (fun c4 => ?_) (fun c4 => ?_)
    · have h := zf c4 h
      refine j_sub [] rfl ?_
      exact J_21 h
    · have h := zt c4 h
      refine j_iload_n hC 1 dX1_characterAt_12 rfl rfl ?_
      refine j_aload_n hC 0 dX1_characterAt_13 rfl rfl ?_
      refine j_getq (q := 3) hC dX1_characterAt_14 f_X1_9 (zFx_kd hF 2 rfl) rfl 0 rfl (zFx_rf hF 2 0 rfl) ?_
      refine j_alen (k := 23) (n := 60) hC dX1_characterAt_17 (zFx_kd hF 3 rfl) (Nat.le_of_ble_eq_true rfl) (Nat.le_of_ble_eq_true rfl) (zFx_ln hF 3 rfl) (fun _ => ?_)
      refine j_icmp_lt hC dX1_characterAt_18 rfl (w_id hv1) (w_id kR_60) (fun c5 => ?_) (fun c5 => ?_)
      · have h := zt c5 h
        refine j_aload_n hC 0 dX1_characterAt_25 rfl rfl ?_
        refine j_getq (q := 3) hC dX1_characterAt_26 f_X1_9 (zFx_kd hF 2 rfl) rfl 0 rfl (zFx_rf hF 2 0 rfl) ?_
        refine j_iload_n hC 1 dX1_characterAt_29 rfl rfl ?_
        obtain ⟨c6, h⟩ := zchk_ex h
        refine j_cald (n := 60) hC dX1_characterAt_30 (w_id hv1) (zFx_kd hF 3 rfl) (zFx_ln hF 3 rfl) c6.1 c6.2 (fun hg7 => ?_)
        obtain ⟨c8, h⟩ := zchk_ex h
        have e1 := Option.some.inj h
        exact j_iret hC hE dX1_characterAt_31 (w_id (inR_c hg7)) (zn_c c8) (by rw [← e1]) rfl rfl (by rw [← e1]; exact (inR_c hg7)) (Nat.le_of_ble_eq_true rfl) (Nat.le_of_ble_eq_true rfl)
      · have h := zf c5 h
        refine j_sub [] rfl ?_
        exact J_21 h
set_option maxHeartbeats 4000000 in
set_option maxRecDepth 100000 in
theorem c_X1_sameCharacters (l : Launch) (hlt : l.stackTraces = false) (g : zG) (v1 : Nat) (M : zM) (S : zS) (hF : zFx S) {r : Int} (h : F_X1_sameCharacters v1 M = some r) : zMet l g yX1_sameCharacters cX1_sameCharacters 4 (some .int) 8 0 0 [zr g 2, .ref (zk g (1 + v1))] M S (.inl (some (.int (zi r)))) M S (inR r) := by
  refine zMet_of (by decide) hlt [(0, zr g 2), (1, .ref (zk g (1 + v1)))] rfl (Nat.le_of_ble_eq_true rfl) (fun K hC hE hN => ?_)
  unfold F_X1_sameCharacters at h
  have J_39 : ∀ (v2 : Int) (hv2 : inR v2) (_ : F_X1_sameCharacters_J39 v2 M = some r), zJ K g 0 0 39 4 [(2, .int (zi v2))] [] M S := by
    intro v2 hv2 h
    unfold F_X1_sameCharacters_J39 at h
    refine j_iload_n hC 0 dX1_sameCharacters_39 rfl rfl ?_
    have e1 := Option.some.inj h
    exact j_iret hC hE dX1_sameCharacters_40 (w_id hv2) (zn_i _) (by rw [← e1]) rfl rfl (by rw [← e1]; exact hv2) (Nat.le_of_ble_eq_true rfl) (Nat.le_of_ble_eq_true rfl)
  have L_4 : ∀ (v1 : Nat) (v2 : Int) (v3 : Int) (hv2 : inR v2) (hv3 : inR v3) (_ : F_X1_sameCharacters_L4 v1 v2 v3 M = some r), zJ K g 0 0 4 4 [(0, zr g 2), (1, .ref (zk g (1 + v1))), (2, .int (zi v2)), (3, .int (zi v3))] [] M S := by
    intro v1 v2 v3 hv2 hv3 h
    unfold F_X1_sameCharacters_L4 at h
    obtain ⟨ex4, hl, hd4⟩ := zb1_ex h
    obtain ⟨bd4, ebd⟩ : ∃ f, f = (fun (s : Int × Int) => F_X1_sameCharacters_B4 v1 s.1 s.2 M) := ⟨_, rfl⟩
    rw [← ebd] at hl
    have main : ∀ (n4 : Nat) (v2 : Int) (v3 : Int) (hv2 : inR v2) (hv3 : inR v3) (_ : zloop bd4 n4 (v2, v3) = some ex4), zJ K g 0 0 4 4 [(0, zr g 2), (1, .ref (zk g (1 + v1))), (2, .int (zi v2)), (3, .int (zi v3))] [] M S := by
      intro n4
      induction n4 with
      | zero => intro v2 v3 hv2 hv3 hl; exact zloop_0 hl
      | succ n4 ih4 =>
        intro v2 v3 hv2 hv3 hl
        obtain ⟨o, h, hT⟩ := zloop_ex hl
        have h : F_X1_sameCharacters_B4 v1 v2 v3 M = some o := by rw [ebd] at h; exact h
        unfold F_X1_sameCharacters_B4 at h
        refine j_iload_n hC 3 dX1_sameCharacters_4 rfl rfl ?_
        refine j_sload_n hC 1 dX1_sameCharacters_5 rfl rfl ?_
        obtain ⟨c1, h⟩ := zchk_ex h
        refine j_slen hC hE hlt lk_X1_82 dX1_sameCharacters_6 (Nat.lt_of_lt_of_le c1 (by decide)) (Nat.le_of_ble_eq_true rfl) (Nat.le_of_ble_eq_true rfl) (Nat.le_of_ble_eq_true rfl) (Nat.le_of_ble_eq_true rfl) ?_
        refine j_icmp_ge hC dX1_sameCharacters_9 rfl (w_id hv3) (w_id (cR_zsl _ (Nat.lt_of_lt_of_le c1 (by decide)))) (fun c2 => ?_) (fun c2 => ?_)
        · have h := zf c2 h
          obtain rfl := Option.some.inj h
          have hx4 := hd4
          rw [← show _ = ex4 from hT] at hx4
          refine j_sub [2] rfl ?_
          exact J_39 v2 hv2 hx4
        · have h := zt c2 h
          refine j_aload_n hC 0 dX1_sameCharacters_12 rfl rfl ?_
          refine j_aload_n hC 0 dX1_sameCharacters_13 rfl rfl ?_
          refine j_get hC dX1_sameCharacters_14 f_X1_30 (zFx_kd hF 2 rfl) rfl 4 rfl (fun hg3 => ?_)
          refine j_iload_n hC 3 dX1_sameCharacters_17 rfl rfl ?_
          refine j_iadd hC dX1_sameCharacters_18 ?_
          obtain ⟨r4, hy, h⟩ := zb1_ex h
          refine j_callVi (ci := 1) hC hE lk_X1_94 dX1_sameCharacters_19 (c_X1_characterAt l hlt g (w ((M 2 4) + v3)) (inR_w _) M S hF hy) [.int (zi ((M 2 4) + v3))] [] (zFx_kd hF 2 rfl) ⟨_, rfl, by decide, rfl⟩ rfl (by simp only [zi_w, zl_wl]) rfl (zcat (Nat.le_of_ble_eq_true rfl)) (Nat.le_of_ble_eq_true rfl) (Nat.le_of_ble_eq_true rfl) (Nat.le_of_ble_eq_true rfl) (Nat.le_of_ble_eq_true rfl) (fun hp5 => ?_)
          have hr4 := hp5
          refine j_sload_n hC 1 dX1_sameCharacters_22 rfl rfl ?_
          refine j_iload_n hC 3 dX1_sameCharacters_23 rfl rfl ?_
          obtain ⟨c6, h⟩ := zchk_ex h
          obtain ⟨c7, h⟩ := zchk_ex h
          refine j_schr hC hE hlt lk_X1_98 dX1_sameCharacters_24 (w_id hv3) (Nat.lt_of_lt_of_le c6 (by decide)) c7 (Nat.le_of_ble_eq_true rfl) (Nat.le_of_ble_eq_true rfl) (Nat.le_of_ble_eq_true rfl) (Nat.le_of_ble_eq_true rfl) ?_
          refine j_icmp_ne hC dX1_sameCharacters_27 rfl (w_id hr4) (w_id (cR_zsc (Nat.lt_of_lt_of_le c6 (by decide)) c7.1 c7.2)) (fun c8 => ?_) (fun c8 => ?_)
          · have h := zf c8 h
            obtain rfl := Option.some.inj h
            have hx4 := hd4
            rw [← show _ = ex4 from hT] at hx4
            refine j_sub [2] rfl ?_
            exact J_39 v2 hv2 hx4
          · have h := zt c8 h
            obtain ⟨x9, ex9, h⟩ := zlet_ex h
            have hx9 : inR x9 := by rw [ex9]; exact inR_w _
            refine j_iinc hC 2 dX1_sameCharacters_30 rfl ex9 (Nat.le_of_ble_eq_true rfl) rfl ?_
            obtain ⟨x10, ex10, h⟩ := zlet_ex h
            have hx10 : inR x10 := by rw [ex10]; exact inR_w _
            refine j_iinc hC 3 dX1_sameCharacters_33 rfl ex10 (Nat.le_of_ble_eq_true rfl) rfl ?_
            refine j_goto hC dX1_sameCharacters_36 rfl ?_
            obtain rfl := Option.some.inj h
            refine j_sub [2, 3, 1, 0] rfl ?_
            exact ih4 x9 x10 hx9 hx10 hT
    exact main zN v2 v3 hv2 hv3 hl
  refine j_iconst hC dX1_sameCharacters_0 ?_
  refine j_istore_n hC dX1_sameCharacters_1 rfl (Nat.le_of_ble_eq_true rfl) rfl ?_
  refine j_iconst hC dX1_sameCharacters_2 ?_
  refine j_istore_n hC dX1_sameCharacters_3 rfl (Nat.le_of_ble_eq_true rfl) rfl ?_
  refine j_sub [2, 3, 1, 0] rfl ?_
  exact L_4 v1 0 0 kR_0 kR_0 h
set_option maxHeartbeats 4000000 in
set_option maxRecDepth 100000 in
theorem c_X1_readKind (l : Launch) (hlt : l.stackTraces = false) (g : zG) (M : zM) (S : zS) (hF : zFx S) {r : Int} {M' : zM} (h : F_X1_readKind M = some (r, M')) : zMet l g yX1_readKind cX1_readKind 5 (some .int) 9 0 0 [zr g 2] M S (.inl (some (.int (zi r)))) M' S (inR r) := by
  refine zMet_of (by decide) hlt [(0, zr g 2)] rfl (Nat.le_of_ble_eq_true rfl) (fun K hC hE hN => ?_)
  unfold F_X1_readKind at h
  have J_51 : ∀ (v1 : Int) (hv1 : inR v1) (M : zM) (_ : F_X1_readKind_J51 v1 M = some (r, M')), zJ K g 0 0 51 5 [(0, zr g 2), (1, .int (zi v1))] [] M S := by
    intro v1 hv1 M h
    unfold F_X1_readKind_J51 at h
    refine j_aload_n hC 0 dX1_readKind_51 rfl rfl ?_
    refine j_iload_n hC 1 dX1_readKind_52 rfl rfl ?_
    obtain ⟨M1, eM1, h⟩ := zlet_ex h
    refine j_put hC dX1_readKind_53 f_X1_30 pF_X1 (zFx_kd hF 2 rfl) (Or.inl rfl) rfl 4 rfl (w_id hv1) hv1 eM1 ?_
    refine j_iconst hC dX1_readKind_56 ?_
    obtain ⟨e1, e2⟩ := zpr2 (Option.some.inj h)
    exact j_iret hC hE dX1_readKind_57 (w_id kR_m1) (zn_i _) (by rw [← e1]) e2 rfl (by rw [← e1]; exact kR_m1) (Nat.le_of_ble_eq_true rfl) (Nat.le_of_ble_eq_true rfl)
  have J_37 : ∀ (v2 : Int) (v4 : Int) (hv2 : inR v2) (hv4 : inR v4) (M : zM) (_ : F_X1_readKind_J37 v2 v4 M = some (r, M')), zJ K g 0 0 37 5 [(0, zr g 2), (2, .int (zi v2)), (4, .int (zi v4))] [] M S := by
    intro v2 v4 hv2 hv4 M h
    unfold F_X1_readKind_J37 at h
    refine j_aload_n hC 0 dX1_readKind_37 rfl rfl ?_
    refine j_iload hC 2 dX1_readKind_38 rfl ?_
    obtain ⟨M2, eM2, h⟩ := zlet_ex h
    refine j_put hC dX1_readKind_40 f_X1_30 pF_X1 (zFx_kd hF 2 rfl) (Or.inl rfl) rfl 4 rfl (w_id hv4) hv4 eM2 ?_
    refine j_iload_n hC 1 dX1_readKind_43 rfl rfl ?_
    obtain ⟨e1, e2⟩ := zpr2 (Option.some.inj h)
    exact j_iret hC hE dX1_readKind_44 (w_id hv2) (zn_i _) (by rw [← e1]) e2 rfl (by rw [← e1]; exact hv2) (Nat.le_of_ble_eq_true rfl) (Nat.le_of_ble_eq_true rfl)
  have L_4 : ∀ (v1 : Int) (v2 : Int) (hv1 : inR v1) (hv2 : inR v2) (M : zM) (_ : F_X1_readKind_L4 v1 v2 M = some (r, M')), zJ K g 0 0 4 5 [(0, zr g 2), (1, .int (zi v1)), (2, .int (zi v2))] [] M S := by
    intro v1 v2 hv1 hv2 M h
    unfold F_X1_readKind_L4 at h
    obtain ⟨ex4, hl, hd4⟩ := zb1_ex h
    obtain ⟨bd4, ebd⟩ : ∃ f, f = (fun (s : Int × Int) => F_X1_readKind_B4 s.1 s.2 M) := ⟨_, rfl⟩
    rw [← ebd] at hl
    have main : ∀ (n4 : Nat) (v1 : Int) (v2 : Int) (hv1 : inR v1) (hv2 : inR v2) (_ : zloop bd4 n4 (v1, v2) = some ex4), zJ K g 0 0 4 5 [(0, zr g 2), (1, .int (zi v1)), (2, .int (zi v2))] [] M S := by
      intro n4
      induction n4 with
      | zero => intro v1 v2 hv1 hv2 hl; exact zloop_0 hl
      | succ n4 ih4 =>
        intro v1 v2 hv1 hv2 hl
        obtain ⟨o, h, hT⟩ := zloop_ex hl
        have h : F_X1_readKind_B4 v1 v2 M = some o := by rw [ebd] at h; exact h
        unfold F_X1_readKind_B4 at h
        refine j_iload_n hC 2 dX1_readKind_4 rfl rfl ?_
        refine j_iconst hC dX1_readKind_5 ?_
        refine j_icmp_ge hC dX1_readKind_6 rfl (w_id hv2) (w_id kR_4) (fun c3 => ?_) (fun c3 => ?_)
        · have h := zf c3 h
          obtain rfl := Option.some.inj h
          have hx4 := hd4
          rw [← show _ = ex4 from hT] at hx4
          dsimp only [Sum.elim] at hx4
          refine j_sub [0, 1] rfl ?_
          exact J_51 v1 hv1 M hx4
        · have h := zt c3 h
          refine j_iload_n hC 2 dX1_readKind_9 rfl rfl ?_
          obtain ⟨r4, hy, h⟩ := zb1_ex h
          refine j_callSs hC hE lk_X1_68 dX1_readKind_10 (c_X1_kindName l hlt g v2 hv2 M S hy) [.int (zi v2)] [] rfl rfl rfl (zcat (Nat.le_of_ble_eq_true rfl)) (Nat.le_of_ble_eq_true rfl) (Nat.le_of_ble_eq_true rfl) (Nat.le_of_ble_eq_true rfl) (Nat.le_of_ble_eq_true rfl) (fun hp5 => ?_)
          refine j_sstore_n hC dX1_readKind_13 rfl (Nat.le_of_ble_eq_true rfl) rfl ?_
          refine j_aload_n hC 1 dX1_readKind_14 rfl rfl ?_
          refine j_sload_n hC 0 dX1_readKind_15 rfl rfl ?_
          obtain ⟨r6, hy, h⟩ := zb1_ex h
          refine j_callVi (ci := 1) hC hE lk_X1_72 dX1_readKind_16 (c_X1_sameCharacters l hlt g r4 M S hF hy) [.ref (zk g (1 + r4))] [] (zFx_kd hF 2 rfl) ⟨_, rfl, by decide, rfl⟩ rfl rfl rfl (zcat (Nat.le_of_ble_eq_true rfl)) (Nat.le_of_ble_eq_true rfl) (Nat.le_of_ble_eq_true rfl) (Nat.le_of_ble_eq_true rfl) (Nat.le_of_ble_eq_true rfl) (fun hp7 => ?_)
          have hr6 := hp7
          refine j_istore hC dX1_readKind_19 (Nat.le_of_ble_eq_true rfl) rfl ?_
          refine j_iload_n hC 3 dX1_readKind_21 rfl rfl ?_
          refine j_iload hC 0 dX1_readKind_22 rfl ?_
          refine j_mmax hC hE lk_X1_76 dX1_readKind_24 (w_id hv1) (w_id hr6) (Nat.le_of_ble_eq_true rfl) (Nat.le_of_ble_eq_true rfl) (Nat.le_of_ble_eq_true rfl) (Nat.le_of_ble_eq_true rfl) ?_
          obtain ⟨x8, ex8, h⟩ := zlet_ex h
          have hx8 : inR x8 := by rw [ex8]; exact (cR_zmax hv1 hr6)
          refine j_names ex8 ?_
          refine j_istore_n hC dX1_readKind_27 rfl (Nat.le_of_ble_eq_true rfl) rfl ?_
          refine j_iload hC 1 dX1_readKind_28 rfl ?_
          refine j_sload_n hC 2 dX1_readKind_30 rfl rfl ?_
          obtain ⟨c9, h⟩ := zchk_ex h
          refine j_slen hC hE hlt lk_X1_82 dX1_readKind_31 (Nat.lt_of_lt_of_le c9 (by decide)) (Nat.le_of_ble_eq_true rfl) (Nat.le_of_ble_eq_true rfl) (Nat.le_of_ble_eq_true rfl) (Nat.le_of_ble_eq_true rfl) ?_
          refine j_icmp_ne hC dX1_readKind_34 rfl (w_id hr6) (w_id (cR_zsl _ (Nat.lt_of_lt_of_le c9 (by decide)))) (fun c10 => ?_) (fun c10 => ?_)
          · have h := zf c10 h
            obtain ⟨x11, ex11, h⟩ := zlet_ex h
            have hx11 : inR x11 := by rw [ex11]; exact inR_w _
            refine j_iinc hC 4 dX1_readKind_45 rfl ex11 (Nat.le_of_ble_eq_true rfl) rfl ?_
            refine j_goto hC dX1_readKind_48 rfl ?_
            obtain rfl := Option.some.inj h
            refine j_sub [4, 1, 0] rfl ?_
            exact ih4 x8 x11 hx8 hx11 hT
          · have h := zt c10 h
            obtain rfl := Option.some.inj h
            have hx4 := hd4
            rw [← show _ = ex4 from hT] at hx4
            dsimp only [Sum.elim] at hx4
            refine j_sub [3, 4, 1] rfl ?_
            exact J_37 v2 r6 hv2 hr6 M hx4
    exact main zN v1 v2 hv1 hv2 hl
  refine j_iconst hC dX1_readKind_0 ?_
  refine j_istore_n hC dX1_readKind_1 rfl (Nat.le_of_ble_eq_true rfl) rfl ?_
  refine j_iconst hC dX1_readKind_2 ?_
  refine j_istore_n hC dX1_readKind_3 rfl (Nat.le_of_ble_eq_true rfl) rfl ?_
  refine j_sub [2, 1, 0] rfl ?_
  exact L_4 0 0 kR_0 kR_0 M h
set_option maxHeartbeats 4000000 in
set_option maxRecDepth 100000 in
theorem c_X9_extend (l : Launch) (hlt : l.stackTraces = false) (g : zG) (v0 : Int) (v1 : Int) (hv0 : inR v0) (hv1 : inR v1) (M : zM) (S : zS) {r : Int} (h : F_X9_extend v0 v1 = some r) : zMet l g yX9_extend cX9_extend 2 (some .int) 1 0 0 [.int (zi v0), .int (zi v1)] M S (.inl (some (.int (zi r)))) M S (inR r) := by
  refine zMet_of (by decide) hlt [(0, .int (zi v0)), (1, .int (zi v1))] rfl (Nat.le_of_ble_eq_true rfl) (fun K hC hE hN => ?_)
  unfold F_X9_extend at h
  refine j_iconst hC dX9_extend_0 ?_
  refine j_iload_n hC 0 dX9_extend_1 rfl rfl ?_
  refine j_imul hC dX9_extend_2 ?_
  refine j_iconst hC dX9_extend_3 ?_
  refine j_iadd hC dX9_extend_4 ?_
  refine j_iload_n hC 1 dX9_extend_5 rfl rfl ?_
  refine j_iadd hC dX9_extend_6 ?_
  have e1 := Option.some.inj h
  exact j_iret hC hE dX9_extend_7 rfl (zn_i _) (by rw [← e1]) rfl rfl (by rw [← e1]; exact (inR_w _)) (Nat.le_of_ble_eq_true rfl) (Nat.le_of_ble_eq_true rfl)
set_option maxHeartbeats 4000000 in
set_option maxRecDepth 100000 in
theorem c_X1_readLetters (l : Launch) (hlt : l.stackTraces = false) (g : zG) (v1 : Int) (hv1 : inR v1) (M : zM) (S : zS) (hF : zFx S) {r : Int} {M' : zM} (h : F_X1_readLetters v1 M = some (r, M')) : zMet l g yX1_readLetters cX1_readLetters 5 (some .int) 2 0 0 [zr g 2, .int (zi v1)] M S (.inl (some (.int (zi r)))) M' S (inR r) := by
  refine zMet_of (by decide) hlt [(0, zr g 2), (1, .int (zi v1))] rfl (Nat.le_of_ble_eq_true rfl) (fun K hC hE hN => ?_)
  unfold F_X1_readLetters at h
  have J_61 : ∀ (v2 : Int) (hv2 : inR v2) (M : zM) (_ : F_X1_readLetters_J61 v2 M = some (r, M')), zJ K g 0 0 61 5 [(2, .int (zi v2))] [] M S := by
    intro v2 hv2 M h
    unfold F_X1_readLetters_J61 at h
    refine j_iload_n hC 0 dX1_readLetters_61 rfl rfl ?_
    obtain ⟨e1, e2⟩ := zpr2 (Option.some.inj h)
    exact j_iret hC hE dX1_readLetters_62 (w_id hv2) (zn_i _) (by rw [← e1]) e2 rfl (by rw [← e1]; exact hv2) (Nat.le_of_ble_eq_true rfl) (Nat.le_of_ble_eq_true rfl)
  have J_33 : ∀ (v2 : Int) (hv2 : inR v2) (M : zM) (_ : F_X1_readLetters_J33 v2 M = some (r, M')), zJ K g 0 0 33 5 [(2, .int (zi v2))] [] M S := by
    intro v2 hv2 M h
    unfold F_X1_readLetters_J33 at h
    refine j_iload_n hC 0 dX1_readLetters_33 rfl rfl ?_
    obtain ⟨e1, e2⟩ := zpr2 (Option.some.inj h)
    exact j_iret hC hE dX1_readLetters_34 (w_id hv2) (zn_i _) (by rw [← e1]) e2 rfl (by rw [← e1]; exact hv2) (Nat.le_of_ble_eq_true rfl) (Nat.le_of_ble_eq_true rfl)
  have L_4 : ∀ (v1 : Int) (v2 : Int) (v3 : Int) (hv1 : inR v1) (hv2 : inR v2) (hv3 : inR v3) (M : zM) (_ : F_X1_readLetters_L4 v1 v2 v3 M = some (r, M')), zJ K g 0 0 4 5 [(0, zr g 2), (1, .int (zi v1)), (2, .int (zi v2)), (3, .int (zi v3))] [] M S := by
    intro v1 v2 v3 hv1 hv2 hv3 M h
    unfold F_X1_readLetters_L4 at h
    obtain ⟨ex4, hl, hd4⟩ := zb1_ex h
    obtain ⟨bd4, ebd⟩ : ∃ f, f = (fun (s : Int × Int × zM) => F_X1_readLetters_B4 v1 s.1 s.2.1 s.2.2) := ⟨_, rfl⟩
    rw [← ebd] at hl
    have main : ∀ (n4 : Nat) (v2 : Int) (v3 : Int) (hv2 : inR v2) (hv3 : inR v3) (M : zM) (_ : zloop bd4 n4 (v2, v3, M) = some ex4), zJ K g 0 0 4 5 [(0, zr g 2), (1, .int (zi v1)), (2, .int (zi v2)), (3, .int (zi v3))] [] M S := by
      intro n4
      induction n4 with
      | zero => intro v2 v3 hv2 hv3 M hl; exact zloop_0 hl
      | succ n4 ih4 =>
        intro v2 v3 hv2 hv3 M hl
        obtain ⟨o, h, hT⟩ := zloop_ex hl
        have h : F_X1_readLetters_B4 v1 v2 v3 M = some o := by rw [ebd] at h; exact h
        unfold F_X1_readLetters_B4 at h
        refine j_iload_n hC 3 dX1_readLetters_4 rfl rfl ?_
        refine j_iload_n hC 1 dX1_readLetters_5 rfl rfl ?_
        refine j_icmp_ge hC dX1_readLetters_6 rfl (w_id hv3) (w_id hv1) (fun c1 => ?_) (fun c1 => ?_)
        · have h := zf c1 h
          obtain rfl := Option.some.inj h
          have hx4 := hd4
          rw [← show _ = ex4 from hT] at hx4
          dsimp only [Sum.elim] at hx4
          refine j_sub [2] rfl ?_
          exact J_61 v2 hv2 M hx4
        · have h := zt c1 h
          refine j_aload_n hC 0 dX1_readLetters_9 rfl rfl ?_
          refine j_aload_n hC 0 dX1_readLetters_10 rfl rfl ?_
          refine j_get hC dX1_readLetters_11 f_X1_30 (zFx_kd hF 2 rfl) rfl 4 rfl (fun hg2 => ?_)
          obtain ⟨r3, hy, h⟩ := zb1_ex h
          refine j_callVi (ci := 1) hC hE lk_X1_94 dX1_readLetters_14 (c_X1_characterAt l hlt g (M 2 4) hg2 M S hF hy) [.int (zi (M 2 4))] [] (zFx_kd hF 2 rfl) ⟨_, rfl, by decide, rfl⟩ rfl rfl rfl (zcat (Nat.le_of_ble_eq_true rfl)) (Nat.le_of_ble_eq_true rfl) (Nat.le_of_ble_eq_true rfl) (Nat.le_of_ble_eq_true rfl) (Nat.le_of_ble_eq_true rfl) (fun hp4 => ?_)
          have hr3 := hp4
          refine j_istore hC dX1_readLetters_17 (Nat.le_of_ble_eq_true rfl) rfl ?_
          refine j_iload hC 0 dX1_readLetters_19 rfl ?_
          refine j_bipush hC dX1_readLetters_21 rfl ?_
          refine j_icmp_lt hC dX1_readLetters_23 rfl (w_id hr3) (w_id kR_97) (fun c5 => ?_) (fun c5 => ?_)
          · have h := zt c5 h
            obtain rfl := Option.some.inj h
            have hx4 := hd4
            rw [← show _ = ex4 from hT] at hx4
            dsimp only [Sum.elim] at hx4
            refine j_sub [3] rfl ?_
            exact J_33 v2 hv2 M hx4
          · have h := zf c5 h
            refine j_iload hC 0 dX1_readLetters_26 rfl ?_
            refine j_bipush hC dX1_readLetters_28 rfl ?_
            refine j_icmp_le hC dX1_readLetters_30 rfl (w_id hr3) (w_id kR_99) (fun c6 => ?_) (fun c6 => ?_)
            · have h := zf c6 h
              refine j_iload_n hC 3 dX1_readLetters_35 rfl rfl ?_
              refine j_iload hC 0 dX1_readLetters_36 rfl ?_
              refine j_bipush hC dX1_readLetters_38 rfl ?_
              refine j_isub hC dX1_readLetters_40 ?_
              obtain ⟨r7, hy, h⟩ := zb1_ex h
              refine j_callSi hC hE lk_X1_103 dX1_readLetters_41 (c_X9_extend l hlt g v2 (w (r3 - 97)) hv2 (inR_w _) M S hy) [.int (zi v2), .int (zi (r3 - 97))] [] rfl (by simp only [zi_w, zl_wl]) rfl (zcat (Nat.le_of_ble_eq_true rfl)) (Nat.le_of_ble_eq_true rfl) (Nat.le_of_ble_eq_true rfl) (Nat.le_of_ble_eq_true rfl) (Nat.le_of_ble_eq_true rfl) (fun hp8 => ?_)
              have hr7 := hp8
              refine j_istore_n hC dX1_readLetters_44 rfl (Nat.le_of_ble_eq_true rfl) rfl ?_
              refine j_aload_n hC 2 dX1_readLetters_45 rfl rfl ?_
              refine j_dup hC dX1_readLetters_46 (zr_cat _ _) ?_
              refine j_get hC dX1_readLetters_47 f_X1_30 (zFx_kd hF 2 rfl) rfl 4 rfl (fun hg9 => ?_)
              refine j_iconst hC dX1_readLetters_50 ?_
              refine j_iadd hC dX1_readLetters_51 ?_
              obtain ⟨M10, eM10, h⟩ := zlet_ex h
              refine j_put hC dX1_readLetters_52 f_X1_30 pF_X1 (zFx_kd hF 2 rfl) (Or.inl rfl) rfl 4 rfl rfl (inR_w _) eM10 ?_
              obtain ⟨x11, ex11, h⟩ := zlet_ex h
              have hx11 : inR x11 := by rw [ex11]; exact inR_w _
              refine j_iinc hC 4 dX1_readLetters_55 rfl ex11 (Nat.le_of_ble_eq_true rfl) rfl ?_
              refine j_goto hC dX1_readLetters_58 rfl ?_
              obtain rfl := Option.some.inj h
              refine j_sub [3, 4, 1, 0] rfl ?_
              exact ih4 r7 x11 hr7 hx11 M10 hT
            · have h := zt c6 h
              obtain rfl := Option.some.inj h
              have hx4 := hd4
              rw [← show _ = ex4 from hT] at hx4
              dsimp only [Sum.elim] at hx4
              refine j_sub [3] rfl ?_
              exact J_33 v2 hv2 M hx4
    exact main zN v2 v3 hv2 hv3 M hl
  refine j_iconst hC dX1_readLetters_0 ?_
  refine j_istore_n hC dX1_readLetters_1 rfl (Nat.le_of_ble_eq_true rfl) rfl ?_
  refine j_iconst hC dX1_readLetters_2 ?_
  refine j_istore_n hC dX1_readLetters_3 rfl (Nat.le_of_ble_eq_true rfl) rfl ?_
  refine j_sub [2, 3, 1, 0] rfl ?_
  exact L_4 v1 0 0 hv1 kR_0 kR_0 M h
set_option maxHeartbeats 4000000 in
set_option maxRecDepth 100000 in
theorem c_X1_readAxiom (l : Launch) (hlt : l.stackTraces = false) (g : zG) (M : zM) (S : zS) (hF : zFx S) {r : Int} {M' : zM} (h : F_X1_readAxiom M = some (r, M')) : zMet l g yX1_readAxiom cX1_readAxiom 1 (some .boolean) 3 0 0 [zr g 2] M S (.inl (some (.int (zi r)))) M' S (inR r) := by
  refine zMet_of (by decide) hlt [(0, zr g 2)] rfl (Nat.le_of_ble_eq_true rfl) (fun K hC hE hN => ?_)
  unfold F_X1_readAxiom at h
  refine j_aload_n hC 0 dX1_readAxiom_0 rfl rfl ?_
  refine j_aload_n hC 0 dX1_readAxiom_1 rfl rfl ?_
  refine j_bipush hC dX1_readAxiom_2 rfl ?_
  obtain ⟨r1, M2, hy, h⟩ := zb2_ex h
  refine j_callVi (ci := 1) hC hE lk_X1_106 dX1_readAxiom_4 (c_X1_readLetters l hlt g 8 kR_8 M S hF hy) [.int (zi 8)] [zr g 2] (zFx_kd hF 2 rfl) ⟨_, rfl, by decide, rfl⟩ rfl rfl rfl (zcat (Nat.le_of_ble_eq_true rfl)) (Nat.le_of_ble_eq_true rfl) (Nat.le_of_ble_eq_true rfl) (Nat.le_of_ble_eq_true rfl) (Nat.le_of_ble_eq_true rfl) (fun hp3 => ?_)
  have hr1 := hp3
  obtain ⟨M4, eM4, h⟩ := zlet_ex h
  refine j_put hC dX1_readAxiom_7 f_X1_110 pF_X1 (zFx_kd hF 2 rfl) (Or.inl rfl) rfl 5 rfl (w_id hr1) hr1 eM4 ?_
  refine j_aload_n hC 0 dX1_readAxiom_10 rfl rfl ?_
  refine j_get hC dX1_readAxiom_11 f_X1_110 (zFx_kd hF 2 rfl) rfl 5 rfl (fun hg5 => ?_)
  refine j_if_eq hC dX1_readAxiom_14 rfl (w_id hg5) (fun c6 => ?_) (fun c6 => ?_)
  · have h := zt c6 h
    refine j_iconst hC dX1_readAxiom_21 ?_
    obtain ⟨e1, e2⟩ := zpr2 (Option.some.inj h)
    exact j_iret hC hE dX1_readAxiom_22 (w_id kR_0) (zn_z zb01_0) (by rw [← e1]) e2 rfl (by rw [← e1]; exact kR_0) (Nat.le_of_ble_eq_true rfl) (Nat.le_of_ble_eq_true rfl)
  · have h := zf c6 h
    refine j_iconst hC dX1_readAxiom_17 ?_
    refine j_goto hC dX1_readAxiom_18 rfl ?_
    obtain ⟨e1, e2⟩ := zpr2 (Option.some.inj h)
    exact j_iret hC hE dX1_readAxiom_22 (w_id kR_1) (zn_z zb01_1) (by rw [← e1]) e2 rfl (by rw [← e1]; exact kR_1) (Nat.le_of_ble_eq_true rfl) (Nat.le_of_ble_eq_true rfl)
set_option maxHeartbeats 4000000 in
set_option maxRecDepth 100000 in
theorem c_X1_skip (l : Launch) (hlt : l.stackTraces = false) (g : zG) (v1 : Int) (hv1 : inR v1) (M : zM) (S : zS) (hF : zFx S) {r : Int} {M' : zM} (h : F_X1_skip v1 M = some (r, M')) : zMet l g yX1_skip cX1_skip 2 (some .boolean) 2 0 0 [zr g 2, .int (zi v1)] M S (.inl (some (.int (zi r)))) M' S (inR r) := by
  refine zMet_of (by decide) hlt [(0, zr g 2), (1, .int (zi v1))] rfl (Nat.le_of_ble_eq_true rfl) (fun K hC hE hN => ?_)
  unfold F_X1_skip at h
  refine j_aload_n hC 0 dX1_skip_0 rfl rfl ?_
  refine j_aload_n hC 0 dX1_skip_1 rfl rfl ?_
  refine j_get hC dX1_skip_2 f_X1_30 (zFx_kd hF 2 rfl) rfl 4 rfl (fun hg1 => ?_)
  obtain ⟨r2, hy, h⟩ := zb1_ex h
  refine j_callVi (ci := 1) hC hE lk_X1_94 dX1_skip_5 (c_X1_characterAt l hlt g (M 2 4) hg1 M S hF hy) [.int (zi (M 2 4))] [] (zFx_kd hF 2 rfl) ⟨_, rfl, by decide, rfl⟩ rfl rfl rfl (zcat (Nat.le_of_ble_eq_true rfl)) (Nat.le_of_ble_eq_true rfl) (Nat.le_of_ble_eq_true rfl) (Nat.le_of_ble_eq_true rfl) (Nat.le_of_ble_eq_true rfl) (fun hp3 => ?_)
  have hr2 := hp3
  refine j_iload_n hC 1 dX1_skip_8 rfl rfl ?_
  refine j_icmp_eq hC dX1_skip_9 rfl (w_id hr2) (w_id hv1) (fun c4 => ?_) (fun c4 => ?_)
  · have h := zt c4 h
    refine j_aload_n hC 0 dX1_skip_14 rfl rfl ?_
    refine j_dup hC dX1_skip_15 (zr_cat _ _) ?_
    refine j_get hC dX1_skip_16 f_X1_30 (zFx_kd hF 2 rfl) rfl 4 rfl (fun hg5 => ?_)
    refine j_iconst hC dX1_skip_19 ?_
    refine j_iadd hC dX1_skip_20 ?_
    obtain ⟨M6, eM6, h⟩ := zlet_ex h
    refine j_put hC dX1_skip_21 f_X1_30 pF_X1 (zFx_kd hF 2 rfl) (Or.inl rfl) rfl 4 rfl rfl (inR_w _) eM6 ?_
    refine j_iconst hC dX1_skip_24 ?_
    obtain ⟨e1, e2⟩ := zpr2 (Option.some.inj h)
    exact j_iret hC hE dX1_skip_25 (w_id kR_1) (zn_z zb01_1) (by rw [← e1]) e2 rfl (by rw [← e1]; exact kR_1) (Nat.le_of_ble_eq_true rfl) (Nat.le_of_ble_eq_true rfl)
  · have h := zf c4 h
    refine j_iconst hC dX1_skip_12 ?_
    obtain ⟨e1, e2⟩ := zpr2 (Option.some.inj h)
    exact j_iret hC hE dX1_skip_13 (w_id kR_0) (zn_z zb01_0) (by rw [← e1]) e2 rfl (by rw [← e1]; exact kR_0) (Nat.le_of_ble_eq_true rfl) (Nat.le_of_ble_eq_true rfl)
set_option maxHeartbeats 4000000 in
set_option maxRecDepth 100000 in
theorem c_X1_addStep (l : Launch) (hlt : l.stackTraces = false) (g : zG) (v1 : Int) (v2 : Int) (hv1 : inR v1) (hv2 : inR v2) (M : zM) (S : zS) (hF : zFx S) {r : Int} {M' : zM} (h : F_X1_addStep v1 v2 M = some (r, M')) : zMet l g yX1_addStep cX1_addStep 3 (some .boolean) 1 0 0 [zr g 2, .int (zi v1), .int (zi v2)] M S (.inl (some (.int (zi r)))) M' S (inR r) := by
  refine zMet_of (by decide) hlt [(0, zr g 2), (1, .int (zi v1)), (2, .int (zi v2))] rfl (Nat.le_of_ble_eq_true rfl) (fun K hC hE hN => ?_)
  unfold F_X1_addStep at h
  refine j_aload_n hC 0 dX1_addStep_0 rfl rfl ?_
  refine j_get hC dX1_addStep_1 f_X1_21 (zFx_kd hF 2 rfl) rfl 2 rfl (fun hg1 => ?_)
  refine j_if_lt hC dX1_addStep_4 rfl (w_id hg1) (fun c2 => ?_) (fun c2 => ?_)
  · have h := zt c2 h
    refine j_iconst hC dX1_addStep_19 ?_
    obtain ⟨e1, e2⟩ := zpr2 (Option.some.inj h)
    exact j_iret hC hE dX1_addStep_20 (w_id kR_0) (zn_z zb01_0) (by rw [← e1]) e2 rfl (by rw [← e1]; exact kR_0) (Nat.le_of_ble_eq_true rfl) (Nat.le_of_ble_eq_true rfl)
  · have h := zf c2 h
    refine j_aload_n hC 0 dX1_addStep_7 rfl rfl ?_
    refine j_get hC dX1_addStep_8 f_X1_21 (zFx_kd hF 2 rfl) rfl 2 rfl (fun hg3 => ?_)
    refine j_aload_n hC 0 dX1_addStep_11 rfl rfl ?_
    refine j_getq (q := 4) hC dX1_addStep_12 f_X1_13 (zFx_kd hF 2 rfl) rfl 1 rfl (zFx_rf hF 2 1 rfl) ?_
    refine j_alen (k := 20) (n := 60) hC dX1_addStep_15 (zFx_kd hF 4 rfl) (Nat.le_of_ble_eq_true rfl) (Nat.le_of_ble_eq_true rfl) (zFx_ln hF 4 rfl) (fun _ => ?_)
    refine j_icmp_lt hC dX1_addStep_16 rfl (w_id hg3) (w_id kR_60) (fun c4 => ?_) (fun c4 => ?_)
    · have h := zt c4 h
      refine j_aload_n hC 0 dX1_addStep_21 rfl rfl ?_
      refine j_getq (q := 4) hC dX1_addStep_22 f_X1_13 (zFx_kd hF 2 rfl) rfl 1 rfl (zFx_rf hF 2 1 rfl) ?_
      refine j_aload_n hC 0 dX1_addStep_25 rfl rfl ?_
      refine j_get hC dX1_addStep_26 f_X1_21 (zFx_kd hF 2 rfl) rfl 2 rfl (fun hg5 => ?_)
      refine j_iload_n hC 2 dX1_addStep_29 rfl rfl ?_
      refine j_iconst hC dX1_addStep_30 ?_
      refine j_ishl hC dX1_addStep_31 ?_
      refine j_iload_n hC 1 dX1_addStep_32 rfl rfl ?_
      refine j_ior hC dX1_addStep_33 ?_
      obtain ⟨c6, h⟩ := zchk_ex h
      obtain ⟨M7, eM7, h⟩ := zlet_ex h
      refine j_iast (n := 60) hC dX1_addStep_34 (w_id hg5) (w_id (cR_zor _ _)) (cR_zor _ _) (zFx_kd hF 4 rfl) (zFx_ln hF 4 rfl) c6.1 c6.2 eM7 ?_
      refine j_aload_n hC 0 dX1_addStep_35 rfl rfl ?_
      refine j_dup hC dX1_addStep_36 (zr_cat _ _) ?_
      refine j_get hC dX1_addStep_37 f_X1_21 (zFx_kd hF 2 rfl) rfl 2 rfl (fun hg8 => ?_)
      refine j_iconst hC dX1_addStep_40 ?_
      refine j_iadd hC dX1_addStep_41 ?_
      obtain ⟨M9, eM9, h⟩ := zlet_ex h
      refine j_put hC dX1_addStep_42 f_X1_21 pF_X1 (zFx_kd hF 2 rfl) (Or.inl rfl) rfl 2 rfl rfl (inR_w _) eM9 ?_
      refine j_iconst hC dX1_addStep_45 ?_
      obtain ⟨e1, e2⟩ := zpr2 (Option.some.inj h)
      exact j_iret hC hE dX1_addStep_46 (w_id kR_1) (zn_z zb01_1) (by rw [← e1]) e2 rfl (by rw [← e1]; exact kR_1) (Nat.le_of_ble_eq_true rfl) (Nat.le_of_ble_eq_true rfl)
    · have h := zf c4 h
      refine j_iconst hC dX1_addStep_19 ?_
      obtain ⟨e1, e2⟩ := zpr2 (Option.some.inj h)
      exact j_iret hC hE dX1_addStep_20 (w_id kR_0) (zn_z zb01_0) (by rw [← e1]) e2 rfl (by rw [← e1]; exact kR_0) (Nat.le_of_ble_eq_true rfl) (Nat.le_of_ble_eq_true rfl)
set_option maxHeartbeats 4000000 in
set_option maxRecDepth 100000 in
theorem c_X1_addPattern (l : Launch) (hlt : l.stackTraces = false) (g : zG) (v1 : Int) (v2 : Int) (hv1 : inR v1) (hv2 : inR v2) (M : zM) (S : zS) (hF : zFx S) {r : Int} {M' : zM} (h : F_X1_addPattern v1 v2 M = some (r, M')) : zMet l g yX1_addPattern cX1_addPattern 3 (some .boolean) 2 0 0 [zr g 2, .int (zi v1), .int (zi v2)] M S (.inl (some (.int (zi r)))) M' S (inR r) := by
  refine zMet_of (by decide) hlt [(0, zr g 2), (1, .int (zi v1)), (2, .int (zi v2))] rfl (Nat.le_of_ble_eq_true rfl) (fun K hC hE hN => ?_)
  unfold F_X1_addPattern at h
  have J_17 : ∀ (M : zM) (_ : F_X1_addPattern_J17 M = some (r, M')), zJ K g 0 0 17 3 [] [] M S := by
    intro M h
    unfold F_X1_addPattern_J17 at h
    refine j_iconst hC dX1_addPattern_17 ?_
    obtain ⟨e1, e2⟩ := zpr2 (Option.some.inj h)
    exact j_iret hC hE dX1_addPattern_18 (w_id kR_0) (zn_z zb01_0) (by rw [← e1]) e2 rfl (by rw [← e1]; exact kR_0) (Nat.le_of_ble_eq_true rfl) (Nat.le_of_ble_eq_true rfl)
  refine j_iload_n hC 2 dX1_addPattern_0 rfl rfl ?_
  refine j_if_eq hC dX1_addPattern_1 rfl (w_id hv2) (fun c1 => ?_) (fun c1 => ?_)
  · have h := zt c1 h
    refine j_sub [] rfl ?_
    exact J_17 M h
  · have h := zf c1 h
    refine j_aload_n hC 0 dX1_addPattern_4 rfl rfl ?_
    refine j_iload_n hC 1 dX1_addPattern_5 rfl rfl ?_
    refine j_iload_n hC 2 dX1_addPattern_6 rfl rfl ?_
    obtain ⟨r2, M3, hy, h⟩ := zb2_ex h
    refine j_callVi (ci := 1) hC hE lk_X1_131 dX1_addPattern_7 (c_X1_addStep l hlt g v1 v2 hv1 hv2 M S hF hy) [.int (zi v1), .int (zi v2)] [] (zFx_kd hF 2 rfl) ⟨_, rfl, by decide, rfl⟩ rfl rfl rfl (zcat (Nat.le_of_ble_eq_true rfl)) (Nat.le_of_ble_eq_true rfl) (Nat.le_of_ble_eq_true rfl) (Nat.le_of_ble_eq_true rfl) (Nat.le_of_ble_eq_true rfl) (fun hp4 => ?_)
    have hr2 := hp4
    refine j_if_eq hC dX1_addPattern_10 rfl (w_id hr2) (fun c5 => ?_) (fun c5 => ?_)
    · have h := zt c5 h
      refine j_sub [] rfl ?_
      exact J_17 M3 h
    · have h := zf c5 h
      refine j_iconst hC dX1_addPattern_13 ?_
      refine j_goto hC dX1_addPattern_14 rfl ?_
      obtain ⟨e1, e2⟩ := zpr2 (Option.some.inj h)
      exact j_iret hC hE dX1_addPattern_18 (w_id kR_1) (zn_z zb01_1) (by rw [← e1]) e2 rfl (by rw [← e1]; exact kR_1) (Nat.le_of_ble_eq_true rfl) (Nat.le_of_ble_eq_true rfl)
set_option maxHeartbeats 4000000 in
set_option maxRecDepth 100000 in
theorem c_X1_readComparison (l : Launch) (hlt : l.stackTraces = false) (g : zG) (M : zM) (S : zS) (hF : zFx S) {r : Int} {M' : zM} (h : F_X1_readComparison M = some (r, M')) : zMet l g yX1_readComparison cX1_readComparison 5 (some .boolean) 2 0 0 [zr g 2] M S (.inl (some (.int (zi r)))) M' S (inR r) := by
  refine zMet_of (by decide) hlt [(0, zr g 2)] rfl (Nat.le_of_ble_eq_true rfl) (fun K hC hE hN => ?_)
  unfold F_X1_readComparison at h
  have J_119 : ∀ (v2 : Int) (v3 : Int) (t0 : Int) (hv2 : inR v2) (hv3 : inR v3) (ht0 : inR t0) (M : zM) (_ : F_X1_readComparison_J119 v2 v3 t0 M = some (r, M')), zJ K g 0 0 119 5 [(0, zr g 2), (2, .int (zi v2)), (3, .int (zi v3))] [.int (zi t0)] M S := by
    intro v2 v3 t0 hv2 hv3 ht0 M h
    unfold F_X1_readComparison_J119 at h
    refine j_istore hC dX1_readComparison_119 (Nat.le_of_ble_eq_true rfl) rfl ?_
    refine j_aload_n hC 1 dX1_readComparison_121 rfl rfl ?_
    refine j_iconst hC dX1_readComparison_122 ?_
    refine j_iload hC 0 dX1_readComparison_123 rfl ?_
    refine j_iconst hC dX1_readComparison_125 ?_
    refine j_imul hC dX1_readComparison_126 ?_
    refine j_iload_n hC 2 dX1_readComparison_127 rfl rfl ?_
    refine j_bipush hC dX1_readComparison_128 rfl ?_
    refine j_isub hC dX1_readComparison_130 ?_
    refine j_iadd hC dX1_readComparison_131 ?_
    refine j_bipush hC dX1_readComparison_132 rfl ?_
    refine j_imul hC dX1_readComparison_134 ?_
    refine j_iload_n hC 3 dX1_readComparison_135 rfl rfl ?_
    refine j_bipush hC dX1_readComparison_136 rfl ?_
    refine j_isub hC dX1_readComparison_138 ?_
    refine j_iadd hC dX1_readComparison_139 ?_
    obtain ⟨r1, M2, hy, h⟩ := zb2_ex h
    refine j_callVi (ci := 1) hC hE lk_X1_131 dX1_readComparison_140 (c_X1_addStep l hlt g 4 (w ((((t0 * 3) + (v2 - 60)) * 10) + (v3 - 48))) kR_4 (inR_w _) M S hF hy) [.int (zi 4), .int (zi ((((t0 * 3) + (v2 - 60)) * 10) + (v3 - 48)))] [] (zFx_kd hF 2 rfl) ⟨_, rfl, by decide, rfl⟩ rfl (by simp only [zi_w, zl_wl]) rfl (zcat (Nat.le_of_ble_eq_true rfl)) (Nat.le_of_ble_eq_true rfl) (Nat.le_of_ble_eq_true rfl) (Nat.le_of_ble_eq_true rfl) (Nat.le_of_ble_eq_true rfl) (fun hp3 => ?_)
    have hr1 := hp3
    obtain ⟨c4, h⟩ := zchk_ex h
    obtain ⟨e1, e2⟩ := zpr2 (Option.some.inj h)
    exact j_iret hC hE dX1_readComparison_143 (w_id hr1) (zn_z c4) (by rw [← e1]) e2 rfl (by rw [← e1]; exact hr1) (Nat.le_of_ble_eq_true rfl) (Nat.le_of_ble_eq_true rfl)
  have J_29 : ∀ (v1 : Int) (hv1 : inR v1) (M : zM) (_ : F_X1_readComparison_J29 v1 M = some (r, M')), zJ K g 0 0 29 5 [(0, zr g 2), (1, .int (zi v1))] [] M S := by
    intro v1 hv1 M h
    unfold F_X1_readComparison_J29 at h
    refine j_aload_n hC 0 dX1_readComparison_29 rfl rfl ?_
    refine j_dup hC dX1_readComparison_30 (zr_cat _ _) ?_
    refine j_get hC dX1_readComparison_31 f_X1_30 (zFx_kd hF 2 rfl) rfl 4 rfl (fun hg5 => ?_)
    refine j_iconst hC dX1_readComparison_34 ?_
    refine j_iadd hC dX1_readComparison_35 ?_
    obtain ⟨M6, eM6, h⟩ := zlet_ex h
    refine j_put hC dX1_readComparison_36 f_X1_30 pF_X1 (zFx_kd hF 2 rfl) (Or.inl rfl) rfl 4 rfl rfl (inR_w _) eM6 ?_
    refine j_aload_n hC 0 dX1_readComparison_39 rfl rfl ?_
    refine j_aload_n hC 0 dX1_readComparison_40 rfl rfl ?_
    refine j_get hC dX1_readComparison_41 f_X1_30 (zFx_kd hF 2 rfl) rfl 4 rfl (fun hg7 => ?_)
    obtain ⟨r8, hy, h⟩ := zb1_ex h
    refine j_callVi (ci := 1) hC hE lk_X1_94 dX1_readComparison_44 (c_X1_characterAt l hlt g (M6 2 4) hg7 M6 S hF hy) [.int (zi (M6 2 4))] [] (zFx_kd hF 2 rfl) ⟨_, rfl, by decide, rfl⟩ rfl rfl rfl (zcat (Nat.le_of_ble_eq_true rfl)) (Nat.le_of_ble_eq_true rfl) (Nat.le_of_ble_eq_true rfl) (Nat.le_of_ble_eq_true rfl) (Nat.le_of_ble_eq_true rfl) (fun hp9 => ?_)
    have hr8 := hp9
    refine j_istore_n hC dX1_readComparison_47 rfl (Nat.le_of_ble_eq_true rfl) rfl ?_
    refine j_iload_n hC 0 dX1_readComparison_48 rfl rfl ?_
    refine j_bipush hC dX1_readComparison_49 rfl ?_
    refine j_icmp_lt hC dX1_readComparison_51 rfl (w_id hr8) (w_id kR_60) (fun c10 => ?_) (fun c10 => ?_)
    · have h := zt c10 h
      refine j_iconst hC dX1_readComparison_60 ?_
      obtain ⟨e1, e2⟩ := zpr2 (Option.some.inj h)
      exact j_iret hC hE dX1_readComparison_61 (w_id kR_0) (zn_z zb01_0) (by rw [← e1]) e2 rfl (by rw [← e1]; exact kR_0) (Nat.le_of_ble_eq_true rfl) (Nat.le_of_ble_eq_true rfl)
    · have h := zf c10 h
      refine j_iload_n hC 0 dX1_readComparison_54 rfl rfl ?_
      refine j_bipush hC dX1_readComparison_55 rfl ?_
      refine j_icmp_le hC dX1_readComparison_57 rfl (w_id hr8) (w_id kR_62) (fun c11 => ?_) (fun c11 => ?_)
      · have h := zf c11 h
        refine j_aload_n hC 1 dX1_readComparison_62 rfl rfl ?_
        refine j_dup hC dX1_readComparison_63 (zr_cat _ _) ?_
        refine j_get hC dX1_readComparison_64 f_X1_30 (zFx_kd hF 2 rfl) rfl 4 rfl (fun hg12 => ?_)
        refine j_iconst hC dX1_readComparison_67 ?_
        refine j_iadd hC dX1_readComparison_68 ?_
        obtain ⟨M13, eM13, h⟩ := zlet_ex h
        refine j_put hC dX1_readComparison_69 f_X1_30 pF_X1 (zFx_kd hF 2 rfl) (Or.inl rfl) rfl 4 rfl rfl (inR_w _) eM13 ?_
        refine j_aload_n hC 1 dX1_readComparison_72 rfl rfl ?_
        refine j_aload_n hC 1 dX1_readComparison_73 rfl rfl ?_
        refine j_get hC dX1_readComparison_74 f_X1_30 (zFx_kd hF 2 rfl) rfl 4 rfl (fun hg14 => ?_)
        obtain ⟨r15, hy, h⟩ := zb1_ex h
        refine j_callVi (ci := 1) hC hE lk_X1_94 dX1_readComparison_77 (c_X1_characterAt l hlt g (M13 2 4) hg14 M13 S hF hy) [.int (zi (M13 2 4))] [] (zFx_kd hF 2 rfl) ⟨_, rfl, by decide, rfl⟩ rfl rfl rfl (zcat (Nat.le_of_ble_eq_true rfl)) (Nat.le_of_ble_eq_true rfl) (Nat.le_of_ble_eq_true rfl) (Nat.le_of_ble_eq_true rfl) (Nat.le_of_ble_eq_true rfl) (fun hp16 => ?_)
        have hr15 := hp16
        refine j_istore_n hC dX1_readComparison_80 rfl (Nat.le_of_ble_eq_true rfl) rfl ?_
        refine j_iload_n hC 0 dX1_readComparison_81 rfl rfl ?_
        refine j_bipush hC dX1_readComparison_82 rfl ?_
        refine j_icmp_lt hC dX1_readComparison_84 rfl (w_id hr15) (w_id kR_48) (fun c17 => ?_) (fun c17 => ?_)
        · have h := zt c17 h
          refine j_iconst hC dX1_readComparison_93 ?_
          obtain ⟨e1, e2⟩ := zpr2 (Option.some.inj h)
          exact j_iret hC hE dX1_readComparison_94 (w_id kR_0) (zn_z zb01_0) (by rw [← e1]) e2 rfl (by rw [← e1]; exact kR_0) (Nat.le_of_ble_eq_true rfl) (Nat.le_of_ble_eq_true rfl)
        · have h := zf c17 h
          refine j_iload_n hC 0 dX1_readComparison_87 rfl rfl ?_
          refine j_bipush hC dX1_readComparison_88 rfl ?_
          refine j_icmp_le hC dX1_readComparison_90 rfl (w_id hr15) (w_id kR_57) (fun c18 => ?_) (fun c18 => ?_)
          · have h := zf c18 h
            refine j_aload_n hC 2 dX1_readComparison_95 rfl rfl ?_
            refine j_dup hC dX1_readComparison_96 (zr_cat _ _) ?_
            refine j_get hC dX1_readComparison_97 f_X1_30 (zFx_kd hF 2 rfl) rfl 4 rfl (fun hg19 => ?_)
            refine j_iconst hC dX1_readComparison_100 ?_
            refine j_iadd hC dX1_readComparison_101 ?_
            obtain ⟨M20, eM20, h⟩ := zlet_ex h
            refine j_put hC dX1_readComparison_102 f_X1_30 pF_X1 (zFx_kd hF 2 rfl) (Or.inl rfl) rfl 4 rfl rfl (inR_w _) eM20 ?_
            refine j_iload_n hC 3 dX1_readComparison_105 rfl rfl ?_
            refine j_bipush hC dX1_readComparison_106 rfl ?_
            refine j_icmp_ne hC dX1_readComparison_108 rfl (w_id hv1) (w_id kR_35) (fun c21 => ?_) (fun c21 => ?_)
            · have h := zf c21 h
              refine j_iload_n hC 3 dX1_readComparison_115 rfl rfl ?_
              refine j_bipush hC dX1_readComparison_116 rfl ?_
              refine j_isub hC dX1_readComparison_118 ?_
              refine j_sub [2, 1, 0] rfl ?_
              refine j_stk (st2 := [.int (zi (w (v1 - 97)))]) (by simp only [zi_w, zl_wl]) ?_
              exact J_119 r8 r15 (w (v1 - 97)) hr8 hr15 (inR_w _) M20 h
            · have h := zt c21 h
              refine j_iconst hC dX1_readComparison_111 ?_
              refine j_goto hC dX1_readComparison_112 rfl ?_
              refine j_sub [2, 1, 0] rfl ?_
              exact J_119 r8 r15 3 hr8 hr15 kR_3 M20 h
          · have h := zt c18 h
            refine j_iconst hC dX1_readComparison_93 ?_
            obtain ⟨e1, e2⟩ := zpr2 (Option.some.inj h)
            exact j_iret hC hE dX1_readComparison_94 (w_id kR_0) (zn_z zb01_0) (by rw [← e1]) e2 rfl (by rw [← e1]; exact kR_0) (Nat.le_of_ble_eq_true rfl) (Nat.le_of_ble_eq_true rfl)
      · have h := zt c11 h
        refine j_iconst hC dX1_readComparison_60 ?_
        obtain ⟨e1, e2⟩ := zpr2 (Option.some.inj h)
        exact j_iret hC hE dX1_readComparison_61 (w_id kR_0) (zn_z zb01_0) (by rw [← e1]) e2 rfl (by rw [← e1]; exact kR_0) (Nat.le_of_ble_eq_true rfl) (Nat.le_of_ble_eq_true rfl)
  refine j_aload_n hC 0 dX1_readComparison_0 rfl rfl ?_
  refine j_aload_n hC 0 dX1_readComparison_1 rfl rfl ?_
  refine j_get hC dX1_readComparison_2 f_X1_30 (zFx_kd hF 2 rfl) rfl 4 rfl (fun hg22 => ?_)
  obtain ⟨r23, hy, h⟩ := zb1_ex h
  refine j_callVi (ci := 1) hC hE lk_X1_94 dX1_readComparison_5 (c_X1_characterAt l hlt g (M 2 4) hg22 M S hF hy) [.int (zi (M 2 4))] [] (zFx_kd hF 2 rfl) ⟨_, rfl, by decide, rfl⟩ rfl rfl rfl (zcat (Nat.le_of_ble_eq_true rfl)) (Nat.le_of_ble_eq_true rfl) (Nat.le_of_ble_eq_true rfl) (Nat.le_of_ble_eq_true rfl) (Nat.le_of_ble_eq_true rfl) (fun hp24 => ?_)
  have hr23 := hp24
  refine j_istore_n hC dX1_readComparison_8 rfl (Nat.le_of_ble_eq_true rfl) rfl ?_
  refine j_iload_n hC 0 dX1_readComparison_9 rfl rfl ?_
  refine j_bipush hC dX1_readComparison_10 rfl ?_
  refine j_icmp_eq hC dX1_readComparison_12 rfl (w_id hr23) (w_id kR_35) (fun c25 => ?_) (fun c25 => ?_)
  · have h := zt c25 h
    refine j_sub [1, 0] rfl ?_
    exact J_29 r23 hr23 M h
  · have h := zf c25 h
    refine j_iload_n hC 0 dX1_readComparison_15 rfl rfl ?_
    refine j_bipush hC dX1_readComparison_16 rfl ?_
    refine j_icmp_lt hC dX1_readComparison_18 rfl (w_id hr23) (w_id kR_97) (fun c26 => ?_) (fun c26 => ?_)
    · have h := zt c26 h
      refine j_iconst hC dX1_readComparison_27 ?_
      obtain ⟨e1, e2⟩ := zpr2 (Option.some.inj h)
      exact j_iret hC hE dX1_readComparison_28 (w_id kR_0) (zn_z zb01_0) (by rw [← e1]) e2 rfl (by rw [← e1]; exact kR_0) (Nat.le_of_ble_eq_true rfl) (Nat.le_of_ble_eq_true rfl)
    · have h := zf c26 h
      refine j_iload_n hC 0 dX1_readComparison_21 rfl rfl ?_
      refine j_bipush hC dX1_readComparison_22 rfl ?_
      refine j_icmp_le hC dX1_readComparison_24 rfl (w_id hr23) (w_id kR_99) (fun c27 => ?_) (fun c27 => ?_)
      · have h := zf c27 h
        refine j_sub [1, 0] rfl ?_
        exact J_29 r23 hr23 M h
      · have h := zt c27 h
        refine j_iconst hC dX1_readComparison_27 ?_
        obtain ⟨e1, e2⟩ := zpr2 (Option.some.inj h)
        exact j_iret hC hE dX1_readComparison_28 (w_id kR_0) (zn_z zb01_0) (by rw [← e1]) e2 rfl (by rw [← e1]; exact kR_0) (Nat.le_of_ble_eq_true rfl) (Nat.le_of_ble_eq_true rfl)
set_option maxHeartbeats 8000000 in
set_option maxRecDepth 100000 in
theorem c_GP (l : Launch) (hlt : l.stackTraces = false) (g : zG) : ∀ n : Nat, (∀ (v1 : Int) (hv1 : inR v1) (M : zM) (S : zS) (_ : zFx S) (r : Int) (M' : zM) (_ : F_GP n 0 v1 M = some (r, M')), zMet l g yX1_readAlternatives cX1_readAlternatives 4 (some .boolean) (3 + n) 0 0 [zr g 2, .int (zi v1)] M S (.inl (some (.int (zi r)))) M' S (inR r)) ∧ (∀ (v1 : Int) (hv1 : inR v1) (M : zM) (S : zS) (_ : zFx S) (r : Int) (M' : zM) (_ : F_GP n 1 v1 M = some (r, M')), zMet l g yX1_readConjunction cX1_readConjunction 4 (some .boolean) (3 + n) 0 0 [zr g 2, .int (zi v1)] M S (.inl (some (.int (zi r)))) M' S (inR r)) ∧ (∀ (v1 : Int) (hv1 : inR v1) (M : zM) (S : zS) (_ : zFx S) (r : Int) (M' : zM) (_ : F_GP n 2 v1 M = some (r, M')), zMet l g yX1_readCondition cX1_readCondition 2 (some .boolean) (3 + n) 0 0 [zr g 2, .int (zi v1)] M S (.inl (some (.int (zi r)))) M' S (inR r)) := by
  intro n
  induction n with
  | zero => exact ⟨(by intro v1 hv1 M S hF r M' h; cases h), (by intro v1 hv1 M S hF r M' h; cases h), (by intro v1 hv1 M S hF r M' h; cases h)⟩
  | succ n ih =>
    obtain ⟨ihG0, ihG1, ihG2⟩ := ih
    have erc : ∃ rc, rc = F_GP n := ⟨_, rfl⟩
    obtain ⟨rc, erc⟩ := erc
    refine ⟨?_, ?_, ?_⟩
    · intro v1 hv1 M S hF r M' h
      have h : F_X1_readAlternatives rc v1 M = some (r, M') := by rw [erc]; exact h
      rw [← erc] at ihG0 ihG1 ihG2
      refine zMet_of (by decide) hlt [(0, zr g 2), (1, .int (zi v1))] rfl (Nat.le_of_ble_eq_true rfl) (fun K hC hE hN => ?_)
      unfold F_X1_readAlternatives at h
      have J_56 : ∀ (v2 : Int) (hv2 : inR v2) (M : zM) (_ : F_X1_readAlternatives_J56 rc v2 M = some (r, M')), zJ K g 0 0 56 4 [(2, .int (zi v2))] [] M S := by
        intro v2 hv2 M h
        unfold F_X1_readAlternatives_J56 at h
        refine j_iload_n hC 0 dX1_readAlternatives_56 rfl rfl ?_
        obtain ⟨c1, h⟩ := zchk_ex h
        obtain ⟨e1, e2⟩ := zpr2 (Option.some.inj h)
        exact j_iret hC hE dX1_readAlternatives_57 (w_id hv2) (zn_z c1) (by rw [← e1]) e2 rfl (by rw [← e1]; exact hv2) (Nat.le_of_ble_eq_true rfl) (Nat.le_of_ble_eq_true rfl)
      have L_8 : ∀ (v1 : Int) (v2 : Int) (v3 : Int) (hv1 : inR v1) (hv2 : inR v2) (hv3 : inR v3) (M : zM) (_ : F_X1_readAlternatives_L8 rc v1 v2 v3 M = some (r, M')), zJ K g 0 0 8 4 [(0, zr g 2), (1, .int (zi v1)), (2, .int (zi v2)), (3, .int (zi v3))] [] M S := by
        intro v1 v2 v3 hv1 hv2 hv3 M h
        unfold F_X1_readAlternatives_L8 at h
        obtain ⟨ex8, hl, hd8⟩ := zb1_ex h
        obtain ⟨bd8, ebd⟩ : ∃ f, f = (fun (s : Int × Int × zM) => F_X1_readAlternatives_B8 rc v1 s.1 s.2.1 s.2.2) := ⟨_, rfl⟩
        rw [← ebd] at hl
        have main : ∀ (n8 : Nat) (v2 : Int) (v3 : Int) (hv2 : inR v2) (hv3 : inR v3) (M : zM) (_ : zloop bd8 n8 (v2, v3, M) = some ex8), zJ K g 0 0 8 4 [(0, zr g 2), (1, .int (zi v1)), (2, .int (zi v2)), (3, .int (zi v3))] [] M S := by
          intro n8
          induction n8 with
          | zero => intro v2 v3 hv2 hv3 M hl; exact zloop_0 hl
          | succ n8 ih8 =>
            have J_49 : ∀ (v3 : Int) (t0 : Int) (hv3 : inR v3) (ht0 : inR t0) (M : zM) (o : _) (_ : F_X1_readAlternatives_J49 rc v1 v3 t0 M = some o), zAft (bd8) n8 ex8 o → zJ K g 0 0 49 4 [(0, zr g 2), (1, .int (zi v1)), (3, .int (zi v3))] [.int (zi t0)] M S := by
              intro v3 t0 hv3 ht0 M o h hT
              unfold F_X1_readAlternatives_J49 at h
              refine j_istore_n hC dX1_readAlternatives_49 rfl (Nat.le_of_ble_eq_true rfl) rfl ?_
              obtain ⟨x2, ex2, h⟩ := zlet_ex h
              have hx2 : inR x2 := by rw [ex2]; exact inR_w _
              refine j_iinc hC 3 dX1_readAlternatives_50 rfl ex2 (Nat.le_of_ble_eq_true rfl) rfl ?_
              refine j_goto hC dX1_readAlternatives_53 rfl ?_
              obtain rfl := Option.some.inj h
              refine j_sub [2, 3, 1, 0] rfl ?_
              exact ih8 t0 x2 ht0 hx2 M hT
            have J_48 : ∀ (v3 : Int) (hv3 : inR v3) (M : zM) (o : _) (_ : F_X1_readAlternatives_J48 rc v1 v3 M = some o), zAft (bd8) n8 ex8 o → zJ K g 0 0 48 4 [(0, zr g 2), (1, .int (zi v1)), (3, .int (zi v3))] [] M S := by
              intro v3 hv3 M o h hT
              unfold F_X1_readAlternatives_J48 at h
              refine j_iconst hC dX1_readAlternatives_48 ?_
              exact J_49 v3 0 hv3 kR_0 M _ h hT
            intro v2 v3 hv2 hv3 M hl
            obtain ⟨o, h, hT⟩ := zloop_ex hl
            have h : F_X1_readAlternatives_B8 rc v1 v2 v3 M = some o := by rw [ebd] at h; exact h
            unfold F_X1_readAlternatives_B8 at h
            refine j_iload_n hC 3 dX1_readAlternatives_8 rfl rfl ?_
            refine j_bipush hC dX1_readAlternatives_9 rfl ?_
            refine j_icmp_ge hC dX1_readAlternatives_11 rfl (w_id hv3) (w_id kR_60) (fun c3 => ?_) (fun c3 => ?_)
            · have h := zf c3 h
              obtain rfl := Option.some.inj h
              have hx8 := hd8
              rw [← show _ = ex8 from hT] at hx8
              refine j_sub [2] rfl ?_
              exact J_56 v2 hv2 M hx8
            · have h := zt c3 h
              refine j_iload_n hC 2 dX1_readAlternatives_14 rfl rfl ?_
              refine j_if_eq hC dX1_readAlternatives_15 rfl (w_id hv2) (fun c4 => ?_) (fun c4 => ?_)
              · have h := zt c4 h
                obtain rfl := Option.some.inj h
                have hx8 := hd8
                rw [← show _ = ex8 from hT] at hx8
                refine j_sub [2] rfl ?_
                exact J_56 v2 hv2 M hx8
              · have h := zf c4 h
                refine j_aload_n hC 0 dX1_readAlternatives_18 rfl rfl ?_
                refine j_bipush hC dX1_readAlternatives_19 rfl ?_
                obtain ⟨r5, M6, hy, h⟩ := zb2_ex h
                refine j_callVi (ci := 1) hC hE lk_X1_115 dX1_readAlternatives_21 (c_X1_skip l hlt g 124 kR_124 M S hF hy) [.int (zi 124)] [] (zFx_kd hF 2 rfl) ⟨_, rfl, by decide, rfl⟩ rfl rfl rfl (zcat (Nat.le_of_ble_eq_true rfl)) (Nat.le_of_ble_eq_true rfl) (by omega) (Nat.le_of_ble_eq_true rfl) (Nat.le_of_ble_eq_true rfl) (fun hp7 => ?_)
                have hr5 := hp7
                refine j_if_eq hC dX1_readAlternatives_24 rfl (w_id hr5) (fun c8 => ?_) (fun c8 => ?_)
                · have h := zt c8 h
                  obtain rfl := Option.some.inj h
                  have hx8 := hd8
                  rw [← show _ = ex8 from hT] at hx8
                  refine j_sub [2] rfl ?_
                  exact J_56 v2 hv2 M6 hx8
                · have h := zf c8 h
                  refine j_aload_n hC 0 dX1_readAlternatives_27 rfl rfl ?_
                  refine j_iload_n hC 1 dX1_readAlternatives_28 rfl rfl ?_
                  obtain ⟨r9, M10, hy, h⟩ := zb2_ex h
                  refine j_callVi (ci := 1) hC hE lk_X1_126 dX1_readAlternatives_29 (ihG1 v1 hv1 M6 S hF _ _ hy) [.int (zi v1)] [] (zFx_kd hF 2 rfl) ⟨_, rfl, by decide, rfl⟩ rfl rfl rfl (zcat (Nat.le_of_ble_eq_true rfl)) (Nat.le_of_ble_eq_true rfl) (by omega) (Nat.le_of_ble_eq_true rfl) (Nat.le_of_ble_eq_true rfl) (fun hp11 => ?_)
                  have hr9 := hp11
                  refine j_if_eq hC dX1_readAlternatives_32 rfl (w_id hr9) (fun c12 => ?_) (fun c12 => ?_)
                  · have h := zt c12 h
                    refine j_sub [0, 1, 3] rfl ?_
                    exact J_48 v3 hv3 M10 _ h hT
                  · have h := zf c12 h
                    refine j_aload_n hC 0 dX1_readAlternatives_35 rfl rfl ?_
                    refine j_iconst hC dX1_readAlternatives_36 ?_
                    refine j_iconst hC dX1_readAlternatives_37 ?_
                    obtain ⟨r13, M14, hy, h⟩ := zb2_ex h
                    refine j_callVi (ci := 1) hC hE lk_X1_131 dX1_readAlternatives_38 (c_X1_addStep l hlt g 3 0 kR_3 kR_0 M10 S hF hy) [.int (zi 3), .int (zi 0)] [] (zFx_kd hF 2 rfl) ⟨_, rfl, by decide, rfl⟩ rfl rfl rfl (zcat (Nat.le_of_ble_eq_true rfl)) (Nat.le_of_ble_eq_true rfl) (by omega) (Nat.le_of_ble_eq_true rfl) (Nat.le_of_ble_eq_true rfl) (fun hp15 => ?_)
                    have hr13 := hp15
                    refine j_if_eq hC dX1_readAlternatives_41 rfl (w_id hr13) (fun c16 => ?_) (fun c16 => ?_)
                    · have h := zt c16 h
                      refine j_sub [0, 1, 3] rfl ?_
                      exact J_48 v3 hv3 M14 _ h hT
                    · have h := zf c16 h
                      refine j_iconst hC dX1_readAlternatives_44 ?_
                      refine j_goto hC dX1_readAlternatives_45 rfl ?_
                      refine j_sub [0, 1, 3] rfl ?_
                      exact J_49 v3 1 hv3 kR_1 M14 _ h hT
        exact main zN v2 v3 hv2 hv3 M hl
      refine j_aload_n hC 0 dX1_readAlternatives_0 rfl rfl ?_
      refine j_iload_n hC 1 dX1_readAlternatives_1 rfl rfl ?_
      obtain ⟨r17, M18, hy, h⟩ := zb2_ex h
      refine j_callVi (ci := 1) hC hE lk_X1_126 dX1_readAlternatives_2 (ihG1 v1 hv1 M S hF _ _ hy) [.int (zi v1)] [] (zFx_kd hF 2 rfl) ⟨_, rfl, by decide, rfl⟩ rfl rfl rfl (zcat (Nat.le_of_ble_eq_true rfl)) (Nat.le_of_ble_eq_true rfl) (by omega) (Nat.le_of_ble_eq_true rfl) (Nat.le_of_ble_eq_true rfl) (fun hp19 => ?_)
      have hr17 := hp19
      refine j_istore_n hC dX1_readAlternatives_5 rfl (Nat.le_of_ble_eq_true rfl) rfl ?_
      refine j_iconst hC dX1_readAlternatives_6 ?_
      refine j_istore_n hC dX1_readAlternatives_7 rfl (Nat.le_of_ble_eq_true rfl) rfl ?_
      refine j_sub [2, 3, 1, 0] rfl ?_
      exact L_8 v1 r17 0 hv1 hr17 kR_0 M18 h
    · intro v1 hv1 M S hF r M' h
      have h : F_X1_readConjunction rc v1 M = some (r, M') := by rw [erc]; exact h
      rw [← erc] at ihG0 ihG1 ihG2
      refine zMet_of (by decide) hlt [(0, zr g 2), (1, .int (zi v1))] rfl (Nat.le_of_ble_eq_true rfl) (fun K hC hE hN => ?_)
      unfold F_X1_readConjunction at h
      have J_56 : ∀ (v2 : Int) (hv2 : inR v2) (M : zM) (_ : F_X1_readConjunction_J56 rc v2 M = some (r, M')), zJ K g 0 0 56 4 [(2, .int (zi v2))] [] M S := by
        intro v2 hv2 M h
        unfold F_X1_readConjunction_J56 at h
        refine j_iload_n hC 0 dX1_readConjunction_56 rfl rfl ?_
        obtain ⟨c1, h⟩ := zchk_ex h
        obtain ⟨e1, e2⟩ := zpr2 (Option.some.inj h)
        exact j_iret hC hE dX1_readConjunction_57 (w_id hv2) (zn_z c1) (by rw [← e1]) e2 rfl (by rw [← e1]; exact hv2) (Nat.le_of_ble_eq_true rfl) (Nat.le_of_ble_eq_true rfl)
      have L_8 : ∀ (v1 : Int) (v2 : Int) (v3 : Int) (hv1 : inR v1) (hv2 : inR v2) (hv3 : inR v3) (M : zM) (_ : F_X1_readConjunction_L8 rc v1 v2 v3 M = some (r, M')), zJ K g 0 0 8 4 [(0, zr g 2), (1, .int (zi v1)), (2, .int (zi v2)), (3, .int (zi v3))] [] M S := by
        intro v1 v2 v3 hv1 hv2 hv3 M h
        unfold F_X1_readConjunction_L8 at h
        obtain ⟨ex8, hl, hd8⟩ := zb1_ex h
        obtain ⟨bd8, ebd⟩ : ∃ f, f = (fun (s : Int × Int × zM) => F_X1_readConjunction_B8 rc v1 s.1 s.2.1 s.2.2) := ⟨_, rfl⟩
        rw [← ebd] at hl
        have main : ∀ (n8 : Nat) (v2 : Int) (v3 : Int) (hv2 : inR v2) (hv3 : inR v3) (M : zM) (_ : zloop bd8 n8 (v2, v3, M) = some ex8), zJ K g 0 0 8 4 [(0, zr g 2), (1, .int (zi v1)), (2, .int (zi v2)), (3, .int (zi v3))] [] M S := by
          intro n8
          induction n8 with
          | zero => intro v2 v3 hv2 hv3 M hl; exact zloop_0 hl
          | succ n8 ih8 =>
            have J_49 : ∀ (v3 : Int) (t0 : Int) (hv3 : inR v3) (ht0 : inR t0) (M : zM) (o : _) (_ : F_X1_readConjunction_J49 rc v1 v3 t0 M = some o), zAft (bd8) n8 ex8 o → zJ K g 0 0 49 4 [(0, zr g 2), (1, .int (zi v1)), (3, .int (zi v3))] [.int (zi t0)] M S := by
              intro v3 t0 hv3 ht0 M o h hT
              unfold F_X1_readConjunction_J49 at h
              refine j_istore_n hC dX1_readConjunction_49 rfl (Nat.le_of_ble_eq_true rfl) rfl ?_
              obtain ⟨x2, ex2, h⟩ := zlet_ex h
              have hx2 : inR x2 := by rw [ex2]; exact inR_w _
              refine j_iinc hC 3 dX1_readConjunction_50 rfl ex2 (Nat.le_of_ble_eq_true rfl) rfl ?_
              refine j_goto hC dX1_readConjunction_53 rfl ?_
              obtain rfl := Option.some.inj h
              refine j_sub [2, 3, 1, 0] rfl ?_
              exact ih8 t0 x2 ht0 hx2 M hT
            have J_48 : ∀ (v3 : Int) (hv3 : inR v3) (M : zM) (o : _) (_ : F_X1_readConjunction_J48 rc v1 v3 M = some o), zAft (bd8) n8 ex8 o → zJ K g 0 0 48 4 [(0, zr g 2), (1, .int (zi v1)), (3, .int (zi v3))] [] M S := by
              intro v3 hv3 M o h hT
              unfold F_X1_readConjunction_J48 at h
              refine j_iconst hC dX1_readConjunction_48 ?_
              exact J_49 v3 0 hv3 kR_0 M _ h hT
            intro v2 v3 hv2 hv3 M hl
            obtain ⟨o, h, hT⟩ := zloop_ex hl
            have h : F_X1_readConjunction_B8 rc v1 v2 v3 M = some o := by rw [ebd] at h; exact h
            unfold F_X1_readConjunction_B8 at h
            refine j_iload_n hC 3 dX1_readConjunction_8 rfl rfl ?_
            refine j_bipush hC dX1_readConjunction_9 rfl ?_
            refine j_icmp_ge hC dX1_readConjunction_11 rfl (w_id hv3) (w_id kR_60) (fun c3 => ?_) (fun c3 => ?_)
            · have h := zf c3 h
              obtain rfl := Option.some.inj h
              have hx8 := hd8
              rw [← show _ = ex8 from hT] at hx8
              refine j_sub [2] rfl ?_
              exact J_56 v2 hv2 M hx8
            · have h := zt c3 h
              refine j_iload_n hC 2 dX1_readConjunction_14 rfl rfl ?_
              refine j_if_eq hC dX1_readConjunction_15 rfl (w_id hv2) (fun c4 => ?_) (fun c4 => ?_)
              · have h := zt c4 h
                obtain rfl := Option.some.inj h
                have hx8 := hd8
                rw [← show _ = ex8 from hT] at hx8
                refine j_sub [2] rfl ?_
                exact J_56 v2 hv2 M hx8
              · have h := zf c4 h
                refine j_aload_n hC 0 dX1_readConjunction_18 rfl rfl ?_
                refine j_bipush hC dX1_readConjunction_19 rfl ?_
                obtain ⟨r5, M6, hy, h⟩ := zb2_ex h
                refine j_callVi (ci := 1) hC hE lk_X1_115 dX1_readConjunction_21 (c_X1_skip l hlt g 38 kR_38 M S hF hy) [.int (zi 38)] [] (zFx_kd hF 2 rfl) ⟨_, rfl, by decide, rfl⟩ rfl rfl rfl (zcat (Nat.le_of_ble_eq_true rfl)) (Nat.le_of_ble_eq_true rfl) (by omega) (Nat.le_of_ble_eq_true rfl) (Nat.le_of_ble_eq_true rfl) (fun hp7 => ?_)
                have hr5 := hp7
                refine j_if_eq hC dX1_readConjunction_24 rfl (w_id hr5) (fun c8 => ?_) (fun c8 => ?_)
                · have h := zt c8 h
                  obtain rfl := Option.some.inj h
                  have hx8 := hd8
                  rw [← show _ = ex8 from hT] at hx8
                  refine j_sub [2] rfl ?_
                  exact J_56 v2 hv2 M6 hx8
                · have h := zf c8 h
                  refine j_aload_n hC 0 dX1_readConjunction_27 rfl rfl ?_
                  refine j_iload_n hC 1 dX1_readConjunction_28 rfl rfl ?_
                  obtain ⟨r9, M10, hy, h⟩ := zb2_ex h
                  refine j_callVi (ci := 1) hC hE lk_X1_135 dX1_readConjunction_29 (ihG2 v1 hv1 M6 S hF _ _ hy) [.int (zi v1)] [] (zFx_kd hF 2 rfl) ⟨_, rfl, by decide, rfl⟩ rfl rfl rfl (zcat (Nat.le_of_ble_eq_true rfl)) (Nat.le_of_ble_eq_true rfl) (by omega) (Nat.le_of_ble_eq_true rfl) (Nat.le_of_ble_eq_true rfl) (fun hp11 => ?_)
                  have hr9 := hp11
                  refine j_if_eq hC dX1_readConjunction_32 rfl (w_id hr9) (fun c12 => ?_) (fun c12 => ?_)
                  · have h := zt c12 h
                    refine j_sub [0, 1, 3] rfl ?_
                    exact J_48 v3 hv3 M10 _ h hT
                  · have h := zf c12 h
                    refine j_aload_n hC 0 dX1_readConjunction_35 rfl rfl ?_
                    refine j_iconst hC dX1_readConjunction_36 ?_
                    refine j_iconst hC dX1_readConjunction_37 ?_
                    obtain ⟨r13, M14, hy, h⟩ := zb2_ex h
                    refine j_callVi (ci := 1) hC hE lk_X1_131 dX1_readConjunction_38 (c_X1_addStep l hlt g 2 0 kR_2 kR_0 M10 S hF hy) [.int (zi 2), .int (zi 0)] [] (zFx_kd hF 2 rfl) ⟨_, rfl, by decide, rfl⟩ rfl rfl rfl (zcat (Nat.le_of_ble_eq_true rfl)) (Nat.le_of_ble_eq_true rfl) (by omega) (Nat.le_of_ble_eq_true rfl) (Nat.le_of_ble_eq_true rfl) (fun hp15 => ?_)
                    have hr13 := hp15
                    refine j_if_eq hC dX1_readConjunction_41 rfl (w_id hr13) (fun c16 => ?_) (fun c16 => ?_)
                    · have h := zt c16 h
                      refine j_sub [0, 1, 3] rfl ?_
                      exact J_48 v3 hv3 M14 _ h hT
                    · have h := zf c16 h
                      refine j_iconst hC dX1_readConjunction_44 ?_
                      refine j_goto hC dX1_readConjunction_45 rfl ?_
                      refine j_sub [0, 1, 3] rfl ?_
                      exact J_49 v3 1 hv3 kR_1 M14 _ h hT
        exact main zN v2 v3 hv2 hv3 M hl
      refine j_aload_n hC 0 dX1_readConjunction_0 rfl rfl ?_
      refine j_iload_n hC 1 dX1_readConjunction_1 rfl rfl ?_
      obtain ⟨r17, M18, hy, h⟩ := zb2_ex h
      refine j_callVi (ci := 1) hC hE lk_X1_135 dX1_readConjunction_2 (ihG2 v1 hv1 M S hF _ _ hy) [.int (zi v1)] [] (zFx_kd hF 2 rfl) ⟨_, rfl, by decide, rfl⟩ rfl rfl rfl (zcat (Nat.le_of_ble_eq_true rfl)) (Nat.le_of_ble_eq_true rfl) (by omega) (Nat.le_of_ble_eq_true rfl) (Nat.le_of_ble_eq_true rfl) (fun hp19 => ?_)
      have hr17 := hp19
      refine j_istore_n hC dX1_readConjunction_5 rfl (Nat.le_of_ble_eq_true rfl) rfl ?_
      refine j_iconst hC dX1_readConjunction_6 ?_
      refine j_istore_n hC dX1_readConjunction_7 rfl (Nat.le_of_ble_eq_true rfl) rfl ?_
      refine j_sub [2, 3, 1, 0] rfl ?_
      exact L_8 v1 r17 0 hv1 hr17 kR_0 M18 h
    · intro v1 hv1 M S hF r M' h
      have h : F_X1_readCondition rc v1 M = some (r, M') := by rw [erc]; exact h
      rw [← erc] at ihG0 ihG1 ihG2
      refine zMet_of (by decide) hlt [(0, zr g 2), (1, .int (zi v1))] rfl (Nat.le_of_ble_eq_true rfl) (fun K hC hE hN => ?_)
      unfold F_X1_readCondition at h
      have J_106 : ∀ (M : zM) (_ : F_X1_readCondition_J106 rc M = some (r, M')), zJ K g 0 0 106 2 [] [] M S := by
        intro M h
        unfold F_X1_readCondition_J106 at h
        refine j_iconst hC dX1_readCondition_106 ?_
        obtain ⟨e1, e2⟩ := zpr2 (Option.some.inj h)
        exact j_iret hC hE dX1_readCondition_107 (w_id kR_0) (zn_z zb01_0) (by rw [← e1]) e2 rfl (by rw [← e1]; exact kR_0) (Nat.le_of_ble_eq_true rfl) (Nat.le_of_ble_eq_true rfl)
      have J_227 : ∀ (M : zM) (_ : F_X1_readCondition_J227 rc M = some (r, M')), zJ K g 0 0 227 2 [] [] M S := by
        intro M h
        unfold F_X1_readCondition_J227 at h
        refine j_iconst hC dX1_readCondition_227 ?_
        obtain ⟨e1, e2⟩ := zpr2 (Option.some.inj h)
        exact j_iret hC hE dX1_readCondition_228 (w_id kR_0) (zn_z zb01_0) (by rw [← e1]) e2 rfl (by rw [← e1]; exact kR_0) (Nat.le_of_ble_eq_true rfl) (Nat.le_of_ble_eq_true rfl)
      have J_146 : ∀ (M : zM) (_ : F_X1_readCondition_J146 rc M = some (r, M')), zJ K g 0 0 146 2 [] [] M S := by
        intro M h
        unfold F_X1_readCondition_J146 at h
        refine j_iconst hC dX1_readCondition_146 ?_
        obtain ⟨e1, e2⟩ := zpr2 (Option.some.inj h)
        exact j_iret hC hE dX1_readCondition_147 (w_id kR_0) (zn_z zb01_0) (by rw [← e1]) e2 rfl (by rw [← e1]; exact kR_0) (Nat.le_of_ble_eq_true rfl) (Nat.le_of_ble_eq_true rfl)
      have J_170 : ∀ (M : zM) (_ : F_X1_readCondition_J170 rc M = some (r, M')), zJ K g 0 0 170 2 [] [] M S := by
        intro M h
        unfold F_X1_readCondition_J170 at h
        refine j_iconst hC dX1_readCondition_170 ?_
        obtain ⟨e1, e2⟩ := zpr2 (Option.some.inj h)
        exact j_iret hC hE dX1_readCondition_171 (w_id kR_0) (zn_z zb01_0) (by rw [← e1]) e2 rfl (by rw [← e1]; exact kR_0) (Nat.le_of_ble_eq_true rfl) (Nat.le_of_ble_eq_true rfl)
      have J_198 : ∀ (M : zM) (_ : F_X1_readCondition_J198 rc M = some (r, M')), zJ K g 0 0 198 2 [] [] M S := by
        intro M h
        unfold F_X1_readCondition_J198 at h
        refine j_iconst hC dX1_readCondition_198 ?_
        obtain ⟨e1, e2⟩ := zpr2 (Option.some.inj h)
        exact j_iret hC hE dX1_readCondition_199 (w_id kR_0) (zn_z zb01_0) (by rw [← e1]) e2 rfl (by rw [← e1]; exact kR_0) (Nat.le_of_ble_eq_true rfl) (Nat.le_of_ble_eq_true rfl)
      have J_256 : ∀ (M : zM) (_ : F_X1_readCondition_J256 rc M = some (r, M')), zJ K g 0 0 256 2 [] [] M S := by
        intro M h
        unfold F_X1_readCondition_J256 at h
        refine j_iconst hC dX1_readCondition_256 ?_
        obtain ⟨e1, e2⟩ := zpr2 (Option.some.inj h)
        exact j_iret hC hE dX1_readCondition_257 (w_id kR_0) (zn_z zb01_0) (by rw [← e1]) e2 rfl (by rw [← e1]; exact kR_0) (Nat.le_of_ble_eq_true rfl) (Nat.le_of_ble_eq_true rfl)
      refine j_aload_n hC 0 dX1_readCondition_0 rfl rfl ?_
      refine j_aload_n hC 0 dX1_readCondition_1 rfl rfl ?_
      refine j_get hC dX1_readCondition_2 f_X1_30 (zFx_kd hF 2 rfl) rfl 4 rfl (fun hg1 => ?_)
      obtain ⟨r2, hy, h⟩ := zb1_ex h
      refine j_callVi (ci := 1) hC hE lk_X1_94 dX1_readCondition_5 (c_X1_characterAt l hlt g (M 2 4) hg1 M S hF hy) [.int (zi (M 2 4))] [] (zFx_kd hF 2 rfl) ⟨_, rfl, by decide, rfl⟩ rfl rfl rfl (zcat (Nat.le_of_ble_eq_true rfl)) (Nat.le_of_ble_eq_true rfl) (by omega) (Nat.le_of_ble_eq_true rfl) (Nat.le_of_ble_eq_true rfl) (fun hp3 => ?_)
      have hr2 := hp3
      by_cases c4 : r2 = 33
      · have h := zt c4 h
        refine j_lsw hC dX1_readCondition_8 (w_id hr2) (by decide) (off := 60) (by rw [c4]; rfl) rfl ?_
        refine j_iload_n hC 1 dX1_readCondition_68 rfl rfl ?_
        refine j_bipush hC dX1_readCondition_69 rfl ?_
        refine j_icmp_ge hC dX1_readCondition_71 rfl (w_id hv1) (w_id kR_6) (fun c5 => ?_) (fun c5 => ?_)
        · have h := zf c5 h
          refine j_sub [] rfl ?_
          exact J_106 M h
        · have h := zt c5 h
          refine j_aload_n hC 0 dX1_readCondition_74 rfl rfl ?_
          refine j_bipush hC dX1_readCondition_75 rfl ?_
          obtain ⟨r6, M7, hy, h⟩ := zb2_ex h
          refine j_callVi (ci := 1) hC hE lk_X1_115 dX1_readCondition_77 (c_X1_skip l hlt g 33 kR_33 M S hF hy) [.int (zi 33)] [] (zFx_kd hF 2 rfl) ⟨_, rfl, by decide, rfl⟩ rfl rfl rfl (zcat (Nat.le_of_ble_eq_true rfl)) (Nat.le_of_ble_eq_true rfl) (by omega) (Nat.le_of_ble_eq_true rfl) (Nat.le_of_ble_eq_true rfl) (fun hp8 => ?_)
          have hr6 := hp8
          refine j_if_eq hC dX1_readCondition_80 rfl (w_id hr6) (fun c9 => ?_) (fun c9 => ?_)
          · have h := zt c9 h
            refine j_sub [] rfl ?_
            exact J_106 M7 h
          · have h := zf c9 h
            refine j_aload_n hC 0 dX1_readCondition_83 rfl rfl ?_
            refine j_iload_n hC 1 dX1_readCondition_84 rfl rfl ?_
            refine j_iconst hC dX1_readCondition_85 ?_
            refine j_iadd hC dX1_readCondition_86 ?_
            obtain ⟨r10, M11, hy, h⟩ := zb2_ex h
            refine j_callVi (ci := 1) hC hE lk_X1_135 dX1_readCondition_87 (ihG2 (w (v1 + 1)) (inR_w _) M7 S hF _ _ hy) [.int (zi (v1 + 1))] [] (zFx_kd hF 2 rfl) ⟨_, rfl, by decide, rfl⟩ rfl (by simp only [zi_w, zl_wl]) rfl (zcat (Nat.le_of_ble_eq_true rfl)) (Nat.le_of_ble_eq_true rfl) (by omega) (Nat.le_of_ble_eq_true rfl) (Nat.le_of_ble_eq_true rfl) (fun hp12 => ?_)
            have hr10 := hp12
            refine j_if_eq hC dX1_readCondition_90 rfl (w_id hr10) (fun c13 => ?_) (fun c13 => ?_)
            · have h := zt c13 h
              refine j_sub [] rfl ?_
              exact J_106 M11 h
            · have h := zf c13 h
              refine j_aload_n hC 0 dX1_readCondition_93 rfl rfl ?_
              refine j_iconst hC dX1_readCondition_94 ?_
              refine j_iconst hC dX1_readCondition_95 ?_
              obtain ⟨r14, M15, hy, h⟩ := zb2_ex h
              refine j_callVi (ci := 1) hC hE lk_X1_131 dX1_readCondition_96 (c_X1_addStep l hlt g 1 0 kR_1 kR_0 M11 S hF hy) [.int (zi 1), .int (zi 0)] [] (zFx_kd hF 2 rfl) ⟨_, rfl, by decide, rfl⟩ rfl rfl rfl (zcat (Nat.le_of_ble_eq_true rfl)) (Nat.le_of_ble_eq_true rfl) (by omega) (Nat.le_of_ble_eq_true rfl) (Nat.le_of_ble_eq_true rfl) (fun hp16 => ?_)
              have hr14 := hp16
              refine j_if_eq hC dX1_readCondition_99 rfl (w_id hr14) (fun c17 => ?_) (fun c17 => ?_)
              · have h := zt c17 h
                refine j_sub [] rfl ?_
                exact J_106 M15 h
              · have h := zf c17 h
                refine j_iconst hC dX1_readCondition_102 ?_
                refine j_goto hC dX1_readCondition_103 rfl ?_
                obtain ⟨e1, e2⟩ := zpr2 (Option.some.inj h)
                exact j_iret hC hE dX1_readCondition_107 (w_id kR_1) (zn_z zb01_1) (by rw [← e1]) e2 rfl (by rw [← e1]; exact kR_1) (Nat.le_of_ble_eq_true rfl) (Nat.le_of_ble_eq_true rfl)
      have h := zf c4 h
      by_cases c18 : r2 = 36
      · have h := zt c18 h
        refine j_lsw hC dX1_readCondition_8 (w_id hr2) (by decide) (off := 192) (by rw [c18]; rfl) rfl ?_
        refine j_aload_n hC 0 dX1_readCondition_200 rfl rfl ?_
        refine j_bipush hC dX1_readCondition_201 rfl ?_
        obtain ⟨r19, M20, hy, h⟩ := zb2_ex h
        refine j_callVi (ci := 1) hC hE lk_X1_115 dX1_readCondition_203 (c_X1_skip l hlt g 36 kR_36 M S hF hy) [.int (zi 36)] [] (zFx_kd hF 2 rfl) ⟨_, rfl, by decide, rfl⟩ rfl rfl rfl (zcat (Nat.le_of_ble_eq_true rfl)) (Nat.le_of_ble_eq_true rfl) (by omega) (Nat.le_of_ble_eq_true rfl) (Nat.le_of_ble_eq_true rfl) (fun hp21 => ?_)
        have hr19 := hp21
        refine j_if_eq hC dX1_readCondition_206 rfl (w_id hr19) (fun c22 => ?_) (fun c22 => ?_)
        · have h := zt c22 h
          refine j_sub [] rfl ?_
          exact J_227 M20 h
        · have h := zf c22 h
          refine j_aload_n hC 0 dX1_readCondition_209 rfl rfl ?_
          refine j_bipush hC dX1_readCondition_210 rfl ?_
          refine j_aload_n hC 0 dX1_readCondition_212 rfl rfl ?_
          refine j_iconst hC dX1_readCondition_213 ?_
          obtain ⟨r23, M24, hy, h⟩ := zb2_ex h
          refine j_callVi (ci := 1) hC hE lk_X1_106 dX1_readCondition_214 (c_X1_readLetters l hlt g 3 kR_3 M20 S hF hy) [.int (zi 3)] [.int (zi 6), zr g 2] (zFx_kd hF 2 rfl) ⟨_, rfl, by decide, rfl⟩ rfl rfl rfl (zcat (Nat.le_of_ble_eq_true rfl)) (Nat.le_of_ble_eq_true rfl) (by omega) (Nat.le_of_ble_eq_true rfl) (Nat.le_of_ble_eq_true rfl) (fun hp25 => ?_)
          have hr23 := hp25
          obtain ⟨r26, M27, hy, h⟩ := zb2_ex h
          refine j_callVi (ci := 1) hC hE lk_X1_138 dX1_readCondition_217 (c_X1_addPattern l hlt g 6 r23 kR_6 hr23 M24 S hF hy) [.int (zi 6), .int (zi r23)] [] (zFx_kd hF 2 rfl) ⟨_, rfl, by decide, rfl⟩ rfl rfl rfl (zcat (Nat.le_of_ble_eq_true rfl)) (Nat.le_of_ble_eq_true rfl) (by omega) (Nat.le_of_ble_eq_true rfl) (Nat.le_of_ble_eq_true rfl) (fun hp28 => ?_)
          have hr26 := hp28
          refine j_if_eq hC dX1_readCondition_220 rfl (w_id hr26) (fun c29 => ?_) (fun c29 => ?_)
          · have h := zt c29 h
            refine j_sub [] rfl ?_
            exact J_227 M27 h
          · have h := zf c29 h
            refine j_iconst hC dX1_readCondition_223 ?_
            refine j_goto hC dX1_readCondition_224 rfl ?_
            obtain ⟨e1, e2⟩ := zpr2 (Option.some.inj h)
            exact j_iret hC hE dX1_readCondition_228 (w_id kR_1) (zn_z zb01_1) (by rw [← e1]) e2 rfl (by rw [← e1]; exact kR_1) (Nat.le_of_ble_eq_true rfl) (Nat.le_of_ble_eq_true rfl)
      have h := zf c18 h
      by_cases c30 : r2 = 40
      · have h := zt c30 h
        refine j_lsw hC dX1_readCondition_8 (w_id hr2) (by decide) (off := 100) (by rw [c30]; rfl) rfl ?_
        refine j_iload_n hC 1 dX1_readCondition_108 rfl rfl ?_
        refine j_bipush hC dX1_readCondition_109 rfl ?_
        refine j_icmp_ge hC dX1_readCondition_111 rfl (w_id hv1) (w_id kR_6) (fun c31 => ?_) (fun c31 => ?_)
        · have h := zf c31 h
          refine j_sub [] rfl ?_
          exact J_146 M h
        · have h := zt c31 h
          refine j_aload_n hC 0 dX1_readCondition_114 rfl rfl ?_
          refine j_bipush hC dX1_readCondition_115 rfl ?_
          obtain ⟨r32, M33, hy, h⟩ := zb2_ex h
          refine j_callVi (ci := 1) hC hE lk_X1_115 dX1_readCondition_117 (c_X1_skip l hlt g 40 kR_40 M S hF hy) [.int (zi 40)] [] (zFx_kd hF 2 rfl) ⟨_, rfl, by decide, rfl⟩ rfl rfl rfl (zcat (Nat.le_of_ble_eq_true rfl)) (Nat.le_of_ble_eq_true rfl) (by omega) (Nat.le_of_ble_eq_true rfl) (Nat.le_of_ble_eq_true rfl) (fun hp34 => ?_)
          have hr32 := hp34
          refine j_if_eq hC dX1_readCondition_120 rfl (w_id hr32) (fun c35 => ?_) (fun c35 => ?_)
          · have h := zt c35 h
            refine j_sub [] rfl ?_
            exact J_146 M33 h
          · have h := zf c35 h
            refine j_aload_n hC 0 dX1_readCondition_123 rfl rfl ?_
            refine j_iload_n hC 1 dX1_readCondition_124 rfl rfl ?_
            refine j_iconst hC dX1_readCondition_125 ?_
            refine j_iadd hC dX1_readCondition_126 ?_
            obtain ⟨r36, M37, hy, h⟩ := zb2_ex h
            refine j_callVi (ci := 1) hC hE lk_X1_122 dX1_readCondition_127 (ihG0 (w (v1 + 1)) (inR_w _) M33 S hF _ _ hy) [.int (zi (v1 + 1))] [] (zFx_kd hF 2 rfl) ⟨_, rfl, by decide, rfl⟩ rfl (by simp only [zi_w, zl_wl]) rfl (zcat (Nat.le_of_ble_eq_true rfl)) (Nat.le_of_ble_eq_true rfl) (by omega) (Nat.le_of_ble_eq_true rfl) (Nat.le_of_ble_eq_true rfl) (fun hp38 => ?_)
            have hr36 := hp38
            refine j_if_eq hC dX1_readCondition_130 rfl (w_id hr36) (fun c39 => ?_) (fun c39 => ?_)
            · have h := zt c39 h
              refine j_sub [] rfl ?_
              exact J_146 M37 h
            · have h := zf c39 h
              refine j_aload_n hC 0 dX1_readCondition_133 rfl rfl ?_
              refine j_bipush hC dX1_readCondition_134 rfl ?_
              obtain ⟨r40, M41, hy, h⟩ := zb2_ex h
              refine j_callVi (ci := 1) hC hE lk_X1_115 dX1_readCondition_136 (c_X1_skip l hlt g 41 kR_41 M37 S hF hy) [.int (zi 41)] [] (zFx_kd hF 2 rfl) ⟨_, rfl, by decide, rfl⟩ rfl rfl rfl (zcat (Nat.le_of_ble_eq_true rfl)) (Nat.le_of_ble_eq_true rfl) (by omega) (Nat.le_of_ble_eq_true rfl) (Nat.le_of_ble_eq_true rfl) (fun hp42 => ?_)
              have hr40 := hp42
              refine j_if_eq hC dX1_readCondition_139 rfl (w_id hr40) (fun c43 => ?_) (fun c43 => ?_)
              · have h := zt c43 h
                refine j_sub [] rfl ?_
                exact J_146 M41 h
              · have h := zf c43 h
                refine j_iconst hC dX1_readCondition_142 ?_
                refine j_goto hC dX1_readCondition_143 rfl ?_
                obtain ⟨e1, e2⟩ := zpr2 (Option.some.inj h)
                exact j_iret hC hE dX1_readCondition_147 (w_id kR_1) (zn_z zb01_1) (by rw [← e1]) e2 rfl (by rw [← e1]; exact kR_1) (Nat.le_of_ble_eq_true rfl) (Nat.le_of_ble_eq_true rfl)
      have h := zf c30 h
      by_cases c44 : r2 = 42
      · have h := zt c44 h
        refine j_lsw hC dX1_readCondition_8 (w_id hr2) (by decide) (off := 140) (by rw [c44]; rfl) rfl ?_
        refine j_aload_n hC 0 dX1_readCondition_148 rfl rfl ?_
        refine j_bipush hC dX1_readCondition_149 rfl ?_
        obtain ⟨r45, M46, hy, h⟩ := zb2_ex h
        refine j_callVi (ci := 1) hC hE lk_X1_115 dX1_readCondition_151 (c_X1_skip l hlt g 42 kR_42 M S hF hy) [.int (zi 42)] [] (zFx_kd hF 2 rfl) ⟨_, rfl, by decide, rfl⟩ rfl rfl rfl (zcat (Nat.le_of_ble_eq_true rfl)) (Nat.le_of_ble_eq_true rfl) (by omega) (Nat.le_of_ble_eq_true rfl) (Nat.le_of_ble_eq_true rfl) (fun hp47 => ?_)
        have hr45 := hp47
        refine j_if_eq hC dX1_readCondition_154 rfl (w_id hr45) (fun c48 => ?_) (fun c48 => ?_)
        · have h := zt c48 h
          refine j_sub [] rfl ?_
          exact J_170 M46 h
        · have h := zf c48 h
          refine j_aload_n hC 0 dX1_readCondition_157 rfl rfl ?_
          refine j_iconst hC dX1_readCondition_158 ?_
          refine j_iconst hC dX1_readCondition_159 ?_
          obtain ⟨r49, M50, hy, h⟩ := zb2_ex h
          refine j_callVi (ci := 1) hC hE lk_X1_131 dX1_readCondition_160 (c_X1_addStep l hlt g 0 0 kR_0 kR_0 M46 S hF hy) [.int (zi 0), .int (zi 0)] [] (zFx_kd hF 2 rfl) ⟨_, rfl, by decide, rfl⟩ rfl rfl rfl (zcat (Nat.le_of_ble_eq_true rfl)) (Nat.le_of_ble_eq_true rfl) (by omega) (Nat.le_of_ble_eq_true rfl) (Nat.le_of_ble_eq_true rfl) (fun hp51 => ?_)
          have hr49 := hp51
          refine j_if_eq hC dX1_readCondition_163 rfl (w_id hr49) (fun c52 => ?_) (fun c52 => ?_)
          · have h := zt c52 h
            refine j_sub [] rfl ?_
            exact J_170 M50 h
          · have h := zf c52 h
            refine j_iconst hC dX1_readCondition_166 ?_
            refine j_goto hC dX1_readCondition_167 rfl ?_
            obtain ⟨e1, e2⟩ := zpr2 (Option.some.inj h)
            exact j_iret hC hE dX1_readCondition_171 (w_id kR_1) (zn_z zb01_1) (by rw [← e1]) e2 rfl (by rw [← e1]; exact kR_1) (Nat.le_of_ble_eq_true rfl) (Nat.le_of_ble_eq_true rfl)
      have h := zf c44 h
      by_cases c53 : r2 = 94
      · have h := zt c53 h
        refine j_lsw hC dX1_readCondition_8 (w_id hr2) (by decide) (off := 164) (by rw [c53]; rfl) rfl ?_
        refine j_aload_n hC 0 dX1_readCondition_172 rfl rfl ?_
        refine j_bipush hC dX1_readCondition_173 rfl ?_
        obtain ⟨r54, M55, hy, h⟩ := zb2_ex h
        refine j_callVi (ci := 1) hC hE lk_X1_115 dX1_readCondition_175 (c_X1_skip l hlt g 94 kR_94 M S hF hy) [.int (zi 94)] [] (zFx_kd hF 2 rfl) ⟨_, rfl, by decide, rfl⟩ rfl rfl rfl (zcat (Nat.le_of_ble_eq_true rfl)) (Nat.le_of_ble_eq_true rfl) (by omega) (Nat.le_of_ble_eq_true rfl) (Nat.le_of_ble_eq_true rfl) (fun hp56 => ?_)
        have hr54 := hp56
        refine j_if_eq hC dX1_readCondition_178 rfl (w_id hr54) (fun c57 => ?_) (fun c57 => ?_)
        · have h := zt c57 h
          refine j_sub [] rfl ?_
          exact J_198 M55 h
        · have h := zf c57 h
          refine j_aload_n hC 0 dX1_readCondition_181 rfl rfl ?_
          refine j_iconst hC dX1_readCondition_182 ?_
          refine j_aload_n hC 0 dX1_readCondition_183 rfl rfl ?_
          refine j_iconst hC dX1_readCondition_184 ?_
          obtain ⟨r58, M59, hy, h⟩ := zb2_ex h
          refine j_callVi (ci := 1) hC hE lk_X1_106 dX1_readCondition_185 (c_X1_readLetters l hlt g 3 kR_3 M55 S hF hy) [.int (zi 3)] [.int (zi 5), zr g 2] (zFx_kd hF 2 rfl) ⟨_, rfl, by decide, rfl⟩ rfl rfl rfl (zcat (Nat.le_of_ble_eq_true rfl)) (Nat.le_of_ble_eq_true rfl) (by omega) (Nat.le_of_ble_eq_true rfl) (Nat.le_of_ble_eq_true rfl) (fun hp60 => ?_)
          have hr58 := hp60
          obtain ⟨r61, M62, hy, h⟩ := zb2_ex h
          refine j_callVi (ci := 1) hC hE lk_X1_138 dX1_readCondition_188 (c_X1_addPattern l hlt g 5 r58 kR_5 hr58 M59 S hF hy) [.int (zi 5), .int (zi r58)] [] (zFx_kd hF 2 rfl) ⟨_, rfl, by decide, rfl⟩ rfl rfl rfl (zcat (Nat.le_of_ble_eq_true rfl)) (Nat.le_of_ble_eq_true rfl) (by omega) (Nat.le_of_ble_eq_true rfl) (Nat.le_of_ble_eq_true rfl) (fun hp63 => ?_)
          have hr61 := hp63
          refine j_if_eq hC dX1_readCondition_191 rfl (w_id hr61) (fun c64 => ?_) (fun c64 => ?_)
          · have h := zt c64 h
            refine j_sub [] rfl ?_
            exact J_198 M62 h
          · have h := zf c64 h
            refine j_iconst hC dX1_readCondition_194 ?_
            refine j_goto hC dX1_readCondition_195 rfl ?_
            obtain ⟨e1, e2⟩ := zpr2 (Option.some.inj h)
            exact j_iret hC hE dX1_readCondition_199 (w_id kR_1) (zn_z zb01_1) (by rw [← e1]) e2 rfl (by rw [← e1]; exact kR_1) (Nat.le_of_ble_eq_true rfl) (Nat.le_of_ble_eq_true rfl)
      have h := zf c53 h
      by_cases c65 : r2 = 126
      · have h := zt c65 h
        refine j_lsw hC dX1_readCondition_8 (w_id hr2) (by decide) (off := 221) (by rw [c65]; rfl) rfl ?_
        refine j_aload_n hC 0 dX1_readCondition_229 rfl rfl ?_
        refine j_bipush hC dX1_readCondition_230 rfl ?_
        obtain ⟨r66, M67, hy, h⟩ := zb2_ex h
        refine j_callVi (ci := 1) hC hE lk_X1_115 dX1_readCondition_232 (c_X1_skip l hlt g 126 kR_126 M S hF hy) [.int (zi 126)] [] (zFx_kd hF 2 rfl) ⟨_, rfl, by decide, rfl⟩ rfl rfl rfl (zcat (Nat.le_of_ble_eq_true rfl)) (Nat.le_of_ble_eq_true rfl) (by omega) (Nat.le_of_ble_eq_true rfl) (Nat.le_of_ble_eq_true rfl) (fun hp68 => ?_)
        have hr66 := hp68
        refine j_if_eq hC dX1_readCondition_235 rfl (w_id hr66) (fun c69 => ?_) (fun c69 => ?_)
        · have h := zt c69 h
          refine j_sub [] rfl ?_
          exact J_256 M67 h
        · have h := zf c69 h
          refine j_aload_n hC 0 dX1_readCondition_238 rfl rfl ?_
          refine j_bipush hC dX1_readCondition_239 rfl ?_
          refine j_aload_n hC 0 dX1_readCondition_241 rfl rfl ?_
          refine j_iconst hC dX1_readCondition_242 ?_
          obtain ⟨r70, M71, hy, h⟩ := zb2_ex h
          refine j_callVi (ci := 1) hC hE lk_X1_106 dX1_readCondition_243 (c_X1_readLetters l hlt g 3 kR_3 M67 S hF hy) [.int (zi 3)] [.int (zi 7), zr g 2] (zFx_kd hF 2 rfl) ⟨_, rfl, by decide, rfl⟩ rfl rfl rfl (zcat (Nat.le_of_ble_eq_true rfl)) (Nat.le_of_ble_eq_true rfl) (by omega) (Nat.le_of_ble_eq_true rfl) (Nat.le_of_ble_eq_true rfl) (fun hp72 => ?_)
          have hr70 := hp72
          obtain ⟨r73, M74, hy, h⟩ := zb2_ex h
          refine j_callVi (ci := 1) hC hE lk_X1_138 dX1_readCondition_246 (c_X1_addPattern l hlt g 7 r70 kR_7 hr70 M71 S hF hy) [.int (zi 7), .int (zi r70)] [] (zFx_kd hF 2 rfl) ⟨_, rfl, by decide, rfl⟩ rfl rfl rfl (zcat (Nat.le_of_ble_eq_true rfl)) (Nat.le_of_ble_eq_true rfl) (by omega) (Nat.le_of_ble_eq_true rfl) (Nat.le_of_ble_eq_true rfl) (fun hp75 => ?_)
          have hr73 := hp75
          refine j_if_eq hC dX1_readCondition_249 rfl (w_id hr73) (fun c76 => ?_) (fun c76 => ?_)
          · have h := zt c76 h
            refine j_sub [] rfl ?_
            exact J_256 M74 h
          · have h := zf c76 h
            refine j_iconst hC dX1_readCondition_252 ?_
            refine j_goto hC dX1_readCondition_253 rfl ?_
            obtain ⟨e1, e2⟩ := zpr2 (Option.some.inj h)
            exact j_iret hC hE dX1_readCondition_257 (w_id kR_1) (zn_z zb01_1) (by rw [← e1]) e2 rfl (by rw [← e1]; exact kR_1) (Nat.le_of_ble_eq_true rfl) (Nat.le_of_ble_eq_true rfl)
      have h := zf c65 h
      refine j_lsw hC dX1_readCondition_8 (w_id hr2) (by decide) (off := 250) (zlswN [(33, 60), (36, 192), (40, 100), (42, 140), (94, 164), (126, 221)] (List.forall_mem_cons.mpr ⟨fun h9 => c4 h9.symm, (List.forall_mem_cons.mpr ⟨fun h9 => c18 h9.symm, (List.forall_mem_cons.mpr ⟨fun h9 => c30 h9.symm, (List.forall_mem_cons.mpr ⟨fun h9 => c44 h9.symm, (List.forall_mem_cons.mpr ⟨fun h9 => c53 h9.symm, (List.forall_mem_cons.mpr ⟨fun h9 => c65 h9.symm, (fun p hp => by cases hp)⟩)⟩)⟩)⟩)⟩)⟩)) rfl ?_
      refine j_aload_n hC 0 dX1_readCondition_258 rfl rfl ?_
      obtain ⟨r77, M78, hy, h⟩ := zb2_ex h
      refine j_callVi (ci := 1) hC hE lk_X1_141 dX1_readCondition_259 (c_X1_readComparison l hlt g M S hF hy) [] [] (zFx_kd hF 2 rfl) ⟨_, rfl, by decide, rfl⟩ rfl rfl rfl (zcat (Nat.le_of_ble_eq_true rfl)) (Nat.le_of_ble_eq_true rfl) (by omega) (Nat.le_of_ble_eq_true rfl) (Nat.le_of_ble_eq_true rfl) (fun hp79 => ?_)
      have hr77 := hp79
      obtain ⟨c80, h⟩ := zchk_ex h
      obtain ⟨e1, e2⟩ := zpr2 (Option.some.inj h)
      exact j_iret hC hE dX1_readCondition_262 (w_id hr77) (zn_z c80) (by rw [← e1]) e2 rfl (by rw [← e1]; exact hr77) (Nat.le_of_ble_eq_true rfl) (Nat.le_of_ble_eq_true rfl)
theorem c_GP_0 (l : Launch) (hlt : l.stackTraces = false) (g : zG) (n : Nat) (v1 : Int) (hv1 : inR v1) (M : zM) (S : zS) (hF : zFx S) {r : Int} {M' : zM} (h : F_GP n 0 v1 M = some (r, M')) : zMet l g yX1_readAlternatives cX1_readAlternatives 4 (some .boolean) (3 + n) 0 0 [zr g 2, .int (zi v1)] M S (.inl (some (.int (zi r)))) M' S (inR r) := (c_GP l hlt g n).1 v1 hv1 M S hF _ _ h
theorem c_GP_1 (l : Launch) (hlt : l.stackTraces = false) (g : zG) (n : Nat) (v1 : Int) (hv1 : inR v1) (M : zM) (S : zS) (hF : zFx S) {r : Int} {M' : zM} (h : F_GP n 1 v1 M = some (r, M')) : zMet l g yX1_readConjunction cX1_readConjunction 4 (some .boolean) (3 + n) 0 0 [zr g 2, .int (zi v1)] M S (.inl (some (.int (zi r)))) M' S (inR r) := (c_GP l hlt g n).2.1 v1 hv1 M S hF _ _ h
theorem c_GP_2 (l : Launch) (hlt : l.stackTraces = false) (g : zG) (n : Nat) (v1 : Int) (hv1 : inR v1) (M : zM) (S : zS) (hF : zFx S) {r : Int} {M' : zM} (h : F_GP n 2 v1 M = some (r, M')) : zMet l g yX1_readCondition cX1_readCondition 2 (some .boolean) (3 + n) 0 0 [zr g 2, .int (zi v1)] M S (.inl (some (.int (zi r)))) M' S (inR r) := (c_GP l hlt g n).2.2 v1 hv1 M S hF _ _ h
set_option maxHeartbeats 4000000 in
set_option maxRecDepth 100000 in
theorem c_X1_readContext (l : Launch) (hlt : l.stackTraces = false) (g : zG) (M : zM) (S : zS) (hF : zFx S) {r : Int} {M' : zM} (h : F_X1_readContext M = some (r, M')) : zMet l g yX1_readContext cX1_readContext 1 (some .boolean) 44 0 0 [zr g 2] M S (.inl (some (.int (zi r)))) M' S (inR r) := by
  refine zMet_of (by decide) hlt [(0, zr g 2)] rfl (Nat.le_of_ble_eq_true rfl) (fun K hC hE hN => ?_)
  unfold F_X1_readContext at h
  have J_57 : ∀ (M : zM) (_ : F_X1_readContext_J57 M = some (r, M')), zJ K g 0 0 57 1 [] [] M S := by
    intro M h
    unfold F_X1_readContext_J57 at h
    refine j_iconst hC dX1_readContext_57 ?_
    obtain ⟨e1, e2⟩ := zpr2 (Option.some.inj h)
    exact j_iret hC hE dX1_readContext_58 (w_id kR_0) (zn_z zb01_0) (by rw [← e1]) e2 rfl (by rw [← e1]; exact kR_0) (Nat.le_of_ble_eq_true rfl) (Nat.le_of_ble_eq_true rfl)
  refine j_aload_n hC 0 dX1_readContext_0 rfl rfl ?_
  refine j_aload_n hC 0 dX1_readContext_1 rfl rfl ?_
  refine j_iconst hC dX1_readContext_2 ?_
  obtain ⟨r1, M2, hy, h⟩ := zb2_ex h
  refine j_callVi (ci := 1) hC hE lk_X1_106 dX1_readContext_3 (c_X1_readLetters l hlt g 3 kR_3 M S hF hy) [.int (zi 3)] [zr g 2] (zFx_kd hF 2 rfl) ⟨_, rfl, by decide, rfl⟩ rfl rfl rfl (zcat (Nat.le_of_ble_eq_true rfl)) (Nat.le_of_ble_eq_true rfl) (Nat.le_of_ble_eq_true rfl) (Nat.le_of_ble_eq_true rfl) (Nat.le_of_ble_eq_true rfl) (fun hp3 => ?_)
  have hr1 := hp3
  obtain ⟨M4, eM4, h⟩ := zlet_ex h
  refine j_put hC dX1_readContext_6 f_X1_113 pF_X1 (zFx_kd hF 2 rfl) (Or.inl rfl) rfl 6 rfl (w_id hr1) hr1 eM4 ?_
  refine j_aload_n hC 0 dX1_readContext_9 rfl rfl ?_
  refine j_get hC dX1_readContext_10 f_X1_113 (zFx_kd hF 2 rfl) rfl 6 rfl (fun hg5 => ?_)
  refine j_if_eq hC dX1_readContext_13 rfl (w_id hg5) (fun c6 => ?_) (fun c6 => ?_)
  · have h := zt c6 h
    refine j_iconst hC dX1_readContext_25 ?_
    obtain ⟨e1, e2⟩ := zpr2 (Option.some.inj h)
    exact j_iret hC hE dX1_readContext_26 (w_id kR_0) (zn_z zb01_0) (by rw [← e1]) e2 rfl (by rw [← e1]; exact kR_0) (Nat.le_of_ble_eq_true rfl) (Nat.le_of_ble_eq_true rfl)
  · have h := zf c6 h
    refine j_aload_n hC 0 dX1_readContext_16 rfl rfl ?_
    refine j_bipush hC dX1_readContext_17 rfl ?_
    obtain ⟨r7, M8, hy, h⟩ := zb2_ex h
    refine j_callVi (ci := 1) hC hE lk_X1_115 dX1_readContext_19 (c_X1_skip l hlt g 44 kR_44 M4 S hF hy) [.int (zi 44)] [] (zFx_kd hF 2 rfl) ⟨_, rfl, by decide, rfl⟩ rfl rfl rfl (zcat (Nat.le_of_ble_eq_true rfl)) (Nat.le_of_ble_eq_true rfl) (Nat.le_of_ble_eq_true rfl) (Nat.le_of_ble_eq_true rfl) (Nat.le_of_ble_eq_true rfl) (fun hp9 => ?_)
    have hr7 := hp9
    refine j_if_ne hC dX1_readContext_22 rfl (w_id hr7) (fun c10 => ?_) (fun c10 => ?_)
    · have h := zf c10 h
      refine j_aload_n hC 0 dX1_readContext_27 rfl rfl ?_
      refine j_aload_n hC 0 dX1_readContext_28 rfl rfl ?_
      refine j_iconst hC dX1_readContext_29 ?_
      obtain ⟨r11, M12, hy, h⟩ := zb2_ex h
      refine j_callVi (ci := 1) hC hE lk_X1_106 dX1_readContext_30 (c_X1_readLetters l hlt g 3 kR_3 M8 S hF hy) [.int (zi 3)] [zr g 2] (zFx_kd hF 2 rfl) ⟨_, rfl, by decide, rfl⟩ rfl rfl rfl (zcat (Nat.le_of_ble_eq_true rfl)) (Nat.le_of_ble_eq_true rfl) (Nat.le_of_ble_eq_true rfl) (Nat.le_of_ble_eq_true rfl) (Nat.le_of_ble_eq_true rfl) (fun hp13 => ?_)
      have hr11 := hp13
      obtain ⟨M14, eM14, h⟩ := zlet_ex h
      refine j_put hC dX1_readContext_33 f_X1_119 pF_X1 (zFx_kd hF 2 rfl) (Or.inl rfl) rfl 7 rfl (w_id hr11) hr11 eM14 ?_
      refine j_aload_n hC 0 dX1_readContext_36 rfl rfl ?_
      refine j_bipush hC dX1_readContext_37 rfl ?_
      obtain ⟨r15, M16, hy, h⟩ := zb2_ex h
      refine j_callVi (ci := 1) hC hE lk_X1_115 dX1_readContext_39 (c_X1_skip l hlt g 32 kR_32 M14 S hF hy) [.int (zi 32)] [] (zFx_kd hF 2 rfl) ⟨_, rfl, by decide, rfl⟩ rfl rfl rfl (zcat (Nat.le_of_ble_eq_true rfl)) (Nat.le_of_ble_eq_true rfl) (Nat.le_of_ble_eq_true rfl) (Nat.le_of_ble_eq_true rfl) (Nat.le_of_ble_eq_true rfl) (fun hp17 => ?_)
      have hr15 := hp17
      refine j_if_eq hC dX1_readContext_42 rfl (w_id hr15) (fun c18 => ?_) (fun c18 => ?_)
      · have h := zt c18 h
        refine j_sub [] rfl ?_
        exact J_57 M16 h
      · have h := zf c18 h
        refine j_aload_n hC 0 dX1_readContext_45 rfl rfl ?_
        refine j_iconst hC dX1_readContext_46 ?_
        obtain ⟨r19, M20, hy, h⟩ := zb2_ex h
        refine j_callVi (ci := 1) hC hE lk_X1_122 dX1_readContext_47 (c_GP_0 l hlt g 40 0 kR_0 M16 S hF hy) [.int (zi 0)] [] (zFx_kd hF 2 rfl) ⟨_, rfl, by decide, rfl⟩ rfl rfl rfl (zcat (Nat.le_of_ble_eq_true rfl)) (Nat.le_of_ble_eq_true rfl) (Nat.le_of_ble_eq_true rfl) (Nat.le_of_ble_eq_true rfl) (Nat.le_of_ble_eq_true rfl) (fun hp21 => ?_)
        have hr19 := hp21
        refine j_if_eq hC dX1_readContext_50 rfl (w_id hr19) (fun c22 => ?_) (fun c22 => ?_)
        · have h := zt c22 h
          refine j_sub [] rfl ?_
          exact J_57 M20 h
        · have h := zf c22 h
          refine j_iconst hC dX1_readContext_53 ?_
          refine j_goto hC dX1_readContext_54 rfl ?_
          obtain ⟨e1, e2⟩ := zpr2 (Option.some.inj h)
          exact j_iret hC hE dX1_readContext_58 (w_id kR_1) (zn_z zb01_1) (by rw [← e1]) e2 rfl (by rw [← e1]; exact kR_1) (Nat.le_of_ble_eq_true rfl) (Nat.le_of_ble_eq_true rfl)
    · have h := zt c10 h
      refine j_iconst hC dX1_readContext_25 ?_
      obtain ⟨e1, e2⟩ := zpr2 (Option.some.inj h)
      exact j_iret hC hE dX1_readContext_26 (w_id kR_0) (zn_z zb01_0) (by rw [← e1]) e2 rfl (by rw [← e1]; exact kR_0) (Nat.le_of_ble_eq_true rfl) (Nat.le_of_ble_eq_true rfl)
set_option maxHeartbeats 4000000 in
set_option maxRecDepth 100000 in
theorem c_X1_modeName (l : Launch) (hlt : l.stackTraces = false) (g : zG) (v0 : Int) (hv0 : inR v0) (M : zM) (S : zS) {r : Nat} (h : F_X1_modeName v0 = some r) : zMet l g yX1_modeName cX1_modeName 1 (some (.object "java/lang/String")) 1 0 0 [.int (zi v0)] M S (.inl (some (.ref (zk g (1 + r))))) M S (True) := by
  refine zMet_of (by decide) hlt [(0, .int (zi v0))] rfl (Nat.le_of_ble_eq_true rfl) (fun K hC hE hN => ?_)
  unfold F_X1_modeName at h
  refine j_iload_n hC 0 dX1_modeName_0 rfl rfl ?_
  by_cases c1 : v0 = 0
  · have h := zt c1 h
    refine j_tswIn hC 0 dX1_modeName_1 (w_id hv0) c1 (by decide) (by decide) rfl rfl ?_
    refine j_ldcs hC dX1_modeName_32 zss_X1_58 ?_
    have e1 := Option.some.inj h
    exact j_sret hC hE dX1_modeName_34 (by rw [← e1]) rfl rfl trivial (Nat.le_of_ble_eq_true rfl) (Nat.le_of_ble_eq_true rfl)
  have h := zf c1 h
  by_cases c2 : v0 = 1
  · have h := zt c2 h
    refine j_tswIn hC 1 dX1_modeName_1 (w_id hv0) c2 (by decide) (by decide) rfl rfl ?_
    refine j_ldcs hC dX1_modeName_35 zss_X1_60 ?_
    have e1 := Option.some.inj h
    exact j_sret hC hE dX1_modeName_37 (by rw [← e1]) rfl rfl trivial (Nat.le_of_ble_eq_true rfl) (Nat.le_of_ble_eq_true rfl)
  have h := zf c2 h
  by_cases c3 : v0 = 2
  · have h := zt c3 h
    refine j_tswIn hC 2 dX1_modeName_1 (w_id hv0) c3 (by decide) (by decide) rfl rfl ?_
    refine j_ldcs hC dX1_modeName_38 zss_X1_62 ?_
    have e1 := Option.some.inj h
    exact j_sret hC hE dX1_modeName_40 (by rw [← e1]) rfl rfl trivial (Nat.le_of_ble_eq_true rfl) (Nat.le_of_ble_eq_true rfl)
  have h := zf c3 h
  by_cases c4 : v0 = 3
  · have h := zt c4 h
    refine j_tswIn hC 3 dX1_modeName_1 (w_id hv0) c4 (by decide) (by decide) rfl rfl ?_
    refine j_ldcs hC dX1_modeName_41 zss_X1_64 ?_
    have e1 := Option.some.inj h
    exact j_sret hC hE dX1_modeName_43 (by rw [← e1]) rfl rfl trivial (Nat.le_of_ble_eq_true rfl) (Nat.le_of_ble_eq_true rfl)
  have h := zf c4 h
  refine j_tswOut hC dX1_modeName_1 (w_id hv0) (by omega) rfl ?_
  refine j_ldcs hC dX1_modeName_44 zss_X1_66 ?_
  have e1 := Option.some.inj h
  exact j_sret hC hE dX1_modeName_46 (by rw [← e1]) rfl rfl trivial (Nat.le_of_ble_eq_true rfl) (Nat.le_of_ble_eq_true rfl)
set_option maxHeartbeats 4000000 in
set_option maxRecDepth 100000 in
theorem c_X1_readMode (l : Launch) (hlt : l.stackTraces = false) (g : zG) (M : zM) (S : zS) (hF : zFx S) {r : Int} {M' : zM} (h : F_X1_readMode M = some (r, M')) : zMet l g yX1_readMode cX1_readMode 6 (some .boolean) 9 0 0 [zr g 2] M S (.inl (some (.int (zi r)))) M' S (inR r) := by
  refine zMet_of (by decide) hlt [(0, zr g 2)] rfl (Nat.le_of_ble_eq_true rfl) (fun K hC hE hN => ?_)
  unfold F_X1_readMode at h
  have J_59 : ∀ (v1 : Int) (v2 : Int) (hv1 : inR v1) (hv2 : inR v2) (M : zM) (_ : F_X1_readMode_J59 v1 v2 M = some (r, M')), zJ K g 0 0 59 6 [(0, zr g 2), (1, .int (zi v1)), (2, .int (zi v2))] [] M S := by
    intro v1 v2 hv1 hv2 M h
    unfold F_X1_readMode_J59 at h
    refine j_aload_n hC 0 dX1_readMode_59 rfl rfl ?_
    refine j_dup hC dX1_readMode_60 (zr_cat _ _) ?_
    refine j_get hC dX1_readMode_61 f_X1_30 (zFx_kd hF 2 rfl) rfl 4 rfl (fun hg1 => ?_)
    refine j_iload_n hC 1 dX1_readMode_64 rfl rfl ?_
    refine j_iadd hC dX1_readMode_65 ?_
    obtain ⟨M2, eM2, h⟩ := zlet_ex h
    refine j_put hC dX1_readMode_66 f_X1_30 pF_X1 (zFx_kd hF 2 rfl) (Or.inl rfl) rfl 4 rfl rfl (inR_w _) eM2 ?_
    refine j_iload_n hC 2 dX1_readMode_69 rfl rfl ?_
    obtain ⟨c3, h⟩ := zchk_ex h
    obtain ⟨e1, e2⟩ := zpr2 (Option.some.inj h)
    exact j_iret hC hE dX1_readMode_70 (w_id hv2) (zn_z c3) (by rw [← e1]) e2 rfl (by rw [← e1]; exact hv2) (Nat.le_of_ble_eq_true rfl) (Nat.le_of_ble_eq_true rfl)
  have L_6 : ∀ (v1 : Int) (v2 : Int) (v3 : Int) (hv1 : inR v1) (hv2 : inR v2) (hv3 : inR v3) (M : zM) (_ : F_X1_readMode_L6 v1 v2 v3 M = some (r, M')), zJ K g 0 0 6 6 [(0, zr g 2), (1, .int (zi v1)), (2, .int (zi v2)), (3, .int (zi v3))] [] M S := by
    intro v1 v2 v3 hv1 hv2 hv3 M h
    unfold F_X1_readMode_L6 at h
    obtain ⟨ex6, hl, hd6⟩ := zb1_ex h
    obtain ⟨bd6, ebd⟩ : ∃ f, f = (fun (s : Int × Int × Int × zM) => F_X1_readMode_B6 s.1 s.2.1 s.2.2.1 s.2.2.2) := ⟨_, rfl⟩
    rw [← ebd] at hl
    have main : ∀ (n6 : Nat) (v1 : Int) (v2 : Int) (v3 : Int) (hv1 : inR v1) (hv2 : inR v2) (hv3 : inR v3) (M : zM) (_ : zloop bd6 n6 (v1, v2, v3, M) = some ex6), zJ K g 0 0 6 6 [(0, zr g 2), (1, .int (zi v1)), (2, .int (zi v2)), (3, .int (zi v3))] [] M S := by
      intro n6
      induction n6 with
      | zero => intro v1 v2 v3 hv1 hv2 hv3 M hl; exact zloop_0 hl
      | succ n6 ih6 =>
        have J_53 : ∀ (v1 : Int) (v2 : Int) (v3 : Int) (hv1 : inR v1) (hv2 : inR v2) (hv3 : inR v3) (M : zM) (o : _) (_ : F_X1_readMode_J53 v1 v2 v3 M = some o), zAft (bd6) n6 ex6 o → zJ K g 0 0 53 6 [(0, zr g 2), (1, .int (zi v1)), (2, .int (zi v2)), (3, .int (zi v3))] [] M S := by
          intro v1 v2 v3 hv1 hv2 hv3 M o h hT
          unfold F_X1_readMode_J53 at h
          obtain ⟨x4, ex4, h⟩ := zlet_ex h
          have hx4 : inR x4 := by rw [ex4]; exact inR_w _
          refine j_iinc hC 3 dX1_readMode_53 rfl ex4 (Nat.le_of_ble_eq_true rfl) rfl ?_
          refine j_goto hC dX1_readMode_56 rfl ?_
          obtain rfl := Option.some.inj h
          refine j_sub [1, 2, 3, 0] rfl ?_
          exact ih6 v1 v2 x4 hv1 hv2 hx4 M hT
        intro v1 v2 v3 hv1 hv2 hv3 M hl
        obtain ⟨o, h, hT⟩ := zloop_ex hl
        have h : F_X1_readMode_B6 v1 v2 v3 M = some o := by rw [ebd] at h; exact h
        unfold F_X1_readMode_B6 at h
        refine j_iload_n hC 3 dX1_readMode_6 rfl rfl ?_
        refine j_iconst hC dX1_readMode_7 ?_
        refine j_icmp_ge hC dX1_readMode_8 rfl (w_id hv3) (w_id kR_5) (fun c5 => ?_) (fun c5 => ?_)
        · have h := zf c5 h
          obtain rfl := Option.some.inj h
          have hx6 := hd6
          rw [← show _ = ex6 from hT] at hx6
          refine j_sub [0, 1, 2] rfl ?_
          exact J_59 v1 v2 hv1 hv2 M hx6
        · have h := zt c5 h
          refine j_iload_n hC 2 dX1_readMode_11 rfl rfl ?_
          refine j_if_ne hC dX1_readMode_12 rfl (w_id hv2) (fun c6 => ?_) (fun c6 => ?_)
          · have h := zf c6 h
            obtain rfl := Option.some.inj h
            have hx6 := hd6
            rw [← show _ = ex6 from hT] at hx6
            refine j_sub [0, 1, 2] rfl ?_
            exact J_59 v1 v2 hv1 hv2 M hx6
          · have h := zt c6 h
            refine j_iload_n hC 3 dX1_readMode_15 rfl rfl ?_
            obtain ⟨r7, hy, h⟩ := zb1_ex h
            refine j_callSs hC hE lk_X1_88 dX1_readMode_16 (c_X1_modeName l hlt g v3 hv3 M S hy) [.int (zi v3)] [] rfl rfl rfl (zcat (Nat.le_of_ble_eq_true rfl)) (Nat.le_of_ble_eq_true rfl) (Nat.le_of_ble_eq_true rfl) (Nat.le_of_ble_eq_true rfl) (Nat.le_of_ble_eq_true rfl) (fun hp8 => ?_)
            refine j_sstore hC dX1_readMode_19 (Nat.le_of_ble_eq_true rfl) rfl ?_
            refine j_aload_n hC 1 dX1_readMode_21 rfl rfl ?_
            refine j_sload hC 0 dX1_readMode_22 rfl ?_
            obtain ⟨r9, hy, h⟩ := zb1_ex h
            refine j_callVi (ci := 1) hC hE lk_X1_72 dX1_readMode_24 (c_X1_sameCharacters l hlt g r7 M S hF hy) [.ref (zk g (1 + r7))] [] (zFx_kd hF 2 rfl) ⟨_, rfl, by decide, rfl⟩ rfl rfl rfl (zcat (Nat.le_of_ble_eq_true rfl)) (Nat.le_of_ble_eq_true rfl) (Nat.le_of_ble_eq_true rfl) (Nat.le_of_ble_eq_true rfl) (Nat.le_of_ble_eq_true rfl) (fun hp10 => ?_)
            have hr9 := hp10
            refine j_istore hC dX1_readMode_27 (Nat.le_of_ble_eq_true rfl) rfl ?_
            refine j_iload_n hC 3 dX1_readMode_29 rfl rfl ?_
            refine j_iload hC 0 dX1_readMode_30 rfl ?_
            refine j_mmax hC hE lk_X1_76 dX1_readMode_32 (w_id hv1) (w_id hr9) (Nat.le_of_ble_eq_true rfl) (Nat.le_of_ble_eq_true rfl) (Nat.le_of_ble_eq_true rfl) (Nat.le_of_ble_eq_true rfl) ?_
            obtain ⟨x11, ex11, h⟩ := zlet_ex h
            have hx11 : inR x11 := by rw [ex11]; exact (cR_zmax hv1 hr9)
            refine j_names ex11 ?_
            refine j_istore_n hC dX1_readMode_35 rfl (Nat.le_of_ble_eq_true rfl) rfl ?_
            refine j_iload hC 1 dX1_readMode_36 rfl ?_
            refine j_sload hC 2 dX1_readMode_38 rfl ?_
            obtain ⟨c12, h⟩ := zchk_ex h
            refine j_slen hC hE hlt lk_X1_82 dX1_readMode_40 (Nat.lt_of_lt_of_le c12 (by decide)) (Nat.le_of_ble_eq_true rfl) (Nat.le_of_ble_eq_true rfl) (Nat.le_of_ble_eq_true rfl) (Nat.le_of_ble_eq_true rfl) ?_
            refine j_icmp_ne hC dX1_readMode_43 rfl (w_id hr9) (w_id (cR_zsl _ (Nat.lt_of_lt_of_le c12 (by decide)))) (fun c13 => ?_) (fun c13 => ?_)
            · have h := zf c13 h
              refine j_sub [3, 0, 4, 5] rfl ?_
              exact J_53 x11 v2 v3 hx11 hv2 hv3 M _ h hT
            · have h := zt c13 h
              refine j_aload_n hC 3 dX1_readMode_46 rfl rfl ?_
              refine j_iload_n hC 5 dX1_readMode_47 rfl rfl ?_
              obtain ⟨M14, eM14, h⟩ := zlet_ex h
              refine j_put hC dX1_readMode_48 f_X1_91 pF_X1 (zFx_kd hF 2 rfl) (Or.inl rfl) rfl 8 rfl (w_id hv3) hv3 eM14 ?_
              refine j_iconst hC dX1_readMode_51 ?_
              refine j_istore_n hC dX1_readMode_52 rfl (Nat.le_of_ble_eq_true rfl) rfl ?_
              refine j_sub [4, 1, 0, 5] rfl ?_
              exact J_53 x11 1 v3 hx11 kR_1 hv3 M14 _ h hT
    exact main zN v1 v2 v3 hv1 hv2 hv3 M hl
  refine j_iconst hC dX1_readMode_0 ?_
  refine j_istore_n hC dX1_readMode_1 rfl (Nat.le_of_ble_eq_true rfl) rfl ?_
  refine j_iconst hC dX1_readMode_2 ?_
  refine j_istore_n hC dX1_readMode_3 rfl (Nat.le_of_ble_eq_true rfl) rfl ?_
  refine j_iconst hC dX1_readMode_4 ?_
  refine j_istore_n hC dX1_readMode_5 rfl (Nat.le_of_ble_eq_true rfl) rfl ?_
  refine j_sub [3, 2, 1, 0] rfl ?_
  exact L_6 0 0 0 kR_0 kR_0 kR_0 M h
set_option maxHeartbeats 4000000 in
set_option maxRecDepth 100000 in
theorem c_X1_readLimit (l : Launch) (hlt : l.stackTraces = false) (g : zG) (M : zM) (S : zS) (hF : zFx S) {r : Int} {M' : zM} (h : F_X1_readLimit M = some (r, M')) : zMet l g yX1_readLimit cX1_readLimit 2 (some .boolean) 2 0 0 [zr g 2] M S (.inl (some (.int (zi r)))) M' S (inR r) := by
  refine zMet_of (by decide) hlt [(0, zr g 2)] rfl (Nat.le_of_ble_eq_true rfl) (fun K hC hE hN => ?_)
  unfold F_X1_readLimit at h
  refine j_aload_n hC 0 dX1_readLimit_0 rfl rfl ?_
  refine j_aload_n hC 0 dX1_readLimit_1 rfl rfl ?_
  refine j_get hC dX1_readLimit_2 f_X1_30 (zFx_kd hF 2 rfl) rfl 4 rfl (fun hg1 => ?_)
  obtain ⟨r2, hy, h⟩ := zb1_ex h
  refine j_callVi (ci := 1) hC hE lk_X1_94 dX1_readLimit_5 (c_X1_characterAt l hlt g (M 2 4) hg1 M S hF hy) [.int (zi (M 2 4))] [] (zFx_kd hF 2 rfl) ⟨_, rfl, by decide, rfl⟩ rfl rfl rfl (zcat (Nat.le_of_ble_eq_true rfl)) (Nat.le_of_ble_eq_true rfl) (Nat.le_of_ble_eq_true rfl) (Nat.le_of_ble_eq_true rfl) (Nat.le_of_ble_eq_true rfl) (fun hp3 => ?_)
  have hr2 := hp3
  refine j_istore_n hC dX1_readLimit_8 rfl (Nat.le_of_ble_eq_true rfl) rfl ?_
  refine j_iload_n hC 0 dX1_readLimit_9 rfl rfl ?_
  refine j_bipush hC dX1_readLimit_10 rfl ?_
  refine j_icmp_lt hC dX1_readLimit_12 rfl (w_id hr2) (w_id kR_49) (fun c4 => ?_) (fun c4 => ?_)
  · have h := zt c4 h
    refine j_iconst hC dX1_readLimit_21 ?_
    obtain ⟨e1, e2⟩ := zpr2 (Option.some.inj h)
    exact j_iret hC hE dX1_readLimit_22 (w_id kR_0) (zn_z zb01_0) (by rw [← e1]) e2 rfl (by rw [← e1]; exact kR_0) (Nat.le_of_ble_eq_true rfl) (Nat.le_of_ble_eq_true rfl)
  · have h := zf c4 h
    refine j_iload_n hC 0 dX1_readLimit_15 rfl rfl ?_
    refine j_bipush hC dX1_readLimit_16 rfl ?_
    refine j_icmp_le hC dX1_readLimit_18 rfl (w_id hr2) (w_id kR_57) (fun c5 => ?_) (fun c5 => ?_)
    · have h := zf c5 h
      refine j_aload_n hC 1 dX1_readLimit_23 rfl rfl ?_
      refine j_iload_n hC 0 dX1_readLimit_24 rfl rfl ?_
      refine j_bipush hC dX1_readLimit_25 rfl ?_
      refine j_isub hC dX1_readLimit_27 ?_
      obtain ⟨M6, eM6, h⟩ := zlet_ex h
      refine j_put hC dX1_readLimit_28 f_X1_91 pF_X1 (zFx_kd hF 2 rfl) (Or.inl rfl) rfl 8 rfl rfl (inR_w _) eM6 ?_
      refine j_aload_n hC 1 dX1_readLimit_31 rfl rfl ?_
      refine j_dup hC dX1_readLimit_32 (zr_cat _ _) ?_
      refine j_get hC dX1_readLimit_33 f_X1_30 (zFx_kd hF 2 rfl) rfl 4 rfl (fun hg7 => ?_)
      refine j_iconst hC dX1_readLimit_36 ?_
      refine j_iadd hC dX1_readLimit_37 ?_
      obtain ⟨M8, eM8, h⟩ := zlet_ex h
      refine j_put hC dX1_readLimit_38 f_X1_30 pF_X1 (zFx_kd hF 2 rfl) (Or.inl rfl) rfl 4 rfl rfl (inR_w _) eM8 ?_
      refine j_iconst hC dX1_readLimit_41 ?_
      obtain ⟨e1, e2⟩ := zpr2 (Option.some.inj h)
      exact j_iret hC hE dX1_readLimit_42 (w_id kR_1) (zn_z zb01_1) (by rw [← e1]) e2 rfl (by rw [← e1]; exact kR_1) (Nat.le_of_ble_eq_true rfl) (Nat.le_of_ble_eq_true rfl)
    · have h := zt c5 h
      refine j_iconst hC dX1_readLimit_21 ?_
      obtain ⟨e1, e2⟩ := zpr2 (Option.some.inj h)
      exact j_iret hC hE dX1_readLimit_22 (w_id kR_0) (zn_z zb01_0) (by rw [← e1]) e2 rfl (by rw [← e1]; exact kR_0) (Nat.le_of_ble_eq_true rfl) (Nat.le_of_ble_eq_true rfl)
set_option maxHeartbeats 4000000 in
set_option maxRecDepth 100000 in
theorem c_X1_read (l : Launch) (hlt : l.stackTraces = false) (g : zG) (M : zM) (S : zS) (hF : zFx S) {r : Int} {M' : zM} (h : F_X1_read M = some (r, M')) : zMet l g yX1_read cX1_read 3 (some .int) 45 0 0 [zr g 2] M S (.inl (some (.int (zi r)))) M' S (inR r) := by
  refine zMet_of (by decide) hlt [(0, zr g 2)] rfl (Nat.le_of_ble_eq_true rfl) (fun K hC hE hN => ?_)
  unfold F_X1_read at h
  have J_101 : ∀ (M : zM) (_ : F_X1_read_J101 M = some (r, M')), zJ K g 0 0 101 3 [] [] M S := by
    intro M h
    unfold F_X1_read_J101 at h
    refine j_iconst hC dX1_read_101 ?_
    obtain ⟨e1, e2⟩ := zpr2 (Option.some.inj h)
    exact j_iret hC hE dX1_read_102 (w_id kR_m1) (zn_i _) (by rw [← e1]) e2 rfl (by rw [← e1]; exact kR_m1) (Nat.le_of_ble_eq_true rfl) (Nat.le_of_ble_eq_true rfl)
  have J_82 : ∀ (v1 : Int) (v2 : Int) (hv1 : inR v1) (hv2 : inR v2) (M : zM) (_ : F_X1_read_J82 v1 v2 M = some (r, M')), zJ K g 0 0 82 3 [(0, zr g 2), (1, .int (zi v1)), (2, .int (zi v2))] [] M S := by
    intro v1 v2 hv1 hv2 M h
    unfold F_X1_read_J82 at h
    refine j_iload_n hC 2 dX1_read_82 rfl rfl ?_
    refine j_if_eq hC dX1_read_83 rfl (w_id hv2) (fun c1 => ?_) (fun c1 => ?_)
    · have h := zt c1 h
      refine j_sub [] rfl ?_
      exact J_101 M h
    · have h := zf c1 h
      refine j_aload_n hC 0 dX1_read_86 rfl rfl ?_
      refine j_get hC dX1_read_87 f_X1_30 (zFx_kd hF 2 rfl) rfl 4 rfl (fun hg2 => ?_)
      refine j_aload_n hC 0 dX1_read_90 rfl rfl ?_
      refine j_get hC dX1_read_91 f_X1_17 (zFx_kd hF 2 rfl) rfl 3 rfl (fun hg3 => ?_)
      refine j_icmp_ne hC dX1_read_94 rfl (w_id hg2) (w_id hg3) (fun c4 => ?_) (fun c4 => ?_)
      · have h := zf c4 h
        refine j_sub [] rfl ?_
        exact J_101 M h
      · have h := zt c4 h
        refine j_iload_n hC 1 dX1_read_97 rfl rfl ?_
        refine j_goto hC dX1_read_98 rfl ?_
        obtain ⟨e1, e2⟩ := zpr2 (Option.some.inj h)
        exact j_iret hC hE dX1_read_102 (w_id hv1) (zn_i _) (by rw [← e1]) e2 rfl (by rw [← e1]; exact hv1) (Nat.le_of_ble_eq_true rfl) (Nat.le_of_ble_eq_true rfl)
  refine j_aload_n hC 0 dX1_read_0 rfl rfl ?_
  refine j_iconst hC dX1_read_1 ?_
  obtain ⟨M5, eM5, h⟩ := zlet_ex h
  refine j_put hC dX1_read_2 f_X1_30 pF_X1 (zFx_kd hF 2 rfl) (Or.inl rfl) rfl 4 rfl (w_id kR_0) kR_0 eM5 ?_
  refine j_aload_n hC 0 dX1_read_5 rfl rfl ?_
  refine j_iconst hC dX1_read_6 ?_
  obtain ⟨M6, eM6, h⟩ := zlet_ex h
  refine j_put hC dX1_read_7 f_X1_21 pF_X1 (zFx_kd hF 2 rfl) (Or.inl rfl) rfl 2 rfl (w_id kR_0) kR_0 eM6 ?_
  refine j_aload_n hC 0 dX1_read_10 rfl rfl ?_
  obtain ⟨r7, M8, hy, h⟩ := zb2_ex h
  refine j_callVi (ci := 1) hC hE lk_X1_33 dX1_read_11 (c_X1_readKind l hlt g M6 S hF hy) [] [] (zFx_kd hF 2 rfl) ⟨_, rfl, by decide, rfl⟩ rfl rfl rfl (zcat (Nat.le_of_ble_eq_true rfl)) (Nat.le_of_ble_eq_true rfl) (Nat.le_of_ble_eq_true rfl) (Nat.le_of_ble_eq_true rfl) (Nat.le_of_ble_eq_true rfl) (fun hp9 => ?_)
  have hr7 := hp9
  refine j_istore_n hC dX1_read_14 rfl (Nat.le_of_ble_eq_true rfl) rfl ?_
  refine j_iload_n hC 0 dX1_read_15 rfl rfl ?_
  by_cases c10 : r7 = 0
  · have h := zt c10 h
    refine j_tswIn hC 0 dX1_read_16 (w_id hr7) c10 (by decide) (by decide) rfl rfl ?_
    refine j_aload_n hC 1 dX1_read_48 rfl rfl ?_
    obtain ⟨r11, M12, hy, h⟩ := zb2_ex h
    refine j_callVi (ci := 1) hC hE lk_X1_37 dX1_read_49 (c_X1_readAxiom l hlt g M8 S hF hy) [] [] (zFx_kd hF 2 rfl) ⟨_, rfl, by decide, rfl⟩ rfl rfl rfl (zcat (Nat.le_of_ble_eq_true rfl)) (Nat.le_of_ble_eq_true rfl) (Nat.le_of_ble_eq_true rfl) (Nat.le_of_ble_eq_true rfl) (Nat.le_of_ble_eq_true rfl) (fun hp13 => ?_)
    have hr11 := hp13
    refine j_istore_n hC dX1_read_52 rfl (Nat.le_of_ble_eq_true rfl) rfl ?_
    refine j_goto hC dX1_read_53 rfl ?_
    refine j_sub [2, 1, 0] rfl ?_
    exact J_82 r7 r11 hr7 hr11 M12 h
  have h := zf c10 h
  by_cases c14 : r7 = 1
  · have h := zt c14 h
    refine j_tswIn hC 1 dX1_read_16 (w_id hr7) c14 (by decide) (by decide) rfl rfl ?_
    refine j_aload_n hC 1 dX1_read_56 rfl rfl ?_
    obtain ⟨r15, M16, hy, h⟩ := zb2_ex h
    refine j_callVi (ci := 1) hC hE lk_X1_41 dX1_read_57 (c_X1_readContext l hlt g M8 S hF hy) [] [] (zFx_kd hF 2 rfl) ⟨_, rfl, by decide, rfl⟩ rfl rfl rfl (zcat (Nat.le_of_ble_eq_true rfl)) (Nat.le_of_ble_eq_true rfl) (Nat.le_of_ble_eq_true rfl) (Nat.le_of_ble_eq_true rfl) (Nat.le_of_ble_eq_true rfl) (fun hp17 => ?_)
    have hr15 := hp17
    refine j_istore_n hC dX1_read_60 rfl (Nat.le_of_ble_eq_true rfl) rfl ?_
    refine j_goto hC dX1_read_61 rfl ?_
    refine j_sub [2, 1, 0] rfl ?_
    exact J_82 r7 r15 hr7 hr15 M16 h
  have h := zf c14 h
  by_cases c18 : r7 = 2
  · have h := zt c18 h
    refine j_tswIn hC 2 dX1_read_16 (w_id hr7) c18 (by decide) (by decide) rfl rfl ?_
    refine j_aload_n hC 1 dX1_read_64 rfl rfl ?_
    obtain ⟨r19, M20, hy, h⟩ := zb2_ex h
    refine j_callVi (ci := 1) hC hE lk_X1_44 dX1_read_65 (c_X1_readMode l hlt g M8 S hF hy) [] [] (zFx_kd hF 2 rfl) ⟨_, rfl, by decide, rfl⟩ rfl rfl rfl (zcat (Nat.le_of_ble_eq_true rfl)) (Nat.le_of_ble_eq_true rfl) (Nat.le_of_ble_eq_true rfl) (Nat.le_of_ble_eq_true rfl) (Nat.le_of_ble_eq_true rfl) (fun hp21 => ?_)
    have hr19 := hp21
    refine j_istore_n hC dX1_read_68 rfl (Nat.le_of_ble_eq_true rfl) rfl ?_
    refine j_goto hC dX1_read_69 rfl ?_
    refine j_sub [2, 1, 0] rfl ?_
    exact J_82 r7 r19 hr7 hr19 M20 h
  have h := zf c18 h
  by_cases c22 : r7 = 3
  · have h := zt c22 h
    refine j_tswIn hC 3 dX1_read_16 (w_id hr7) c22 (by decide) (by decide) rfl rfl ?_
    refine j_aload_n hC 1 dX1_read_72 rfl rfl ?_
    obtain ⟨r23, M24, hy, h⟩ := zb2_ex h
    refine j_callVi (ci := 1) hC hE lk_X1_47 dX1_read_73 (c_X1_readLimit l hlt g M8 S hF hy) [] [] (zFx_kd hF 2 rfl) ⟨_, rfl, by decide, rfl⟩ rfl rfl rfl (zcat (Nat.le_of_ble_eq_true rfl)) (Nat.le_of_ble_eq_true rfl) (Nat.le_of_ble_eq_true rfl) (Nat.le_of_ble_eq_true rfl) (Nat.le_of_ble_eq_true rfl) (fun hp25 => ?_)
    have hr23 := hp25
    refine j_istore_n hC dX1_read_76 rfl (Nat.le_of_ble_eq_true rfl) rfl ?_
    refine j_goto hC dX1_read_77 rfl ?_
    refine j_sub [2, 1, 0] rfl ?_
    exact J_82 r7 r23 hr7 hr23 M24 h
  have h := zf c22 h
  refine j_tswOut hC dX1_read_16 (w_id hr7) (by omega) rfl ?_
  refine j_iconst hC dX1_read_80 ?_
  refine j_istore_n hC dX1_read_81 rfl (Nat.le_of_ble_eq_true rfl) rfl ?_
  refine j_sub [2, 1, 0] rfl ?_
  exact J_82 r7 0 hr7 kR_0 M8 h
set_option maxHeartbeats 4000000 in
set_option maxRecDepth 100000 in
theorem c_X2_init (l : Launch) (hlt : l.stackTraces = false) (g : zG) (v0 : Nat) (M : zM) (S : zS) {M' : zM} {S' : zS} (h : F_X2_init v0 M S = some (M', S')) : zMet l g yX2_init cX2_init 1 none 3 2 11 [zr g v0] M S (.inl none) M' S' (True) := by
  refine zMet_of (by decide) hlt [(0, zr g v0)] (by simp only [lv_args, zr_cat, zc_i, zc_l, zc_d, zc_r] <;> rfl) (by rw [zsl_len]; simp only [List.map_cons, List.map_nil, zr_cat, zc_i, zc_l, zc_d, zc_r, List.sum_cons, List.sum_nil] <;> decide) (fun K hC hE hN => ?_)
  unfold F_X2_init at h
  refine j_aload_n hC 0 dX2_init_0 rfl rfl ?_
  obtain ⟨c1, h⟩ := zchk_ex h
  refine j_objI hC hE dX2_init_1 k128 k79 k80 c1 (Nat.le_of_ble_eq_true rfl) (Nat.le_of_ble_eq_true rfl) ?_
  refine j_aload_n hC 0 dX2_init_4 rfl rfl ?_
  refine j_bipush hC dX2_init_5 rfl ?_
  obtain ⟨q2, eq2, h⟩ := zlet_ex h
  obtain ⟨c3, h⟩ := zchk_ex h
  obtain ⟨S4, eS4, h⟩ := zlet_ex h
  refine j_newa20 (N := 6) (mx := 6) hC hE ka_20 dX2_init_7 (w_id kR_6) rfl (Nat.le_of_ble_eq_true rfl) (Nat.le_of_ble_eq_true rfl) eq2 eS4 (Or.inl c3) (Nat.le_of_ble_eq_true rfl) (Nat.le_of_ble_eq_true rfl) ?_
  obtain ⟨hk, h⟩ := zchk_ex h
  have hk5 := hk
  obtain ⟨S6, eS6, h⟩ := zlet_ex h
  refine j_putq hC hE dX2_init_9 f_X2_9 pF_X2 hk5 rfl rfl rfl 0 rfl eS6 ?_
  refine j_aload_n hC 0 dX2_init_12 rfl rfl ?_
  refine j_iconst hC dX2_init_13 ?_
  obtain ⟨q7, eq7, h⟩ := zlet_ex h
  obtain ⟨c8, h⟩ := zchk_ex h
  obtain ⟨S9, eS9, h⟩ := zlet_ex h
  refine j_newa25 (N := 5) (mx := 5) hC hE an_X2_13 dX2_init_14 (w_id kR_5) rfl (Nat.le_of_ble_eq_true rfl) (Nat.le_of_ble_eq_true rfl) eq7 eS9 (Or.inl c8) (Nat.le_of_ble_eq_true rfl) (Nat.le_of_ble_eq_true rfl) ?_
  obtain ⟨hk, h⟩ := zchk_ex h
  have hk10 := hk
  obtain ⟨S11, eS11, h⟩ := zlet_ex h
  refine j_putq hC hE dX2_init_17 f_X2_15 pF_X2 hk10 rfl rfl rfl 1 rfl eS11 ?_
  refine j_aload_n hC 0 dX2_init_20 rfl rfl ?_
  refine j_iconst hC dX2_init_21 ?_
  obtain ⟨hk, h⟩ := zchk_ex h
  have hk12 := hk
  obtain ⟨M13, eM13, h⟩ := zlet_ex h
  refine j_put hC dX2_init_22 f_X2_19 pF_X2 hk12 (Or.inl rfl) rfl 4 rfl (w_id kR_1) kR_1 eM13 ?_
  refine j_aload_n hC 0 dX2_init_25 rfl rfl ?_
  refine j_bipush hC dX2_init_26 rfl ?_
  obtain ⟨hk, h⟩ := zchk_ex h
  have hk14 := hk
  obtain ⟨M15, eM15, h⟩ := zlet_ex h
  refine j_put hC dX2_init_28 f_X2_23 pF_X2 hk14 (Or.inl rfl) rfl 5 rfl (w_id kR_6) kR_6 eM15 ?_
  obtain ⟨e1, e2⟩ := zpr2 (Option.some.inj h)
  exact j_vret hC hE dX2_init_31 rfl e1 e2 trivial (Nat.le_of_ble_eq_true rfl) (Nat.le_of_ble_eq_true rfl)
set_option maxHeartbeats 4000000 in
set_option maxRecDepth 100000 in
theorem c_X2_copyFrom_a (l : Launch) (hlt : l.stackTraces = false) (g : zG) (M : zM) (S : zS) (hF : zFx S) {M' : zM} {S' : zS} (h : F_X2_copyFrom_a M S = some (M', S')) : zMet l g yX2_copyFrom cX2_copyFrom 3 none 3 0 0 [zr g 5, zr g 8] M S (.inl none) M' S' (zFx S') := by
  refine zMet_of (by decide) hlt [(0, zr g 5), (1, zr g 8)] rfl (Nat.le_of_ble_eq_true rfl) (fun K hC hE hN => ?_)
  unfold F_X2_copyFrom_a at h
  have J_53 : ∀ (M : zM) (S : zS) (hF : zFx S) (_ : F_X2_copyFrom_a_J53 M S = some (M', S')), zJ K g 0 0 53 3 [(0, zr g 5), (1, zr g 8)] [] M S := by
    intro M S hF h
    unfold F_X2_copyFrom_a_J53 at h
    refine j_aload_n hC 0 dX2_copyFrom_53 rfl rfl ?_
    refine j_aload_n hC 1 dX2_copyFrom_54 rfl rfl ?_
    refine j_get hC dX2_copyFrom_55 f_X2_32 (zFx_kd hF 8 rfl) rfl 2 rfl (fun hg1 => ?_)
    obtain ⟨M2, eM2, h⟩ := zlet_ex h
    refine j_put hC dX2_copyFrom_58 f_X2_32 pF_X2 (zFx_kd hF 5 rfl) (Or.inl rfl) rfl 2 rfl (w_id hg1) hg1 eM2 ?_
    refine j_aload_n hC 0 dX2_copyFrom_61 rfl rfl ?_
    refine j_aload_n hC 1 dX2_copyFrom_62 rfl rfl ?_
    refine j_get hC dX2_copyFrom_63 f_X2_35 (zFx_kd hF 8 rfl) rfl 3 rfl (fun hg3 => ?_)
    obtain ⟨M4, eM4, h⟩ := zlet_ex h
    refine j_put hC dX2_copyFrom_66 f_X2_35 pF_X2 (zFx_kd hF 5 rfl) (Or.inl rfl) rfl 3 rfl (w_id hg3) hg3 eM4 ?_
    refine j_aload_n hC 0 dX2_copyFrom_69 rfl rfl ?_
    refine j_aload_n hC 1 dX2_copyFrom_70 rfl rfl ?_
    refine j_get hC dX2_copyFrom_71 f_X2_19 (zFx_kd hF 8 rfl) rfl 4 rfl (fun hg5 => ?_)
    obtain ⟨M6, eM6, h⟩ := zlet_ex h
    refine j_put hC dX2_copyFrom_74 f_X2_19 pF_X2 (zFx_kd hF 5 rfl) (Or.inl rfl) rfl 4 rfl (w_id hg5) hg5 eM6 ?_
    refine j_aload_n hC 0 dX2_copyFrom_77 rfl rfl ?_
    refine j_aload_n hC 1 dX2_copyFrom_78 rfl rfl ?_
    refine j_get hC dX2_copyFrom_79 f_X2_23 (zFx_kd hF 8 rfl) rfl 5 rfl (fun hg7 => ?_)
    obtain ⟨M8, eM8, h⟩ := zlet_ex h
    refine j_put hC dX2_copyFrom_82 f_X2_23 pF_X2 (zFx_kd hF 5 rfl) (Or.inl rfl) rfl 5 rfl (w_id hg7) hg7 eM8 ?_
    obtain ⟨e1, e2⟩ := zpr2 (Option.some.inj h)
    exact j_vret hC hE dX2_copyFrom_85 rfl e1 e2 (by rw [← e2]; exact hF) (Nat.le_of_ble_eq_true rfl) (Nat.le_of_ble_eq_true rfl)
  have L_17 : ∀ (v2 : Int) (hv2 : inR v2) (M : zM) (S : zS) (hF : zFx S) (_ : F_X2_copyFrom_a_L17 v2 M S = some (M', S')), zJ K g 0 0 17 3 [(0, zr g 5), (1, zr g 8), (2, .int (zi v2))] [] M S := by
    intro v2 hv2 M S hF h
    unfold F_X2_copyFrom_a_L17 at h
    obtain ⟨ex17, hl, hd17⟩ := zb1_ex h
    obtain ⟨bd17, ebd⟩ : ∃ f, f = (fun (s : Int × zS) => F_X2_copyFrom_a_B17 s.1 M s.2) := ⟨_, rfl⟩
    rw [← ebd] at hl
    have main : ∀ (n17 : Nat) (v2 : Int) (hv2 : inR v2) (S : zS) (hF : zFx S) (_ : zloop bd17 n17 (v2, S) = some ex17), zJ K g 0 0 17 3 [(0, zr g 5), (1, zr g 8), (2, .int (zi v2))] [] M S := by
      intro n17
      induction n17 with
      | zero => intro v2 hv2 S hF hl; exact zloop_0 hl
      | succ n17 ih17 =>
        intro v2 hv2 S hF hl
        obtain ⟨o, h, hT⟩ := zloop_ex hl
        have h : F_X2_copyFrom_a_B17 v2 M S = some o := by rw [ebd] at h; exact h
        unfold F_X2_copyFrom_a_B17 at h
        refine j_iload_n hC 2 dX2_copyFrom_17 rfl rfl ?_
        refine j_aload_n hC 0 dX2_copyFrom_18 rfl rfl ?_
        refine j_getq (q := 7) hC dX2_copyFrom_19 f_X2_15 (zFx_kd hF 5 rfl) rfl 1 rfl (zFx_rf hF 5 1 rfl) ?_
        refine j_alen (k := 25) (n := 5) hC dX2_copyFrom_22 (zFx_kd hF 7 rfl) (Nat.le_of_ble_eq_true rfl) (Nat.le_of_ble_eq_true rfl) (zFx_ln hF 7 rfl) (fun _ => ?_)
        refine j_icmp_ge hC dX2_copyFrom_23 rfl (w_id hv2) (w_id kR_5) (fun c9 => ?_) (fun c9 => ?_)
        · have h := zf c9 h
          obtain rfl := Option.some.inj h
          have hx17 := hd17
          rw [← show _ = ex17 from hT] at hx17
          refine j_sub [0, 1] rfl ?_
          exact J_53 M S hF hx17
        · have h := zt c9 h
          refine j_iload_n hC 2 dX2_copyFrom_26 rfl rfl ?_
          refine j_aload_n hC 1 dX2_copyFrom_27 rfl rfl ?_
          refine j_getq (q := 10) hC dX2_copyFrom_28 f_X2_15 (zFx_kd hF 8 rfl) rfl 1 rfl (zFx_rf hF 8 1 rfl) ?_
          refine j_alen (k := 25) (n := 5) hC dX2_copyFrom_31 (zFx_kd hF 10 rfl) (Nat.le_of_ble_eq_true rfl) (Nat.le_of_ble_eq_true rfl) (zFx_ln hF 10 rfl) (fun _ => ?_)
          refine j_icmp_ge hC dX2_copyFrom_32 rfl (w_id hv2) (w_id kR_5) (fun c10 => ?_) (fun c10 => ?_)
          · have h := zf c10 h
            obtain rfl := Option.some.inj h
            have hx17 := hd17
            rw [← show _ = ex17 from hT] at hx17
            refine j_sub [0, 1] rfl ?_
            exact J_53 M S hF hx17
          · have h := zt c10 h
            refine j_aload_n hC 0 dX2_copyFrom_35 rfl rfl ?_
            refine j_getq (q := 7) hC dX2_copyFrom_36 f_X2_15 (zFx_kd hF 5 rfl) rfl 1 rfl (zFx_rf hF 5 1 rfl) ?_
            refine j_iload_n hC 2 dX2_copyFrom_39 rfl rfl ?_
            refine j_aload_n hC 1 dX2_copyFrom_40 rfl rfl ?_
            refine j_getq (q := 10) hC dX2_copyFrom_41 f_X2_15 (zFx_kd hF 8 rfl) rfl 1 rfl (zFx_rf hF 8 1 rfl) ?_
            refine j_iload_n hC 2 dX2_copyFrom_44 rfl rfl ?_
            obtain ⟨c11, h⟩ := zchk_ex h
            refine j_aald (k := 25) (n := 5) hC dX2_copyFrom_45 (w_id hv2) (zFx_kd hF 10 rfl) (Nat.le_of_ble_eq_true rfl) (Nat.le_of_ble_eq_true rfl) (zFx_ln hF 10 rfl) c11.1 c11.2 ?_
            obtain ⟨c12, h⟩ := zchk_ex h
            obtain ⟨c13, h⟩ := zchk_ex h
            obtain ⟨S14, eS14, h⟩ := zlet_ex h
            refine j_aast25 (n := 5) hC hE dX2_copyFrom_46 (w_id hv2) (zFx_kd hF 7 rfl) (zFx_ln hF 7 rfl) c12.1 c12.2 c13 eS14 ?_
            have hF15 : zFx S14 := zFx_aq hF eS14 rfl
            obtain ⟨x16, ex16, h⟩ := zlet_ex h
            have hx16 : inR x16 := by rw [ex16]; exact inR_w _
            refine j_iinc hC 2 dX2_copyFrom_47 rfl ex16 (Nat.le_of_ble_eq_true rfl) rfl ?_
            refine j_goto hC dX2_copyFrom_50 rfl ?_
            obtain rfl := Option.some.inj h
            refine j_sub [1, 2, 0] rfl ?_
            exact ih17 x16 hx16 S14 hF15 hT
    exact main zN v2 hv2 S hF hl
  refine j_aload_n hC 1 dX2_copyFrom_0 rfl rfl ?_
  refine j_getq (q := 9) hC dX2_copyFrom_1 f_X2_9 (zFx_kd hF 8 rfl) rfl 0 rfl (zFx_rf hF 8 0 rfl) ?_
  refine j_iconst hC dX2_copyFrom_4 ?_
  refine j_aload_n hC 0 dX2_copyFrom_5 rfl rfl ?_
  refine j_getq (q := 6) hC dX2_copyFrom_6 f_X2_9 (zFx_kd hF 5 rfl) rfl 0 rfl (zFx_rf hF 5 0 rfl) ?_
  refine j_iconst hC dX2_copyFrom_9 ?_
  refine j_bipush hC dX2_copyFrom_10 rfl ?_
  obtain ⟨c17, h⟩ := zchk_ex h
  obtain ⟨M18, eM18, h⟩ := zlet_ex h
  refine j_copy (l1 := 6) (l2 := 6) hC hE lk_X2_26 dX2_copyFrom_12 (zFx_kd hF 9 rfl) (zFx_kd hF 6 rfl) (zFx_ln hF 9 rfl) (zFx_ln hF 6 rfl) (w_id kR_0) (w_id kR_0) (w_id kR_6) c17 eM18 (Nat.le_of_ble_eq_true rfl) (Nat.le_of_ble_eq_true rfl) ?_
  refine j_iconst hC dX2_copyFrom_15 ?_
  refine j_istore_n hC dX2_copyFrom_16 rfl (Nat.le_of_ble_eq_true rfl) rfl ?_
  refine j_sub [1, 2, 0] rfl ?_
  exact L_17 0 kR_0 M18 S hF h
set_option maxHeartbeats 4000000 in
set_option maxRecDepth 100000 in
theorem c_X2_copyFrom_b (l : Launch) (hlt : l.stackTraces = false) (g : zG) (M : zM) (S : zS) (hF : zFx S) {M' : zM} {S' : zS} (h : F_X2_copyFrom_b M S = some (M', S')) : zMet l g yX2_copyFrom cX2_copyFrom 3 none 3 0 0 [zr g 8, zr g 5] M S (.inl none) M' S' (zFx S') := by
  refine zMet_of (by decide) hlt [(0, zr g 8), (1, zr g 5)] rfl (Nat.le_of_ble_eq_true rfl) (fun K hC hE hN => ?_)
  unfold F_X2_copyFrom_b at h
  have J_53 : ∀ (M : zM) (S : zS) (hF : zFx S) (_ : F_X2_copyFrom_b_J53 M S = some (M', S')), zJ K g 0 0 53 3 [(0, zr g 8), (1, zr g 5)] [] M S := by
    intro M S hF h
    unfold F_X2_copyFrom_b_J53 at h
    refine j_aload_n hC 0 dX2_copyFrom_53 rfl rfl ?_
    refine j_aload_n hC 1 dX2_copyFrom_54 rfl rfl ?_
    refine j_get hC dX2_copyFrom_55 f_X2_32 (zFx_kd hF 5 rfl) rfl 2 rfl (fun hg1 => ?_)
    obtain ⟨M2, eM2, h⟩ := zlet_ex h
    refine j_put hC dX2_copyFrom_58 f_X2_32 pF_X2 (zFx_kd hF 8 rfl) (Or.inl rfl) rfl 2 rfl (w_id hg1) hg1 eM2 ?_
    refine j_aload_n hC 0 dX2_copyFrom_61 rfl rfl ?_
    refine j_aload_n hC 1 dX2_copyFrom_62 rfl rfl ?_
    refine j_get hC dX2_copyFrom_63 f_X2_35 (zFx_kd hF 5 rfl) rfl 3 rfl (fun hg3 => ?_)
    obtain ⟨M4, eM4, h⟩ := zlet_ex h
    refine j_put hC dX2_copyFrom_66 f_X2_35 pF_X2 (zFx_kd hF 8 rfl) (Or.inl rfl) rfl 3 rfl (w_id hg3) hg3 eM4 ?_
    refine j_aload_n hC 0 dX2_copyFrom_69 rfl rfl ?_
    refine j_aload_n hC 1 dX2_copyFrom_70 rfl rfl ?_
    refine j_get hC dX2_copyFrom_71 f_X2_19 (zFx_kd hF 5 rfl) rfl 4 rfl (fun hg5 => ?_)
    obtain ⟨M6, eM6, h⟩ := zlet_ex h
    refine j_put hC dX2_copyFrom_74 f_X2_19 pF_X2 (zFx_kd hF 8 rfl) (Or.inl rfl) rfl 4 rfl (w_id hg5) hg5 eM6 ?_
    refine j_aload_n hC 0 dX2_copyFrom_77 rfl rfl ?_
    refine j_aload_n hC 1 dX2_copyFrom_78 rfl rfl ?_
    refine j_get hC dX2_copyFrom_79 f_X2_23 (zFx_kd hF 5 rfl) rfl 5 rfl (fun hg7 => ?_)
    obtain ⟨M8, eM8, h⟩ := zlet_ex h
    refine j_put hC dX2_copyFrom_82 f_X2_23 pF_X2 (zFx_kd hF 8 rfl) (Or.inl rfl) rfl 5 rfl (w_id hg7) hg7 eM8 ?_
    obtain ⟨e1, e2⟩ := zpr2 (Option.some.inj h)
    exact j_vret hC hE dX2_copyFrom_85 rfl e1 e2 (by rw [← e2]; exact hF) (Nat.le_of_ble_eq_true rfl) (Nat.le_of_ble_eq_true rfl)
  have L_17 : ∀ (v2 : Int) (hv2 : inR v2) (M : zM) (S : zS) (hF : zFx S) (_ : F_X2_copyFrom_b_L17 v2 M S = some (M', S')), zJ K g 0 0 17 3 [(0, zr g 8), (1, zr g 5), (2, .int (zi v2))] [] M S := by
    intro v2 hv2 M S hF h
    unfold F_X2_copyFrom_b_L17 at h
    obtain ⟨ex17, hl, hd17⟩ := zb1_ex h
    obtain ⟨bd17, ebd⟩ : ∃ f, f = (fun (s : Int × zS) => F_X2_copyFrom_b_B17 s.1 M s.2) := ⟨_, rfl⟩
    rw [← ebd] at hl
    have main : ∀ (n17 : Nat) (v2 : Int) (hv2 : inR v2) (S : zS) (hF : zFx S) (_ : zloop bd17 n17 (v2, S) = some ex17), zJ K g 0 0 17 3 [(0, zr g 8), (1, zr g 5), (2, .int (zi v2))] [] M S := by
      intro n17
      induction n17 with
      | zero => intro v2 hv2 S hF hl; exact zloop_0 hl
      | succ n17 ih17 =>
        intro v2 hv2 S hF hl
        obtain ⟨o, h, hT⟩ := zloop_ex hl
        have h : F_X2_copyFrom_b_B17 v2 M S = some o := by rw [ebd] at h; exact h
        unfold F_X2_copyFrom_b_B17 at h
        refine j_iload_n hC 2 dX2_copyFrom_17 rfl rfl ?_
        refine j_aload_n hC 0 dX2_copyFrom_18 rfl rfl ?_
        refine j_getq (q := 10) hC dX2_copyFrom_19 f_X2_15 (zFx_kd hF 8 rfl) rfl 1 rfl (zFx_rf hF 8 1 rfl) ?_
        refine j_alen (k := 25) (n := 5) hC dX2_copyFrom_22 (zFx_kd hF 10 rfl) (Nat.le_of_ble_eq_true rfl) (Nat.le_of_ble_eq_true rfl) (zFx_ln hF 10 rfl) (fun _ => ?_)
        refine j_icmp_ge hC dX2_copyFrom_23 rfl (w_id hv2) (w_id kR_5) (fun c9 => ?_) (fun c9 => ?_)
        · have h := zf c9 h
          obtain rfl := Option.some.inj h
          have hx17 := hd17
          rw [← show _ = ex17 from hT] at hx17
          refine j_sub [0, 1] rfl ?_
          exact J_53 M S hF hx17
        · have h := zt c9 h
          refine j_iload_n hC 2 dX2_copyFrom_26 rfl rfl ?_
          refine j_aload_n hC 1 dX2_copyFrom_27 rfl rfl ?_
          refine j_getq (q := 7) hC dX2_copyFrom_28 f_X2_15 (zFx_kd hF 5 rfl) rfl 1 rfl (zFx_rf hF 5 1 rfl) ?_
          refine j_alen (k := 25) (n := 5) hC dX2_copyFrom_31 (zFx_kd hF 7 rfl) (Nat.le_of_ble_eq_true rfl) (Nat.le_of_ble_eq_true rfl) (zFx_ln hF 7 rfl) (fun _ => ?_)
          refine j_icmp_ge hC dX2_copyFrom_32 rfl (w_id hv2) (w_id kR_5) (fun c10 => ?_) (fun c10 => ?_)
          · have h := zf c10 h
            obtain rfl := Option.some.inj h
            have hx17 := hd17
            rw [← show _ = ex17 from hT] at hx17
            refine j_sub [0, 1] rfl ?_
            exact J_53 M S hF hx17
          · have h := zt c10 h
            refine j_aload_n hC 0 dX2_copyFrom_35 rfl rfl ?_
            refine j_getq (q := 10) hC dX2_copyFrom_36 f_X2_15 (zFx_kd hF 8 rfl) rfl 1 rfl (zFx_rf hF 8 1 rfl) ?_
            refine j_iload_n hC 2 dX2_copyFrom_39 rfl rfl ?_
            refine j_aload_n hC 1 dX2_copyFrom_40 rfl rfl ?_
            refine j_getq (q := 7) hC dX2_copyFrom_41 f_X2_15 (zFx_kd hF 5 rfl) rfl 1 rfl (zFx_rf hF 5 1 rfl) ?_
            refine j_iload_n hC 2 dX2_copyFrom_44 rfl rfl ?_
            obtain ⟨c11, h⟩ := zchk_ex h
            refine j_aald (k := 25) (n := 5) hC dX2_copyFrom_45 (w_id hv2) (zFx_kd hF 7 rfl) (Nat.le_of_ble_eq_true rfl) (Nat.le_of_ble_eq_true rfl) (zFx_ln hF 7 rfl) c11.1 c11.2 ?_
            obtain ⟨c12, h⟩ := zchk_ex h
            obtain ⟨c13, h⟩ := zchk_ex h
            obtain ⟨S14, eS14, h⟩ := zlet_ex h
            refine j_aast25 (n := 5) hC hE dX2_copyFrom_46 (w_id hv2) (zFx_kd hF 10 rfl) (zFx_ln hF 10 rfl) c12.1 c12.2 c13 eS14 ?_
            have hF15 : zFx S14 := zFx_aq hF eS14 rfl
            obtain ⟨x16, ex16, h⟩ := zlet_ex h
            have hx16 : inR x16 := by rw [ex16]; exact inR_w _
            refine j_iinc hC 2 dX2_copyFrom_47 rfl ex16 (Nat.le_of_ble_eq_true rfl) rfl ?_
            refine j_goto hC dX2_copyFrom_50 rfl ?_
            obtain rfl := Option.some.inj h
            refine j_sub [1, 2, 0] rfl ?_
            exact ih17 x16 hx16 S14 hF15 hT
    exact main zN v2 hv2 S hF hl
  refine j_aload_n hC 1 dX2_copyFrom_0 rfl rfl ?_
  refine j_getq (q := 6) hC dX2_copyFrom_1 f_X2_9 (zFx_kd hF 5 rfl) rfl 0 rfl (zFx_rf hF 5 0 rfl) ?_
  refine j_iconst hC dX2_copyFrom_4 ?_
  refine j_aload_n hC 0 dX2_copyFrom_5 rfl rfl ?_
  refine j_getq (q := 9) hC dX2_copyFrom_6 f_X2_9 (zFx_kd hF 8 rfl) rfl 0 rfl (zFx_rf hF 8 0 rfl) ?_
  refine j_iconst hC dX2_copyFrom_9 ?_
  refine j_bipush hC dX2_copyFrom_10 rfl ?_
  obtain ⟨c17, h⟩ := zchk_ex h
  obtain ⟨M18, eM18, h⟩ := zlet_ex h
  refine j_copy (l1 := 6) (l2 := 6) hC hE lk_X2_26 dX2_copyFrom_12 (zFx_kd hF 6 rfl) (zFx_kd hF 9 rfl) (zFx_ln hF 6 rfl) (zFx_ln hF 9 rfl) (w_id kR_0) (w_id kR_0) (w_id kR_6) c17 eM18 (Nat.le_of_ble_eq_true rfl) (Nat.le_of_ble_eq_true rfl) ?_
  refine j_iconst hC dX2_copyFrom_15 ?_
  refine j_istore_n hC dX2_copyFrom_16 rfl (Nat.le_of_ble_eq_true rfl) rfl ?_
  refine j_sub [1, 2, 0] rfl ?_
  exact L_17 0 kR_0 M18 S hF h
set_option maxHeartbeats 4000000 in
set_option maxRecDepth 100000 in
theorem c_X6_at (l : Launch) (hlt : l.stackTraces = false) (g : zG) (v0 : Nat) (v1 : Int) (hv1 : inR v1) (M : zM) (S : zS) (hF : zFx S) {r : Int} (h : F_X6_at v0 v1 M S = some r) : zMet l g yX6_at cX6_at 2 (some .int) 1 0 0 [zr g v0, .int (zi v1)] M S (.inl (some (.int (zi r)))) M S (inR r) := by
  refine zMet_of (by decide) hlt [(0, zr g v0), (1, .int (zi v1))] (by simp only [lv_args, zr_cat, zc_i, zc_l, zc_d, zc_r] <;> rfl) (by rw [zsl_len]; simp only [List.map_cons, List.map_nil, zr_cat, zc_i, zc_l, zc_d, zc_r, List.sum_cons, List.sum_nil] <;> decide) (fun K hC hE hN => ?_)
  unfold F_X6_at at h
  have J_10 : ∀ (_ : F_X6_at_J10 M S = some r), zJ K g 0 0 10 2 [] [] M S := by
    intro h
    unfold F_X6_at_J10 at h
    refine j_iconst hC dX6_at_10 ?_
    refine j_goto hC dX6_at_11 rfl ?_
    have e1 := Option.some.inj h
    exact j_iret hC hE dX6_at_17 (w_id kR_0) (zn_i _) (by rw [← e1]) rfl rfl (by rw [← e1]; exact kR_0) (Nat.le_of_ble_eq_true rfl) (Nat.le_of_ble_eq_true rfl)
  refine j_iload_n hC 1 dX6_at_0 rfl rfl ?_
  refine j_if_lt hC dX6_at_1 rfl (w_id hv1) (fun c1 => ?_) (fun c1 => ?_)
  · have h := zt c1 h
    refine j_sub [] rfl ?_
    exact J_10 h
  · have h := zf c1 h
    refine j_iload_n hC 1 dX6_at_4 rfl rfl ?_
    refine j_aload_n hC 0 dX6_at_5 rfl rfl ?_
    obtain ⟨hk, h⟩ := zchk_ex h
    have hk2 := hk
    refine j_alen (k := 20) (n := (zlen S v0)) hC dX6_at_6 hk2 (Nat.le_of_ble_eq_true rfl) (Nat.le_of_ble_eq_true rfl) rfl (fun hl3 => ?_)
    refine j_icmp_lt hC dX6_at_7 rfl (w_id hv1) (w_id hl3) (fun c4 => ?_) (fun c4 => ?_)
    · have h := zt c4 h
      refine j_aload_n hC 0 dX6_at_14 rfl rfl ?_
      refine j_iload_n hC 1 dX6_at_15 rfl rfl ?_
      obtain ⟨hk, h⟩ := zchk_ex h
      have hk5 := hk
      obtain ⟨c6, h⟩ := zchk_ex h
      refine j_iald (n := (zlen S v0)) hC dX6_at_16 (w_id hv1) hk5 rfl c6.1 c6.2 (fun hg7 => ?_)
      have e1 := Option.some.inj h
      exact j_iret hC hE dX6_at_17 (w_id hg7) (zn_i _) (by rw [← e1]) rfl rfl (by rw [← e1]; exact hg7) (Nat.le_of_ble_eq_true rfl) (Nat.le_of_ble_eq_true rfl)
    · have h := zf c4 h
      refine j_sub [] rfl ?_
      exact J_10 h
set_option maxHeartbeats 4000000 in
set_option maxRecDepth 100000 in
theorem c_X2_axiom (l : Launch) (hlt : l.stackTraces = false) (g : zG) (v1 : Int) (hv1 : inR v1) (M : zM) (S : zS) (hF : zFx S) {r : Int} (h : F_X2_axiom v1 M S = some r) : zMet l g yX2_axiom cX2_axiom 2 (some .int) 2 0 0 [zr g 5, .int (zi v1)] M S (.inl (some (.int (zi r)))) M S (inR r) := by
  refine zMet_of (by decide) hlt [(0, zr g 5), (1, .int (zi v1))] rfl (Nat.le_of_ble_eq_true rfl) (fun K hC hE hN => ?_)
  unfold F_X2_axiom at h
  refine j_aload_n hC 0 dX2_axiom_0 rfl rfl ?_
  refine j_getq (q := 6) hC dX2_axiom_1 f_X2_9 (zFx_kd hF 5 rfl) rfl 0 rfl (zFx_rf hF 5 0 rfl) ?_
  refine j_iload_n hC 1 dX2_axiom_4 rfl rfl ?_
  obtain ⟨r1, hy, h⟩ := zb1_ex h
  refine j_callSi hC hE lk_X2_38 dX2_axiom_5 (c_X6_at l hlt g 6 v1 hv1 M S hF hy) [zr g 6, .int (zi v1)] [] rfl rfl rfl (zcat (Nat.le_of_ble_eq_true rfl)) (Nat.le_of_ble_eq_true rfl) (Nat.le_of_ble_eq_true rfl) (Nat.le_of_ble_eq_true rfl) (Nat.le_of_ble_eq_true rfl) (fun hp2 => ?_)
  have hr1 := hp2
  have e1 := Option.some.inj h
  exact j_iret hC hE dX2_axiom_8 (w_id hr1) (zn_i _) (by rw [← e1]) rfl rfl (by rw [← e1]; exact hr1) (Nat.le_of_ble_eq_true rfl) (Nat.le_of_ble_eq_true rfl)
set_option maxHeartbeats 4000000 in
set_option maxRecDepth 100000 in
theorem c_X2_hasAxiom (l : Launch) (hlt : l.stackTraces = false) (g : zG) (v1 : Int) (hv1 : inR v1) (M : zM) (S : zS) (hF : zFx S) {r : Int} (h : F_X2_hasAxiom v1 M S = some r) : zMet l g yX2_hasAxiom cX2_hasAxiom 3 (some .boolean) 3 0 0 [zr g 5, .int (zi v1)] M S (.inl (some (.int (zi r)))) M S (inR r) := by
  refine zMet_of (by decide) hlt [(0, zr g 5), (1, .int (zi v1))] rfl (Nat.le_of_ble_eq_true rfl) (fun K hC hE hN => ?_)
  unfold F_X2_hasAxiom at h
  have J_27 : ∀ (_ : F_X2_hasAxiom_J27 M S = some r), zJ K g 0 0 27 3 [] [] M S := by
    intro h
    unfold F_X2_hasAxiom_J27 at h
    refine j_iconst hC dX2_hasAxiom_27 ?_
    have e1 := Option.some.inj h
    exact j_iret hC hE dX2_hasAxiom_28 (w_id kR_0) (zn_z zb01_0) (by rw [← e1]) rfl rfl (by rw [← e1]; exact kR_0) (Nat.le_of_ble_eq_true rfl) (Nat.le_of_ble_eq_true rfl)
  have J_19 : ∀ (_ : F_X2_hasAxiom_J19 M S = some r), zJ K g 0 0 19 3 [] [] M S := by
    intro h
    unfold F_X2_hasAxiom_J19 at h
    refine j_iconst hC dX2_hasAxiom_19 ?_
    have e1 := Option.some.inj h
    exact j_iret hC hE dX2_hasAxiom_20 (w_id kR_1) (zn_z zb01_1) (by rw [← e1]) rfl rfl (by rw [← e1]; exact kR_1) (Nat.le_of_ble_eq_true rfl) (Nat.le_of_ble_eq_true rfl)
  have L_2 : ∀ (v1 : Int) (v2 : Int) (hv1 : inR v1) (hv2 : inR v2) (_ : F_X2_hasAxiom_L2 v1 v2 M S = some r), zJ K g 0 0 2 3 [(0, zr g 5), (1, .int (zi v1)), (2, .int (zi v2))] [] M S := by
    intro v1 v2 hv1 hv2 h
    unfold F_X2_hasAxiom_L2 at h
    obtain ⟨ex2, hl, hd2⟩ := zb1_ex h
    obtain ⟨bd2, ebd⟩ : ∃ f, f = (fun (s : Int) => F_X2_hasAxiom_B2 v1 s M S) := ⟨_, rfl⟩
    rw [← ebd] at hl
    have main : ∀ (n2 : Nat) (v2 : Int) (hv2 : inR v2) (_ : zloop bd2 n2 v2 = some ex2), zJ K g 0 0 2 3 [(0, zr g 5), (1, .int (zi v1)), (2, .int (zi v2))] [] M S := by
      intro n2
      induction n2 with
      | zero => intro v2 hv2 hl; exact zloop_0 hl
      | succ n2 ih2 =>
        intro v2 hv2 hl
        obtain ⟨o, h, hT⟩ := zloop_ex hl
        have h : F_X2_hasAxiom_B2 v1 v2 M S = some o := by rw [ebd] at h; exact h
        unfold F_X2_hasAxiom_B2 at h
        refine j_iload_n hC 2 dX2_hasAxiom_2 rfl rfl ?_
        refine j_aload_n hC 0 dX2_hasAxiom_3 rfl rfl ?_
        refine j_get hC dX2_hasAxiom_4 f_X2_32 (zFx_kd hF 5 rfl) rfl 2 rfl (fun hg1 => ?_)
        refine j_icmp_ge hC dX2_hasAxiom_7 rfl (w_id hv2) (w_id hg1) (fun c2 => ?_) (fun c2 => ?_)
        · have h := zf c2 h
          obtain rfl := Option.some.inj h
          have hx2 := hd2
          rw [← show _ = ex2 from hT] at hx2
          dsimp only [Sum.elim] at hx2
          refine j_sub [] rfl ?_
          exact J_27 hx2
        · have h := zt c2 h
          refine j_aload_n hC 0 dX2_hasAxiom_10 rfl rfl ?_
          refine j_iload_n hC 2 dX2_hasAxiom_11 rfl rfl ?_
          obtain ⟨r3, hy, h⟩ := zb1_ex h
          refine j_callVi (ci := 2) hC hE lk_X2_44 dX2_hasAxiom_12 (c_X2_axiom l hlt g v2 hv2 M S hF hy) [.int (zi v2)] [] (zFx_kd hF 5 rfl) ⟨_, rfl, by decide, rfl⟩ rfl rfl rfl (zcat (Nat.le_of_ble_eq_true rfl)) (Nat.le_of_ble_eq_true rfl) (Nat.le_of_ble_eq_true rfl) (Nat.le_of_ble_eq_true rfl) (Nat.le_of_ble_eq_true rfl) (fun hp4 => ?_)
          have hr3 := hp4
          refine j_iload_n hC 1 dX2_hasAxiom_15 rfl rfl ?_
          refine j_icmp_ne hC dX2_hasAxiom_16 rfl (w_id hr3) (w_id hv1) (fun c5 => ?_) (fun c5 => ?_)
          · have h := zf c5 h
            obtain ⟨x6, ex6, h⟩ := zlet_ex h
            have hx6 : inR x6 := by rw [ex6]; exact inR_w _
            refine j_iinc hC 2 dX2_hasAxiom_21 rfl ex6 (Nat.le_of_ble_eq_true rfl) rfl ?_
            refine j_goto hC dX2_hasAxiom_24 rfl ?_
            obtain rfl := Option.some.inj h
            refine j_sub [1, 2, 0] rfl ?_
            exact ih2 x6 hx6 hT
          · have h := zt c5 h
            obtain rfl := Option.some.inj h
            have hx2 := hd2
            rw [← show _ = ex2 from hT] at hx2
            dsimp only [Sum.elim] at hx2
            refine j_sub [] rfl ?_
            exact J_19 hx2
    exact main zN v2 hv2 hl
  refine j_iconst hC dX2_hasAxiom_0 ?_
  refine j_istore_n hC dX2_hasAxiom_1 rfl (Nat.le_of_ble_eq_true rfl) rfl ?_
  refine j_sub [1, 2, 0] rfl ?_
  exact L_2 v1 0 hv1 kR_0 h
set_option maxHeartbeats 4000000 in
set_option maxRecDepth 100000 in
theorem c_X6_put (l : Launch) (hlt : l.stackTraces = false) (g : zG) (v0 : Nat) (v1 : Int) (v2 : Int) (hv1 : inR v1) (hv2 : inR v2) (M : zM) (S : zS) (hF : zFx S) {M' : zM} (h : F_X6_put v0 v1 v2 M S = some M') : zMet l g yX6_put cX6_put 3 none 1 0 0 [zr g v0, .int (zi v1), .int (zi v2)] M S (.inl none) M' S (True) := by
  refine zMet_of (by decide) hlt [(0, zr g v0), (1, .int (zi v1)), (2, .int (zi v2))] (by simp only [lv_args, zr_cat, zc_i, zc_l, zc_d, zc_r] <;> rfl) (by rw [zsl_len]; simp only [List.map_cons, List.map_nil, zr_cat, zc_i, zc_l, zc_d, zc_r, List.sum_cons, List.sum_nil] <;> decide) (fun K hC hE hN => ?_)
  unfold F_X6_put at h
  refine j_iload_n hC 1 dX6_put_0 rfl rfl ?_
  refine j_if_lt hC dX6_put_1 rfl (w_id hv1) (fun c1 => ?_) (fun c1 => ?_)
  · have h := zt c1 h
    have e1 := Option.some.inj h
    exact j_vret hC hE dX6_put_14 rfl e1 rfl trivial (Nat.le_of_ble_eq_true rfl) (Nat.le_of_ble_eq_true rfl)
  · have h := zf c1 h
    refine j_iload_n hC 1 dX6_put_4 rfl rfl ?_
    refine j_aload_n hC 0 dX6_put_5 rfl rfl ?_
    obtain ⟨hk, h⟩ := zchk_ex h
    have hk2 := hk
    refine j_alen (k := 20) (n := (zlen S v0)) hC dX6_put_6 hk2 (Nat.le_of_ble_eq_true rfl) (Nat.le_of_ble_eq_true rfl) rfl (fun hl3 => ?_)
    refine j_icmp_ge hC dX6_put_7 rfl (w_id hv1) (w_id hl3) (fun c4 => ?_) (fun c4 => ?_)
    · have h := zf c4 h
      have e1 := Option.some.inj h
      exact j_vret hC hE dX6_put_14 rfl e1 rfl trivial (Nat.le_of_ble_eq_true rfl) (Nat.le_of_ble_eq_true rfl)
    · have h := zt c4 h
      refine j_aload_n hC 0 dX6_put_10 rfl rfl ?_
      refine j_iload_n hC 1 dX6_put_11 rfl rfl ?_
      refine j_iload_n hC 2 dX6_put_12 rfl rfl ?_
      obtain ⟨hk, h⟩ := zchk_ex h
      have hk5 := hk
      obtain ⟨c6, h⟩ := zchk_ex h
      obtain ⟨M7, eM7, h⟩ := zlet_ex h
      refine j_iast (n := (zlen S v0)) hC dX6_put_13 (w_id hv1) (w_id hv2) hv2 hk5 rfl c6.1 c6.2 eM7 ?_
      have e1 := Option.some.inj h
      exact j_vret hC hE dX6_put_14 rfl e1 rfl trivial (Nat.le_of_ble_eq_true rfl) (Nat.le_of_ble_eq_true rfl)
set_option maxHeartbeats 4000000 in
set_option maxRecDepth 100000 in
theorem c_X2_putAxiom (l : Launch) (hlt : l.stackTraces = false) (g : zG) (v1 : Int) (hv1 : inR v1) (M : zM) (S : zS) (hF : zFx S) {M' : zM} (h : F_X2_putAxiom v1 M S = some M') : zMet l g yX2_putAxiom cX2_putAxiom 2 none 2 0 0 [zr g 5, .int (zi v1)] M S (.inl none) M' S (True) := by
  refine zMet_of (by decide) hlt [(0, zr g 5), (1, .int (zi v1))] rfl (Nat.le_of_ble_eq_true rfl) (fun K hC hE hN => ?_)
  unfold F_X2_putAxiom at h
  refine j_aload_n hC 0 dX2_putAxiom_0 rfl rfl ?_
  refine j_getq (q := 6) hC dX2_putAxiom_1 f_X2_9 (zFx_kd hF 5 rfl) rfl 0 rfl (zFx_rf hF 5 0 rfl) ?_
  refine j_aload_n hC 0 dX2_putAxiom_4 rfl rfl ?_
  refine j_get hC dX2_putAxiom_5 f_X2_32 (zFx_kd hF 5 rfl) rfl 2 rfl (fun hg1 => ?_)
  refine j_iload_n hC 1 dX2_putAxiom_8 rfl rfl ?_
  obtain ⟨M2, hy, h⟩ := zb1_ex h
  refine j_callSv hC hE lk_X2_48 dX2_putAxiom_9 (c_X6_put l hlt g 6 (M 5 2) v1 hg1 hv1 M S hF hy) [zr g 6, .int (zi (M 5 2)), .int (zi v1)] [] rfl rfl rfl (zcat (Nat.le_of_ble_eq_true rfl)) (Nat.le_of_ble_eq_true rfl) (Nat.le_of_ble_eq_true rfl) (Nat.le_of_ble_eq_true rfl) (Nat.le_of_ble_eq_true rfl) (fun hp3 => ?_)
  refine j_aload_n hC 0 dX2_putAxiom_12 rfl rfl ?_
  refine j_dup hC dX2_putAxiom_13 (zr_cat _ _) ?_
  refine j_get hC dX2_putAxiom_14 f_X2_32 (zFx_kd hF 5 rfl) rfl 2 rfl (fun hg4 => ?_)
  refine j_iconst hC dX2_putAxiom_17 ?_
  refine j_iadd hC dX2_putAxiom_18 ?_
  obtain ⟨M5, eM5, h⟩ := zlet_ex h
  refine j_put hC dX2_putAxiom_19 f_X2_32 pF_X2 (zFx_kd hF 5 rfl) (Or.inl rfl) rfl 2 rfl rfl (inR_w _) eM5 ?_
  have e1 := Option.some.inj h
  exact j_vret hC hE dX2_putAxiom_22 rfl e1 rfl trivial (Nat.le_of_ble_eq_true rfl) (Nat.le_of_ble_eq_true rfl)
set_option maxHeartbeats 4000000 in
set_option maxRecDepth 100000 in
theorem c_X2_dropAxiom (l : Launch) (hlt : l.stackTraces = false) (g : zG) (v1 : Int) (hv1 : inR v1) (M : zM) (S : zS) (hF : zFx S) {M' : zM} (h : F_X2_dropAxiom v1 M S = some M') : zMet l g yX2_dropAxiom cX2_dropAxiom 3 none 3 0 0 [zr g 5, .int (zi v1)] M S (.inl none) M' S (True) := by
  refine zMet_of (by decide) hlt [(0, zr g 5), (1, .int (zi v1))] rfl (Nat.le_of_ble_eq_true rfl) (fun K hC hE hN => ?_)
  unfold F_X2_dropAxiom at h
  have J_33 : ∀ (M : zM) (_ : F_X2_dropAxiom_J33 M S = some M'), zJ K g 0 0 33 3 [(0, zr g 5)] [] M S := by
    intro M h
    unfold F_X2_dropAxiom_J33 at h
    refine j_aload_n hC 0 dX2_dropAxiom_33 rfl rfl ?_
    refine j_dup hC dX2_dropAxiom_34 (zr_cat _ _) ?_
    refine j_get hC dX2_dropAxiom_35 f_X2_32 (zFx_kd hF 5 rfl) rfl 2 rfl (fun hg1 => ?_)
    refine j_iconst hC dX2_dropAxiom_38 ?_
    refine j_isub hC dX2_dropAxiom_39 ?_
    obtain ⟨M2, eM2, h⟩ := zlet_ex h
    refine j_put hC dX2_dropAxiom_40 f_X2_32 pF_X2 (zFx_kd hF 5 rfl) (Or.inl rfl) rfl 2 rfl rfl (inR_w _) eM2 ?_
    have e1 := Option.some.inj h
    exact j_vret hC hE dX2_dropAxiom_43 rfl e1 rfl trivial (Nat.le_of_ble_eq_true rfl) (Nat.le_of_ble_eq_true rfl)
  have L_4 : ∀ (v2 : Int) (hv2 : inR v2) (M : zM) (_ : F_X2_dropAxiom_L4 v2 M S = some M'), zJ K g 0 0 4 3 [(0, zr g 5), (2, .int (zi v2))] [] M S := by
    intro v2 hv2 M h
    unfold F_X2_dropAxiom_L4 at h
    obtain ⟨ex4, hl, hd4⟩ := zb1_ex h
    obtain ⟨bd4, ebd⟩ : ∃ f, f = (fun (s : Int × zM) => F_X2_dropAxiom_B4 s.1 s.2 S) := ⟨_, rfl⟩
    rw [← ebd] at hl
    have main : ∀ (n4 : Nat) (v2 : Int) (hv2 : inR v2) (M : zM) (_ : zloop bd4 n4 (v2, M) = some ex4), zJ K g 0 0 4 3 [(0, zr g 5), (2, .int (zi v2))] [] M S := by
      intro n4
      induction n4 with
      | zero => intro v2 hv2 M hl; exact zloop_0 hl
      | succ n4 ih4 =>
        intro v2 hv2 M hl
        obtain ⟨o, h, hT⟩ := zloop_ex hl
        have h : F_X2_dropAxiom_B4 v2 M S = some o := by rw [ebd] at h; exact h
        unfold F_X2_dropAxiom_B4 at h
        refine j_iload_n hC 1 dX2_dropAxiom_4 rfl rfl ?_
        refine j_aload_n hC 0 dX2_dropAxiom_5 rfl rfl ?_
        refine j_get hC dX2_dropAxiom_6 f_X2_32 (zFx_kd hF 5 rfl) rfl 2 rfl (fun hg3 => ?_)
        refine j_icmp_ge hC dX2_dropAxiom_9 rfl (w_id hv2) (w_id hg3) (fun c4 => ?_) (fun c4 => ?_)
        · have h := zf c4 h
          obtain rfl := Option.some.inj h
          have hx4 := hd4
          rw [← show _ = ex4 from hT] at hx4
          refine j_sub [0] rfl ?_
          exact J_33 M hx4
        · have h := zt c4 h
          refine j_aload_n hC 0 dX2_dropAxiom_12 rfl rfl ?_
          refine j_getq (q := 6) hC dX2_dropAxiom_13 f_X2_9 (zFx_kd hF 5 rfl) rfl 0 rfl (zFx_rf hF 5 0 rfl) ?_
          refine j_iload_n hC 1 dX2_dropAxiom_16 rfl rfl ?_
          refine j_iconst hC dX2_dropAxiom_17 ?_
          refine j_isub hC dX2_dropAxiom_18 ?_
          refine j_aload_n hC 0 dX2_dropAxiom_19 rfl rfl ?_
          refine j_iload_n hC 1 dX2_dropAxiom_20 rfl rfl ?_
          obtain ⟨r5, hy, h⟩ := zb1_ex h
          refine j_callVi (ci := 2) hC hE lk_X2_44 dX2_dropAxiom_21 (c_X2_axiom l hlt g v2 hv2 M S hF hy) [.int (zi v2)] [.int (zi (v2 - 1)), zr g 6] (zFx_kd hF 5 rfl) ⟨_, rfl, by decide, rfl⟩ rfl rfl rfl (zcat (Nat.le_of_ble_eq_true rfl)) (Nat.le_of_ble_eq_true rfl) (Nat.le_of_ble_eq_true rfl) (Nat.le_of_ble_eq_true rfl) (Nat.le_of_ble_eq_true rfl) (fun hp6 => ?_)
          have hr5 := hp6
          obtain ⟨M7, hy, h⟩ := zb1_ex h
          refine j_callSv hC hE lk_X2_48 dX2_dropAxiom_24 (c_X6_put l hlt g 6 (w (v2 - 1)) r5 (inR_w _) hr5 M S hF hy) [zr g 6, .int (zi (v2 - 1)), .int (zi r5)] [] rfl (by simp only [zi_w, zl_wl]) rfl (zcat (Nat.le_of_ble_eq_true rfl)) (Nat.le_of_ble_eq_true rfl) (Nat.le_of_ble_eq_true rfl) (Nat.le_of_ble_eq_true rfl) (Nat.le_of_ble_eq_true rfl) (fun hp8 => ?_)
          obtain ⟨x9, ex9, h⟩ := zlet_ex h
          have hx9 : inR x9 := by rw [ex9]; exact inR_w _
          refine j_iinc hC 1 dX2_dropAxiom_27 rfl ex9 (Nat.le_of_ble_eq_true rfl) rfl ?_
          refine j_goto hC dX2_dropAxiom_30 rfl ?_
          obtain rfl := Option.some.inj h
          refine j_sub [1, 0] rfl ?_
          exact ih4 x9 hx9 M7 hT
    exact main zN v2 hv2 M hl
  refine j_iload_n hC 1 dX2_dropAxiom_0 rfl rfl ?_
  refine j_iconst hC dX2_dropAxiom_1 ?_
  refine j_iadd hC dX2_dropAxiom_2 ?_
  obtain ⟨x10, ex10, h⟩ := zlet_ex h
  have hx10 : inR x10 := by rw [ex10]; exact inR_w _
  refine j_namei ex10 ?_
  refine j_istore_n hC dX2_dropAxiom_3 rfl (Nat.le_of_ble_eq_true rfl) rfl ?_
  refine j_sub [1, 0] rfl ?_
  exact L_4 x10 hx10 M h
set_option maxHeartbeats 4000000 in
set_option maxRecDepth 100000 in
theorem c_X2_context (l : Launch) (hlt : l.stackTraces = false) (g : zG) (v1 : Int) (hv1 : inR v1) (M : zM) (S : zS) (hF : zFx S) {r : Nat} (h : F_X2_context v1 S = some r) : zMet l g yX2_context cX2_context 2 (some (.object "ContextualGrammarLab$Context")) 1 0 0 [zr g 5, .int (zi v1)] M S (.inl (some (zr g r))) M S (True) := by
  refine zMet_of (by decide) hlt [(0, zr g 5), (1, .int (zi v1))] rfl (Nat.le_of_ble_eq_true rfl) (fun K hC hE hN => ?_)
  unfold F_X2_context at h
  have J_13 : ∀ (_ : F_X2_context_J13 S = some r), zJ K g 0 0 13 2 [] [] M S := by
    intro h
    unfold F_X2_context_J13 at h
    refine j_null hC dX2_context_13 ?_
    refine j_goto hC dX2_context_14 rfl ?_
    have e1 := Option.some.inj h
    exact j_aret hC hE dX2_context_23 (by rw [← e1]) rfl rfl trivial (Nat.le_of_ble_eq_true rfl) (Nat.le_of_ble_eq_true rfl)
  refine j_iload_n hC 1 dX2_context_0 rfl rfl ?_
  refine j_if_lt hC dX2_context_1 rfl (w_id hv1) (fun c1 => ?_) (fun c1 => ?_)
  · have h := zt c1 h
    refine j_sub [] rfl ?_
    exact J_13 h
  · have h := zf c1 h
    refine j_iload_n hC 1 dX2_context_4 rfl rfl ?_
    refine j_aload_n hC 0 dX2_context_5 rfl rfl ?_
    refine j_getq (q := 7) hC dX2_context_6 f_X2_15 (zFx_kd hF 5 rfl) rfl 1 rfl (zFx_rf hF 5 1 rfl) ?_
    refine j_alen (k := 25) (n := 5) hC dX2_context_9 (zFx_kd hF 7 rfl) (Nat.le_of_ble_eq_true rfl) (Nat.le_of_ble_eq_true rfl) (zFx_ln hF 7 rfl) (fun _ => ?_)
    refine j_icmp_lt hC dX2_context_10 rfl (w_id hv1) (w_id kR_5) (fun c2 => ?_) (fun c2 => ?_)
    · have h := zt c2 h
      refine j_aload_n hC 0 dX2_context_17 rfl rfl ?_
      refine j_getq (q := 7) hC dX2_context_18 f_X2_15 (zFx_kd hF 5 rfl) rfl 1 rfl (zFx_rf hF 5 1 rfl) ?_
      refine j_iload_n hC 1 dX2_context_21 rfl rfl ?_
      obtain ⟨c3, h⟩ := zchk_ex h
      refine j_aald (k := 25) (n := 5) hC dX2_context_22 (w_id hv1) (zFx_kd hF 7 rfl) (Nat.le_of_ble_eq_true rfl) (Nat.le_of_ble_eq_true rfl) (zFx_ln hF 7 rfl) c3.1 c3.2 ?_
      have e1 := Option.some.inj h
      exact j_aret hC hE dX2_context_23 (by rw [← e1]) rfl rfl trivial (Nat.le_of_ble_eq_true rfl) (Nat.le_of_ble_eq_true rfl)
    · have h := zf c2 h
      refine j_sub [] rfl ?_
      exact J_13 h
set_option maxHeartbeats 4000000 in
set_option maxRecDepth 100000 in
theorem c_X2_allContexts (l : Launch) (hlt : l.stackTraces = false) (g : zG) (M : zM) (S : zS) (hF : zFx S) {r : Int} (h : F_X2_allContexts M = some r) : zMet l g yX2_allContexts cX2_allContexts 1 (some .int) 1 0 0 [zr g 5] M S (.inl (some (.int (zi r)))) M S (inR r) := by
  refine zMet_of (by decide) hlt [(0, zr g 5)] rfl (Nat.le_of_ble_eq_true rfl) (fun K hC hE hN => ?_)
  unfold F_X2_allContexts at h
  refine j_iconst hC dX2_allContexts_0 ?_
  refine j_aload_n hC 0 dX2_allContexts_1 rfl rfl ?_
  refine j_get hC dX2_allContexts_2 f_X2_35 (zFx_kd hF 5 rfl) rfl 3 rfl (fun hg1 => ?_)
  refine j_ishl hC dX2_allContexts_5 ?_
  refine j_iconst hC dX2_allContexts_6 ?_
  refine j_isub hC dX2_allContexts_7 ?_
  have e1 := Option.some.inj h
  exact j_iret hC hE dX2_allContexts_8 rfl (zn_i _) (by rw [← e1]) rfl rfl (by rw [← e1]; exact (inR_w _)) (Nat.le_of_ble_eq_true rfl) (Nat.le_of_ble_eq_true rfl)
set_option maxHeartbeats 4000000 in
set_option maxRecDepth 100000 in
theorem c_X2_putContext (l : Launch) (hlt : l.stackTraces = false) (g : zG) (v1 : Nat) (M : zM) (S : zS) (hF : zFx S) {M' : zM} {S' : zS} (h : F_X2_putContext v1 M S = some (M', S')) : zMet l g yX2_putContext cX2_putContext 2 none 1 0 0 [zr g 5, zr g v1] M S (.inl none) M' S' (zFx S') := by
  refine zMet_of (by decide) hlt [(0, zr g 5), (1, zr g v1)] (by simp only [lv_args, zr_cat, zc_i, zc_l, zc_d, zc_r] <;> rfl) (by rw [zsl_len]; simp only [List.map_cons, List.map_nil, zr_cat, zc_i, zc_l, zc_d, zc_r, List.sum_cons, List.sum_nil] <;> decide) (fun K hC hE hN => ?_)
  unfold F_X2_putContext at h
  refine j_aload_n hC 0 dX2_putContext_0 rfl rfl ?_
  refine j_get hC dX2_putContext_1 f_X2_35 (zFx_kd hF 5 rfl) rfl 3 rfl (fun hg1 => ?_)
  refine j_if_lt hC dX2_putContext_4 rfl (w_id hg1) (fun c2 => ?_) (fun c2 => ?_)
  · have h := zt c2 h
    obtain ⟨e1, e2⟩ := zpr2 (Option.some.inj h)
    exact j_vret hC hE dX2_putContext_39 rfl e1 e2 (by rw [← e2]; exact hF) (Nat.le_of_ble_eq_true rfl) (Nat.le_of_ble_eq_true rfl)
  · have h := zf c2 h
    refine j_aload_n hC 0 dX2_putContext_7 rfl rfl ?_
    refine j_get hC dX2_putContext_8 f_X2_35 (zFx_kd hF 5 rfl) rfl 3 rfl (fun hg3 => ?_)
    refine j_aload_n hC 0 dX2_putContext_11 rfl rfl ?_
    refine j_getq (q := 7) hC dX2_putContext_12 f_X2_15 (zFx_kd hF 5 rfl) rfl 1 rfl (zFx_rf hF 5 1 rfl) ?_
    refine j_alen (k := 25) (n := 5) hC dX2_putContext_15 (zFx_kd hF 7 rfl) (Nat.le_of_ble_eq_true rfl) (Nat.le_of_ble_eq_true rfl) (zFx_ln hF 7 rfl) (fun _ => ?_)
    refine j_icmp_ge hC dX2_putContext_16 rfl (w_id hg3) (w_id kR_5) (fun c4 => ?_) (fun c4 => ?_)
    · have h := zf c4 h
      obtain ⟨e1, e2⟩ := zpr2 (Option.some.inj h)
      exact j_vret hC hE dX2_putContext_39 rfl e1 e2 (by rw [← e2]; exact hF) (Nat.le_of_ble_eq_true rfl) (Nat.le_of_ble_eq_true rfl)
    · have h := zt c4 h
      refine j_aload_n hC 0 dX2_putContext_19 rfl rfl ?_
      refine j_getq (q := 7) hC dX2_putContext_20 f_X2_15 (zFx_kd hF 5 rfl) rfl 1 rfl (zFx_rf hF 5 1 rfl) ?_
      refine j_aload_n hC 0 dX2_putContext_23 rfl rfl ?_
      refine j_get hC dX2_putContext_24 f_X2_35 (zFx_kd hF 5 rfl) rfl 3 rfl (fun hg5 => ?_)
      refine j_aload_n hC 1 dX2_putContext_27 rfl rfl ?_
      obtain ⟨c6, h⟩ := zchk_ex h
      obtain ⟨c7, h⟩ := zchk_ex h
      obtain ⟨S8, eS8, h⟩ := zlet_ex h
      refine j_aast25 (n := 5) hC hE dX2_putContext_28 (w_id hg5) (zFx_kd hF 7 rfl) (zFx_ln hF 7 rfl) c6.1 c6.2 c7 eS8 ?_
      have hF9 : zFx S8 := zFx_aq hF eS8 rfl
      refine j_aload_n hC 0 dX2_putContext_29 rfl rfl ?_
      refine j_dup hC dX2_putContext_30 (zr_cat _ _) ?_
      refine j_get hC dX2_putContext_31 f_X2_35 (zFx_kd hF9 5 rfl) rfl 3 rfl (fun hg10 => ?_)
      refine j_iconst hC dX2_putContext_34 ?_
      refine j_iadd hC dX2_putContext_35 ?_
      obtain ⟨M11, eM11, h⟩ := zlet_ex h
      refine j_put hC dX2_putContext_36 f_X2_35 pF_X2 (zFx_kd hF9 5 rfl) (Or.inl rfl) rfl 3 rfl rfl (inR_w _) eM11 ?_
      obtain ⟨e1, e2⟩ := zpr2 (Option.some.inj h)
      exact j_vret hC hE dX2_putContext_39 rfl e1 e2 (by rw [← e2]; exact hF9) (Nat.le_of_ble_eq_true rfl) (Nat.le_of_ble_eq_true rfl)
set_option maxHeartbeats 4000000 in
set_option maxRecDepth 100000 in
theorem c_X2_dropContext (l : Launch) (hlt : l.stackTraces = false) (g : zG) (v1 : Int) (hv1 : inR v1) (M : zM) (S : zS) (hF : zFx S) {M' : zM} {S' : zS} (h : F_X2_dropContext v1 M S = some (M', S')) : zMet l g yX2_dropContext cX2_dropContext 3 none 2 0 0 [zr g 5, .int (zi v1)] M S (.inl none) M' S' (zFx S') := by
  refine zMet_of (by decide) hlt [(0, zr g 5), (1, .int (zi v1))] rfl (Nat.le_of_ble_eq_true rfl) (fun K hC hE hN => ?_)
  unfold F_X2_dropContext at h
  have J_34 : ∀ (M : zM) (S : zS) (hF : zFx S) (_ : F_X2_dropContext_J34 M S = some (M', S')), zJ K g 0 0 34 3 [(0, zr g 5)] [] M S := by
    intro M S hF h
    unfold F_X2_dropContext_J34 at h
    refine j_aload_n hC 0 dX2_dropContext_34 rfl rfl ?_
    refine j_dup hC dX2_dropContext_35 (zr_cat _ _) ?_
    refine j_get hC dX2_dropContext_36 f_X2_35 (zFx_kd hF 5 rfl) rfl 3 rfl (fun hg1 => ?_)
    refine j_iconst hC dX2_dropContext_39 ?_
    refine j_isub hC dX2_dropContext_40 ?_
    obtain ⟨M2, eM2, h⟩ := zlet_ex h
    refine j_put hC dX2_dropContext_41 f_X2_35 pF_X2 (zFx_kd hF 5 rfl) (Or.inl rfl) rfl 3 rfl rfl (inR_w _) eM2 ?_
    obtain ⟨e1, e2⟩ := zpr2 (Option.some.inj h)
    exact j_vret hC hE dX2_dropContext_44 rfl e1 e2 (by rw [← e2]; exact hF) (Nat.le_of_ble_eq_true rfl) (Nat.le_of_ble_eq_true rfl)
  have L_2 : ∀ (v2 : Int) (hv2 : inR v2) (M : zM) (S : zS) (hF : zFx S) (_ : F_X2_dropContext_L2 v2 M S = some (M', S')), zJ K g 0 0 2 3 [(0, zr g 5), (2, .int (zi v2))] [] M S := by
    intro v2 hv2 M S hF h
    unfold F_X2_dropContext_L2 at h
    obtain ⟨ex2, hl, hd2⟩ := zb1_ex h
    obtain ⟨bd2, ebd⟩ : ∃ f, f = (fun (s : Int × zS) => F_X2_dropContext_B2 s.1 M s.2) := ⟨_, rfl⟩
    rw [← ebd] at hl
    have main : ∀ (n2 : Nat) (v2 : Int) (hv2 : inR v2) (S : zS) (hF : zFx S) (_ : zloop bd2 n2 (v2, S) = some ex2), zJ K g 0 0 2 3 [(0, zr g 5), (2, .int (zi v2))] [] M S := by
      intro n2
      induction n2 with
      | zero => intro v2 hv2 S hF hl; exact zloop_0 hl
      | succ n2 ih2 =>
        intro v2 hv2 S hF hl
        obtain ⟨o, h, hT⟩ := zloop_ex hl
        have h : F_X2_dropContext_B2 v2 M S = some o := by rw [ebd] at h; exact h
        unfold F_X2_dropContext_B2 at h
        refine j_iload_n hC 1 dX2_dropContext_2 rfl rfl ?_
        refine j_if_lt hC dX2_dropContext_3 rfl (w_id hv2) (fun c3 => ?_) (fun c3 => ?_)
        · have h := zt c3 h
          obtain rfl := Option.some.inj h
          have hx2 := hd2
          rw [← show _ = ex2 from hT] at hx2
          refine j_sub [0] rfl ?_
          exact J_34 M S hF hx2
        · have h := zf c3 h
          refine j_iload_n hC 1 dX2_dropContext_6 rfl rfl ?_
          refine j_aload_n hC 0 dX2_dropContext_7 rfl rfl ?_
          refine j_getq (q := 7) hC dX2_dropContext_8 f_X2_15 (zFx_kd hF 5 rfl) rfl 1 rfl (zFx_rf hF 5 1 rfl) ?_
          refine j_alen (k := 25) (n := 5) hC dX2_dropContext_11 (zFx_kd hF 7 rfl) (Nat.le_of_ble_eq_true rfl) (Nat.le_of_ble_eq_true rfl) (zFx_ln hF 7 rfl) (fun _ => ?_)
          refine j_icmp_ge hC dX2_dropContext_12 rfl (w_id hv2) (w_id kR_5) (fun c4 => ?_) (fun c4 => ?_)
          · have h := zf c4 h
            obtain rfl := Option.some.inj h
            have hx2 := hd2
            rw [← show _ = ex2 from hT] at hx2
            refine j_sub [0] rfl ?_
            exact J_34 M S hF hx2
          · have h := zt c4 h
            refine j_aload_n hC 0 dX2_dropContext_15 rfl rfl ?_
            refine j_getq (q := 7) hC dX2_dropContext_16 f_X2_15 (zFx_kd hF 5 rfl) rfl 1 rfl (zFx_rf hF 5 1 rfl) ?_
            refine j_iload_n hC 1 dX2_dropContext_19 rfl rfl ?_
            refine j_aload_n hC 0 dX2_dropContext_20 rfl rfl ?_
            refine j_iload_n hC 1 dX2_dropContext_21 rfl rfl ?_
            refine j_iconst hC dX2_dropContext_22 ?_
            refine j_iadd hC dX2_dropContext_23 ?_
            obtain ⟨r5, hy, h⟩ := zb1_ex h
            refine j_callVr (ci := 2) hC hE lk_X2_52 dX2_dropContext_24 (c_X2_context l hlt g (w (v2 + 1)) (inR_w _) M S hF hy) [.int (zi (v2 + 1))] [.int (zi v2), zr g 7] (zFx_kd hF 5 rfl) ⟨_, rfl, by decide, rfl⟩ rfl (by simp only [zi_w, zl_wl]) rfl (zcat (Nat.le_of_ble_eq_true rfl)) (Nat.le_of_ble_eq_true rfl) (Nat.le_of_ble_eq_true rfl) (Nat.le_of_ble_eq_true rfl) (Nat.le_of_ble_eq_true rfl) (fun hp6 => ?_)
            obtain ⟨c7, h⟩ := zchk_ex h
            obtain ⟨c8, h⟩ := zchk_ex h
            obtain ⟨S9, eS9, h⟩ := zlet_ex h
            refine j_aast25 (n := 5) hC hE dX2_dropContext_27 (w_id hv2) (zFx_kd hF 7 rfl) (zFx_ln hF 7 rfl) c7.1 c7.2 c8 eS9 ?_
            have hF10 : zFx S9 := zFx_aq hF eS9 rfl
            obtain ⟨x11, ex11, h⟩ := zlet_ex h
            have hx11 : inR x11 := by rw [ex11]; exact inR_w _
            refine j_iinc hC 1 dX2_dropContext_28 rfl ex11 (Nat.le_of_ble_eq_true rfl) rfl ?_
            refine j_goto hC dX2_dropContext_31 rfl ?_
            obtain rfl := Option.some.inj h
            refine j_sub [1, 0] rfl ?_
            exact ih2 x11 hx11 S9 hF10 hT
    exact main zN v2 hv2 S hF hl
  refine j_iload_n hC 1 dX2_dropContext_0 rfl rfl ?_
  refine j_istore_n hC dX2_dropContext_1 rfl (Nat.le_of_ble_eq_true rfl) rfl ?_
  refine j_sub [1, 0] rfl ?_
  exact L_2 v1 hv1 M S hF h
set_option maxHeartbeats 4000000 in
set_option maxRecDepth 100000 in
theorem c_X4_of (l : Launch) (hlt : l.stackTraces = false) (g : zG) (v0 : Int) (v1 : Int) (v2 : Int) (v3 : Int) (hv0 : inR v0) (hv1 : inR v1) (hv2 : inR v2) (hv3 : inR v3) (M : zM) (S : zS) {r : Int} (h : F_X4_of v0 v1 v2 v3 = some r) : zMet l g yX4_of cX4_of 4 (some .int) 1 0 0 [.int (zi v0), .int (zi v1), .int (zi v2), .int (zi v3)] M S (.inl (some (.int (zi r)))) M S (inR r) := by
  refine zMet_of (by decide) hlt [(0, .int (zi v0)), (1, .int (zi v1)), (2, .int (zi v2)), (3, .int (zi v3))] rfl (Nat.le_of_ble_eq_true rfl) (fun K hC hE hN => ?_)
  unfold F_X4_of at h
  refine j_iload_n hC 0 dX4_of_0 rfl rfl ?_
  refine j_bipush hC dX4_of_1 rfl ?_
  refine j_ishl hC dX4_of_3 ?_
  refine j_iload_n hC 1 dX4_of_4 rfl rfl ?_
  refine j_bipush hC dX4_of_5 rfl ?_
  refine j_ishl hC dX4_of_7 ?_
  refine j_ior hC dX4_of_8 ?_
  refine j_iload_n hC 2 dX4_of_9 rfl rfl ?_
  refine j_iconst hC dX4_of_10 ?_
  refine j_ishl hC dX4_of_11 ?_
  refine j_ior hC dX4_of_12 ?_
  refine j_iload_n hC 3 dX4_of_13 rfl rfl ?_
  refine j_ior hC dX4_of_14 ?_
  have e1 := Option.some.inj h
  exact j_iret hC hE dX4_of_15 (w_id (cR_zor _ _)) (zn_i _) (by rw [← e1]) rfl rfl (by rw [← e1]; exact (cR_zor _ _)) (Nat.le_of_ble_eq_true rfl) (Nat.le_of_ble_eq_true rfl)
set_option maxHeartbeats 4000000 in
set_option maxRecDepth 100000 in
theorem c_X2_findInsertions (l : Launch) (hlt : l.stackTraces = false) (g : zG) (v1 : Int) (v2 : Nat) (hv1 : inR v1) (M : zM) (S : zS) (hF : zFx S) {r : Int} {M' : zM} (h : F_X2_findInsertions v1 v2 M S = some (r, M')) : zMet l g yX2_findInsertions cX2_findInsertions 9 (some .int) 7 0 0 [zr g 5, .int (zi v1), zr g v2] M S (.inl (some (.int (zi r)))) M' S (inR r) := by
  refine zMet_of (by decide) hlt [(0, zr g 5), (1, .int (zi v1)), (2, zr g v2)] (by simp only [lv_args, zr_cat, zc_i, zc_l, zc_d, zc_r] <;> rfl) (by rw [zsl_len]; simp only [List.map_cons, List.map_nil, zr_cat, zc_i, zc_l, zc_d, zc_r, List.sum_cons, List.sum_nil] <;> decide) (fun K hC hE hN => ?_)
  unfold F_X2_findInsertions at h
  have J_134 : ∀ (v4 : Int) (hv4 : inR v4) (M : zM) (_ : F_X2_findInsertions_J134 v4 M S = some (r, M')), zJ K g 0 0 134 9 [(4, .int (zi v4))] [] M S := by
    intro v4 hv4 M h
    unfold F_X2_findInsertions_J134 at h
    refine j_iload hC 0 dX2_findInsertions_134 rfl ?_
    obtain ⟨e1, e2⟩ := zpr2 (Option.some.inj h)
    exact j_iret hC hE dX2_findInsertions_136 (w_id hv4) (zn_i _) (by rw [← e1]) e2 rfl (by rw [← e1]; exact hv4) (Nat.le_of_ble_eq_true rfl) (Nat.le_of_ble_eq_true rfl)
  have L_11 : ∀ (v1 : Int) (v2 : Nat) (v3 : Int) (v4 : Int) (v5 : Int) (hv1 : inR v1) (hv3 : inR v3) (hv4 : inR v4) (hv5 : inR v5) (M : zM) (_ : F_X2_findInsertions_L11 v1 v2 v3 v4 v5 M S = some (r, M')), zJ K g 0 0 11 9 [(0, zr g 5), (1, .int (zi v1)), (2, zr g v2), (3, .int (zi v3)), (4, .int (zi v4)), (5, .int (zi v5))] [] M S := by
    intro v1 v2 v3 v4 v5 hv1 hv3 hv4 hv5 M h
    unfold F_X2_findInsertions_L11 at h
    obtain ⟨ex11, hl, hd11⟩ := zb1_ex h
    obtain ⟨bd11, ebd⟩ : ∃ f, f = (fun (s : Int × Int × zM) => F_X2_findInsertions_B11 v1 v2 v3 s.1 s.2.1 s.2.2 S) := ⟨_, rfl⟩
    rw [← ebd] at hl
    have main : ∀ (n11 : Nat) (v4 : Int) (v5 : Int) (hv4 : inR v4) (hv5 : inR v5) (M : zM) (_ : zloop bd11 n11 (v4, v5, M) = some ex11), zJ K g 0 0 11 9 [(0, zr g 5), (1, .int (zi v1)), (2, zr g v2), (3, .int (zi v3)), (4, .int (zi v4)), (5, .int (zi v5))] [] M S := by
      intro n11
      induction n11 with
      | zero => intro v4 v5 hv4 hv5 M hl; exact zloop_0 hl
      | succ n11 ih11 =>
        have J_128 : ∀ (v4 : Int) (v5 : Int) (hv4 : inR v4) (hv5 : inR v5) (M : zM) (o : _) (_ : F_X2_findInsertions_J128 v1 v2 v3 v4 v5 M S = some o), zAft (bd11) n11 ex11 o → zJ K g 0 0 128 9 [(0, zr g 5), (1, .int (zi v1)), (2, zr g v2), (3, .int (zi v3)), (4, .int (zi v4)), (5, .int (zi v5))] [] M S := by
          intro v4 v5 hv4 hv5 M o h hT
          unfold F_X2_findInsertions_J128 at h
          obtain ⟨x1, ex1, h⟩ := zlet_ex h
          have hx1 : inR x1 := by rw [ex1]; exact inR_w _
          refine j_iinc hC 5 dX2_findInsertions_128 rfl ex1 (Nat.le_of_ble_eq_true rfl) rfl ?_
          refine j_goto hC dX2_findInsertions_131 rfl ?_
          obtain rfl := Option.some.inj h
          refine j_sub [1, 2, 3, 4, 5, 0] rfl ?_
          exact ih11 v4 x1 hv4 hx1 M hT
        have L_53 : ∀ (v4 : Int) (v5 : Int) (v6 : Nat) (v7 : Int) (hv4 : inR v4) (hv5 : inR v5) (hv7 : inR v7) (M : zM) (o : _) (_ : F_X2_findInsertions_L53 v1 v2 v3 v4 v5 v6 v7 M S = some o), zAft (bd11) n11 ex11 o → zJ K g 0 0 53 9 [(0, zr g 5), (1, .int (zi v1)), (2, zr g v2), (3, .int (zi v3)), (4, .int (zi v4)), (5, .int (zi v5)), (6, zr g v6), (7, .int (zi v7))] [] M S := by
          intro v4 v5 v6 v7 hv4 hv5 hv7 M oh53 h hT53
          unfold F_X2_findInsertions_L53 at h
          obtain ⟨ex53, hl, hd53⟩ := zb1_ex h
          obtain ⟨bd53, ebd⟩ : ∃ f, f = (fun (s : Int × Int × zM) => F_X2_findInsertions_B53 v1 v2 v3 s.1 v5 v6 s.2.1 s.2.2 S) := ⟨_, rfl⟩
          rw [← ebd] at hl
          have main : ∀ (n53 : Nat) (v4 : Int) (v7 : Int) (hv4 : inR v4) (hv7 : inR v7) (M : zM) (_ : zloop bd53 n53 (v4, v7, M) = some ex53), zJ K g 0 0 53 9 [(0, zr g 5), (1, .int (zi v1)), (2, zr g v2), (3, .int (zi v3)), (4, .int (zi v4)), (5, .int (zi v5)), (6, zr g v6), (7, .int (zi v7))] [] M S := by
            intro n53
            induction n53 with
            | zero => intro v4 v7 hv4 hv7 M hl; exact zloop_0 hl
            | succ n53 ih53 =>
              have J_122 : ∀ (v4 : Int) (v7 : Int) (hv4 : inR v4) (hv7 : inR v7) (M : zM) (o : _) (_ : F_X2_findInsertions_J122 v1 v2 v3 v4 v5 v6 v7 M S = some o), zAft (bd53) n53 ex53 o → zJ K g 0 0 122 9 [(0, zr g 5), (1, .int (zi v1)), (2, zr g v2), (3, .int (zi v3)), (4, .int (zi v4)), (5, .int (zi v5)), (6, zr g v6), (7, .int (zi v7))] [] M S := by
                intro v4 v7 hv4 hv7 M o h hT
                unfold F_X2_findInsertions_J122 at h
                obtain ⟨x2, ex2, h⟩ := zlet_ex h
                have hx2 : inR x2 := by rw [ex2]; exact inR_w _
                refine j_iinc (lv1 := [(7, .int (zi x2)), (0, zr g 5), (1, .int (zi v1)), (2, zr g v2), (3, .int (zi v3)), (4, .int (zi v4)), (5, .int (zi v5)), (6, zr g v6)]) hC 7 dX2_findInsertions_122 rfl ex2 (Nat.le_of_ble_eq_true rfl) (by simp only [List.filter_cons, List.filter_nil, zr_cat, zc_i, zc_l, zc_d, zc_r] <;> first | rfl | simp [zr_cat]) ?_
                refine j_goto hC dX2_findInsertions_125 rfl ?_
                obtain rfl := Option.some.inj h
                refine j_sub [1, 2, 3, 4, 5, 6, 7, 0] rfl ?_
                exact ih53 v4 x2 hv4 hx2 M hT
              have L_63 : ∀ (v4 : Int) (v7 : Int) (v8 : Int) (hv4 : inR v4) (hv7 : inR v7) (hv8 : inR v8) (M : zM) (o : _) (_ : F_X2_findInsertions_L63 v1 v2 v3 v4 v5 v6 v7 v8 M S = some o), zAft (bd53) n53 ex53 o → zJ K g 0 0 63 9 [(0, zr g 5), (1, .int (zi v1)), (2, zr g v2), (3, .int (zi v3)), (4, .int (zi v4)), (5, .int (zi v5)), (6, zr g v6), (7, .int (zi v7)), (8, .int (zi v8))] [] M S := by
                intro v4 v7 v8 hv4 hv7 hv8 M oh63 h hT63
                unfold F_X2_findInsertions_L63 at h
                obtain ⟨ex63, hl, hd63⟩ := zb1_ex h
                obtain ⟨bd63, ebd⟩ : ∃ f, f = (fun (s : Int × Int × zM) => F_X2_findInsertions_B63 v1 v2 v3 s.1 v5 v6 v7 s.2.1 s.2.2 S) := ⟨_, rfl⟩
                rw [← ebd] at hl
                have main : ∀ (n63 : Nat) (v4 : Int) (v8 : Int) (hv4 : inR v4) (hv8 : inR v8) (M : zM) (_ : zloop bd63 n63 (v4, v8, M) = some ex63), zJ K g 0 0 63 9 [(0, zr g 5), (1, .int (zi v1)), (2, zr g v2), (3, .int (zi v3)), (4, .int (zi v4)), (5, .int (zi v5)), (6, zr g v6), (7, .int (zi v7)), (8, .int (zi v8))] [] M S := by
                  intro n63
                  induction n63 with
                  | zero => intro v4 v8 hv4 hv8 M hl; exact zloop_0 hl
                  | succ n63 ih63 =>
                    have J_116 : ∀ (v4 : Int) (v8 : Int) (hv4 : inR v4) (hv8 : inR v8) (M : zM) (o : _) (_ : F_X2_findInsertions_J116 v1 v2 v3 v4 v5 v6 v7 v8 M S = some o), zAft (bd63) n63 ex63 o → zJ K g 0 0 116 9 [(0, zr g 5), (1, .int (zi v1)), (2, zr g v2), (3, .int (zi v3)), (4, .int (zi v4)), (5, .int (zi v5)), (6, zr g v6), (7, .int (zi v7)), (8, .int (zi v8))] [] M S := by
                      intro v4 v8 hv4 hv8 M o h hT
                      unfold F_X2_findInsertions_J116 at h
                      obtain ⟨x3, ex3, h⟩ := zlet_ex h
                      have hx3 : inR x3 := by rw [ex3]; exact inR_w _
                      refine j_iinc hC 8 dX2_findInsertions_116 rfl ex3 (Nat.le_of_ble_eq_true rfl) rfl ?_
                      refine j_goto hC dX2_findInsertions_119 rfl ?_
                      obtain rfl := Option.some.inj h
                      refine j_sub [1, 2, 3, 4, 5, 6, 7, 8, 0] rfl ?_
                      exact ih63 v4 x3 hv4 hx3 M hT
                    intro v4 v8 hv4 hv8 M hl
                    obtain ⟨o, h, hT⟩ := zloop_ex hl
                    have h : F_X2_findInsertions_B63 v1 v2 v3 v4 v5 v6 v7 v8 M S = some o := by rw [ebd] at h; exact h
                    unfold F_X2_findInsertions_B63 at h
                    refine j_iload hC 8 dX2_findInsertions_63 rfl ?_
                    refine j_iload_n hC 3 dX2_findInsertions_65 rfl rfl ?_
                    refine j_icmp_gt hC dX2_findInsertions_66 rfl (w_id hv8) (w_id hv3) (fun c4 => ?_) (fun c4 => ?_)
                    · have h := zt c4 h
                      obtain rfl := Option.some.inj h
                      have hx63 := hd63
                      rw [← show _ = ex63 from hT] at hx63
                      refine j_sub [0, 1, 2, 3, 4, 5, 6, 7] rfl ?_
                      exact J_122 v4 v7 hv4 hv7 M _ hx63 hT63
                    · have h := zf c4 h
                      refine j_aload hC 6 dX2_findInsertions_69 rfl ?_
                      refine j_aload_n hC 0 dX2_findInsertions_71 rfl rfl ?_
                      refine j_get hC dX2_findInsertions_72 f_X2_19 (zFx_kd hF 5 rfl) rfl 4 rfl (fun hg5 => ?_)
                      refine j_iload_n hC 1 dX2_findInsertions_75 rfl rfl ?_
                      refine j_iload_n hC 3 dX2_findInsertions_76 rfl rfl ?_
                      refine j_iload hC 7 dX2_findInsertions_77 rfl ?_
                      refine j_iload hC 8 dX2_findInsertions_79 rfl ?_
                      obtain ⟨hk, h⟩ := zchk_ex h
                      have hk6 := hk
                      obtain ⟨r7, M8, hy, h⟩ := zb2_ex h
                      refine j_callVi (ci := 0) hC hE lk_X2_65 dX2_findInsertions_81 (c_X0_selects l hlt g v6 (M 5 4) v1 v3 v7 v8 hg5 hv1 hv3 hv7 hv8 M S hF hy) [.int (zi (M 5 4)), .int (zi v1), .int (zi v3), .int (zi v7), .int (zi v8)] [] hk6 ⟨_, rfl, by decide, rfl⟩ rfl rfl rfl (zcat (Nat.le_of_ble_eq_true rfl)) (Nat.le_of_ble_eq_true rfl) (Nat.le_of_ble_eq_true rfl) (Nat.le_of_ble_eq_true rfl) (Nat.le_of_ble_eq_true rfl) (fun hp9 => ?_)
                      have hr7 := hp9
                      refine j_if_eq hC dX2_findInsertions_84 rfl (w_id hr7) (fun c10 => ?_) (fun c10 => ?_)
                      · have h := zt c10 h
                        exact J_116 v4 v8 hv4 hv8 M8 _ h hT
                      · have h := zf c10 h
                        refine j_aload_n hC 2 dX2_findInsertions_87 rfl rfl ?_
                        refine j_iload hC 4 dX2_findInsertions_88 rfl ?_
                        refine j_aload hC 6 dX2_findInsertions_90 rfl ?_
                        refine j_iload_n hC 1 dX2_findInsertions_92 rfl rfl ?_
                        refine j_iload_n hC 3 dX2_findInsertions_93 rfl rfl ?_
                        refine j_iload hC 7 dX2_findInsertions_94 rfl ?_
                        refine j_iload hC 8 dX2_findInsertions_96 rfl ?_
                        obtain ⟨hk, h⟩ := zchk_ex h
                        have hk11 := hk
                        obtain ⟨r12, hy, h⟩ := zb1_ex h
                        refine j_callVi (ci := 0) hC hE lk_X2_69 dX2_findInsertions_98 (c_X0_putAround l hlt g v6 v1 v3 v7 v8 hv1 hv3 hv7 hv8 M8 S hF hy) [.int (zi v1), .int (zi v3), .int (zi v7), .int (zi v8)] [.int (zi v4), zr g v2] hk11 ⟨_, rfl, by decide, rfl⟩ rfl rfl rfl (zcat (Nat.le_of_ble_eq_true rfl)) (Nat.le_of_ble_eq_true rfl) (Nat.le_of_ble_eq_true rfl) (Nat.le_of_ble_eq_true rfl) (Nat.le_of_ble_eq_true rfl) (fun hp13 => ?_)
                        have hr12 := hp13
                        refine j_iload hC 5 dX2_findInsertions_101 rfl ?_
                        refine j_iload hC 7 dX2_findInsertions_103 rfl ?_
                        refine j_iload hC 8 dX2_findInsertions_105 rfl ?_
                        obtain ⟨r14, hy, h⟩ := zb1_ex h
                        refine j_callSi hC hE lk_X2_73 dX2_findInsertions_107 (c_X4_of l hlt g r12 v5 v7 v8 hr12 hv5 hv7 hv8 M8 S hy) [.int (zi r12), .int (zi v5), .int (zi v7), .int (zi v8)] [.int (zi v4), zr g v2] rfl rfl rfl (zcat (Nat.le_of_ble_eq_true rfl)) (Nat.le_of_ble_eq_true rfl) (Nat.le_of_ble_eq_true rfl) (Nat.le_of_ble_eq_true rfl) (Nat.le_of_ble_eq_true rfl) (fun hp15 => ?_)
                        have hr14 := hp15
                        obtain ⟨M16, hy, h⟩ := zb1_ex h
                        refine j_callSv hC hE lk_X2_48 dX2_findInsertions_110 (c_X6_put l hlt g v2 v4 r14 hv4 hr14 M8 S hF hy) [zr g v2, .int (zi v4), .int (zi r14)] [] rfl rfl rfl (zcat (Nat.le_of_ble_eq_true rfl)) (Nat.le_of_ble_eq_true rfl) (Nat.le_of_ble_eq_true rfl) (Nat.le_of_ble_eq_true rfl) (Nat.le_of_ble_eq_true rfl) (fun hp17 => ?_)
                        obtain ⟨x18, ex18, h⟩ := zlet_ex h
                        have hx18 : inR x18 := by rw [ex18]; exact inR_w _
                        refine j_iinc hC 4 dX2_findInsertions_113 rfl ex18 (Nat.le_of_ble_eq_true rfl) rfl ?_
                        refine j_sub [1, 2, 3, 4, 0, 5, 6, 7, 8] rfl ?_
                        exact J_116 x18 v8 hx18 hv8 M16 _ h hT
                exact main zN v4 v8 hv4 hv8 M hl
              intro v4 v7 hv4 hv7 M hl
              obtain ⟨o, h, hT⟩ := zloop_ex hl
              have h : F_X2_findInsertions_B53 v1 v2 v3 v4 v5 v6 v7 M S = some o := by rw [ebd] at h; exact h
              unfold F_X2_findInsertions_B53 at h
              refine j_iload hC 7 dX2_findInsertions_53 rfl ?_
              refine j_iload_n hC 3 dX2_findInsertions_55 rfl rfl ?_
              refine j_icmp_gt hC dX2_findInsertions_56 rfl (w_id hv7) (w_id hv3) (fun c19 => ?_) (fun c19 => ?_)
              · have h := zt c19 h
                obtain rfl := Option.some.inj h
                have hx53 := hd53
                rw [← show _ = ex53 from hT] at hx53
                refine j_sub [0, 1, 2, 3, 4, 5] rfl ?_
                exact J_128 v4 v5 hv4 hv5 M _ hx53 hT53
              · have h := zf c19 h
                refine j_iload hC 7 dX2_findInsertions_59 rfl ?_
                refine j_istore hC dX2_findInsertions_61 (Nat.le_of_ble_eq_true rfl) rfl ?_
                refine j_sub [1, 2, 3, 4, 5, 6, 7, 8, 0] rfl ?_
                exact L_63 v4 v7 v7 hv4 hv7 hv7 M _ h hT
          exact main zN v4 v7 hv4 hv7 M hl
        intro v4 v5 hv4 hv5 M hl
        obtain ⟨o, h, hT⟩ := zloop_ex hl
        have h : F_X2_findInsertions_B11 v1 v2 v3 v4 v5 M S = some o := by rw [ebd] at h; exact h
        unfold F_X2_findInsertions_B11 at h
        refine j_iload hC 5 dX2_findInsertions_11 rfl ?_
        refine j_aload_n hC 0 dX2_findInsertions_13 rfl rfl ?_
        refine j_get hC dX2_findInsertions_14 f_X2_35 (zFx_kd hF 5 rfl) rfl 3 rfl (fun hg20 => ?_)
        refine j_icmp_ge hC dX2_findInsertions_17 rfl (w_id hv5) (w_id hg20) (fun c21 => ?_) (fun c21 => ?_)
        · have h := zf c21 h
          obtain rfl := Option.some.inj h
          have hx11 := hd11
          rw [← show _ = ex11 from hT] at hx11
          refine j_sub [4] rfl ?_
          exact J_134 v4 hv4 M hx11
        · have h := zt c21 h
          refine j_aload_n hC 0 dX2_findInsertions_20 rfl rfl ?_
          refine j_iload hC 5 dX2_findInsertions_21 rfl ?_
          obtain ⟨r22, hy, h⟩ := zb1_ex h
          refine j_callVr (ci := 2) hC hE lk_X2_52 dX2_findInsertions_23 (c_X2_context l hlt g v5 hv5 M S hF hy) [.int (zi v5)] [] (zFx_kd hF 5 rfl) ⟨_, rfl, by decide, rfl⟩ rfl rfl rfl (zcat (Nat.le_of_ble_eq_true rfl)) (Nat.le_of_ble_eq_true rfl) (Nat.le_of_ble_eq_true rfl) (Nat.le_of_ble_eq_true rfl) (Nat.le_of_ble_eq_true rfl) (fun hp23 => ?_)
          refine j_astore hC dX2_findInsertions_26 (Nat.le_of_ble_eq_true rfl) rfl ?_
          refine j_aload hC 0 dX2_findInsertions_28 rfl ?_
          refine j_ifnull hC dX2_findInsertions_30 rfl (fun c24 => ?_) (fun c24 => ?_)
          · have h := zt c24 h
            refine j_sub [1, 2, 3, 4, 5, 6] rfl ?_
            exact J_128 v4 v5 hv4 hv5 M _ h hT
          · have h := zf c24 h
            refine j_iload_n hC 4 dX2_findInsertions_33 rfl rfl ?_
            refine j_aload hC 0 dX2_findInsertions_34 rfl ?_
            obtain ⟨hk, h⟩ := zchk_ex h
            have hk25 := hk
            obtain ⟨r26, hy, h⟩ := zb1_ex h
            refine j_callVi (ci := 0) hC hE lk_X2_61 dX2_findInsertions_36 (c_X0_growth l hlt g r22 M S hF hy) [] [.int (zi v3)] hk25 ⟨_, rfl, by decide, rfl⟩ rfl rfl rfl (zcat (Nat.le_of_ble_eq_true rfl)) (Nat.le_of_ble_eq_true rfl) (Nat.le_of_ble_eq_true rfl) (Nat.le_of_ble_eq_true rfl) (Nat.le_of_ble_eq_true rfl) (fun hp27 => ?_)
            have hr26 := hp27
            refine j_iadd hC dX2_findInsertions_39 ?_
            refine j_aload_n hC 1 dX2_findInsertions_40 rfl rfl ?_
            refine j_get hC dX2_findInsertions_41 f_X2_23 (zFx_kd hF 5 rfl) rfl 5 rfl (fun hg28 => ?_)
            refine j_icmp_le hC dX2_findInsertions_44 rfl rfl (w_id hg28) (fun c29 => ?_) (fun c29 => ?_)
            · have h := zf c29 h
              refine j_iconst hC dX2_findInsertions_50 ?_
              refine j_istore (lv1 := [(7, .int (zi 0)), (6, zr g r22), (0, zr g 5), (1, .int (zi v1)), (2, zr g v2), (3, .int (zi v3)), (4, .int (zi v4)), (5, .int (zi v5))]) hC dX2_findInsertions_51 (Nat.le_of_ble_eq_true rfl) (by simp only [List.filter_cons, List.filter_nil, zr_cat, zc_i, zc_l, zc_d, zc_r] <;> first | rfl | simp [zr_cat]) ?_
              refine j_sub [2, 3, 4, 5, 6, 7, 1, 0] rfl ?_
              exact L_53 v4 v5 r22 0 hv4 hv5 kR_0 M _ h hT
            · have h := zt c29 h
              refine j_goto hC dX2_findInsertions_47 rfl ?_
              refine j_sub [1, 2, 3, 4, 5, 6] rfl ?_
              exact J_128 v4 v5 hv4 hv5 M _ h hT
    exact main zN v4 v5 hv4 hv5 M hl
  refine j_iload_n hC 1 dX2_findInsertions_0 rfl rfl ?_
  obtain ⟨r30, hy, h⟩ := zb1_ex h
  refine j_callSi hC hE lk_X2_56 dX2_findInsertions_1 (c_X9_length l hlt g v1 hv1 M S hy) [.int (zi v1)] [] rfl rfl rfl (zcat (Nat.le_of_ble_eq_true rfl)) (Nat.le_of_ble_eq_true rfl) (Nat.le_of_ble_eq_true rfl) (Nat.le_of_ble_eq_true rfl) (Nat.le_of_ble_eq_true rfl) (fun hp31 => ?_)
  have hr30 := hp31
  refine j_istore_n (lv1 := [(3, .int (zi r30)), (0, zr g 5), (1, .int (zi v1)), (2, zr g v2)]) hC dX2_findInsertions_4 rfl (Nat.le_of_ble_eq_true rfl) (by simp only [List.filter_cons, List.filter_nil, zr_cat, zc_i, zc_l, zc_d, zc_r] <;> first | rfl | simp [zr_cat]) ?_
  refine j_iconst hC dX2_findInsertions_5 ?_
  refine j_istore hC dX2_findInsertions_6 (Nat.le_of_ble_eq_true rfl) rfl ?_
  refine j_iconst hC dX2_findInsertions_8 ?_
  refine j_istore hC dX2_findInsertions_9 (Nat.le_of_ble_eq_true rfl) rfl ?_
  refine j_sub [3, 4, 5, 2, 1, 0] rfl ?_
  exact L_11 v1 v2 r30 0 0 hv1 hr30 kR_0 kR_0 M h
set_option maxHeartbeats 4000000 in
set_option maxRecDepth 100000 in
theorem c_X2_findReductions (l : Launch) (hlt : l.stackTraces = false) (g : zG) (v1 : Int) (v2 : Nat) (hv1 : inR v1) (M : zM) (S : zS) (hF : zFx S) {r : Int} {M' : zM} (h : F_X2_findReductions v1 v2 M S = some (r, M')) : zMet l g yX2_findReductions cX2_findReductions 11 (some .int) 7 0 0 [zr g 5, .int (zi v1), zr g v2] M S (.inl (some (.int (zi r)))) M' S (inR r) := by
  refine zMet_of (by decide) hlt [(0, zr g 5), (1, .int (zi v1)), (2, zr g v2)] (by simp only [lv_args, zr_cat, zc_i, zc_l, zc_d, zc_r] <;> rfl) (by rw [zsl_len]; simp only [List.map_cons, List.map_nil, zr_cat, zc_i, zc_l, zc_d, zc_r, List.sum_cons, List.sum_nil] <;> decide) (fun K hC hE hN => ?_)
  unfold F_X2_findReductions at h
  have J_165 : ∀ (v4 : Int) (hv4 : inR v4) (M : zM) (_ : F_X2_findReductions_J165 v4 M S = some (r, M')), zJ K g 0 0 165 11 [(4, .int (zi v4))] [] M S := by
    intro v4 hv4 M h
    unfold F_X2_findReductions_J165 at h
    refine j_iload hC 0 dX2_findReductions_165 rfl ?_
    obtain ⟨e1, e2⟩ := zpr2 (Option.some.inj h)
    exact j_iret hC hE dX2_findReductions_167 (w_id hv4) (zn_i _) (by rw [← e1]) e2 rfl (by rw [← e1]; exact hv4) (Nat.le_of_ble_eq_true rfl) (Nat.le_of_ble_eq_true rfl)
  have L_11 : ∀ (v1 : Int) (v2 : Nat) (v3 : Int) (v4 : Int) (v5 : Int) (hv1 : inR v1) (hv3 : inR v3) (hv4 : inR v4) (hv5 : inR v5) (M : zM) (_ : F_X2_findReductions_L11 v1 v2 v3 v4 v5 M S = some (r, M')), zJ K g 0 0 11 11 [(0, zr g 5), (1, .int (zi v1)), (2, zr g v2), (3, .int (zi v3)), (4, .int (zi v4)), (5, .int (zi v5))] [] M S := by
    intro v1 v2 v3 v4 v5 hv1 hv3 hv4 hv5 M h
    unfold F_X2_findReductions_L11 at h
    obtain ⟨ex11, hl, hd11⟩ := zb1_ex h
    obtain ⟨bd11, ebd⟩ : ∃ f, f = (fun (s : Int × Int × zM) => F_X2_findReductions_B11 v1 v2 v3 s.1 s.2.1 s.2.2 S) := ⟨_, rfl⟩
    rw [← ebd] at hl
    have main : ∀ (n11 : Nat) (v4 : Int) (v5 : Int) (hv4 : inR v4) (hv5 : inR v5) (M : zM) (_ : zloop bd11 n11 (v4, v5, M) = some ex11), zJ K g 0 0 11 11 [(0, zr g 5), (1, .int (zi v1)), (2, zr g v2), (3, .int (zi v3)), (4, .int (zi v4)), (5, .int (zi v5))] [] M S := by
      intro n11
      induction n11 with
      | zero => intro v4 v5 hv4 hv5 M hl; exact zloop_0 hl
      | succ n11 ih11 =>
        have J_159 : ∀ (v4 : Int) (v5 : Int) (hv4 : inR v4) (hv5 : inR v5) (M : zM) (o : _) (_ : F_X2_findReductions_J159 v1 v2 v3 v4 v5 M S = some o), zAft (bd11) n11 ex11 o → zJ K g 0 0 159 11 [(0, zr g 5), (1, .int (zi v1)), (2, zr g v2), (3, .int (zi v3)), (4, .int (zi v4)), (5, .int (zi v5))] [] M S := by
          intro v4 v5 hv4 hv5 M o h hT
          unfold F_X2_findReductions_J159 at h
          obtain ⟨x1, ex1, h⟩ := zlet_ex h
          have hx1 : inR x1 := by rw [ex1]; exact inR_w _
          refine j_iinc hC 5 dX2_findReductions_159 rfl ex1 (Nat.le_of_ble_eq_true rfl) rfl ?_
          refine j_goto hC dX2_findReductions_162 rfl ?_
          obtain rfl := Option.some.inj h
          refine j_sub [1, 2, 3, 4, 5, 0] rfl ?_
          exact ih11 v4 x1 hv4 hx1 M hT
        have L_56 : ∀ (v4 : Int) (v5 : Int) (v6 : Nat) (v7 : Int) (v8 : Int) (hv4 : inR v4) (hv5 : inR v5) (hv7 : inR v7) (hv8 : inR v8) (M : zM) (o : _) (_ : F_X2_findReductions_L56 v1 v2 v3 v4 v5 v6 v7 v8 M S = some o), zAft (bd11) n11 ex11 o → zJ K g 0 0 56 11 [(0, zr g 5), (1, .int (zi v1)), (2, zr g v2), (3, .int (zi v3)), (4, .int (zi v4)), (5, .int (zi v5)), (6, zr g v6), (7, .int (zi v7)), (8, .int (zi v8))] [] M S := by
          intro v4 v5 v6 v7 v8 hv4 hv5 hv7 hv8 M oh56 h hT56
          unfold F_X2_findReductions_L56 at h
          obtain ⟨ex56, hl, hd56⟩ := zb1_ex h
          obtain ⟨bd56, ebd⟩ : ∃ f, f = (fun (s : Int × Int × zM) => F_X2_findReductions_B56 v1 v2 v3 s.1 v5 v6 v7 s.2.1 s.2.2 S) := ⟨_, rfl⟩
          rw [← ebd] at hl
          have main : ∀ (n56 : Nat) (v4 : Int) (v8 : Int) (hv4 : inR v4) (hv8 : inR v8) (M : zM) (_ : zloop bd56 n56 (v4, v8, M) = some ex56), zJ K g 0 0 56 11 [(0, zr g 5), (1, .int (zi v1)), (2, zr g v2), (3, .int (zi v3)), (4, .int (zi v4)), (5, .int (zi v5)), (6, zr g v6), (7, .int (zi v7)), (8, .int (zi v8))] [] M S := by
            intro n56
            induction n56 with
            | zero => intro v4 v8 hv4 hv8 M hl; exact zloop_0 hl
            | succ n56 ih56 =>
              have J_153 : ∀ (v4 : Int) (v8 : Int) (hv4 : inR v4) (hv8 : inR v8) (M : zM) (o : _) (_ : F_X2_findReductions_J153 v1 v2 v3 v4 v5 v6 v7 v8 M S = some o), zAft (bd56) n56 ex56 o → zJ K g 0 0 153 11 [(0, zr g 5), (1, .int (zi v1)), (2, zr g v2), (3, .int (zi v3)), (4, .int (zi v4)), (5, .int (zi v5)), (6, zr g v6), (7, .int (zi v7)), (8, .int (zi v8))] [] M S := by
                intro v4 v8 hv4 hv8 M o h hT
                unfold F_X2_findReductions_J153 at h
                obtain ⟨x2, ex2, h⟩ := zlet_ex h
                have hx2 : inR x2 := by rw [ex2]; exact inR_w _
                refine j_iinc hC 8 dX2_findReductions_153 rfl ex2 (Nat.le_of_ble_eq_true rfl) rfl ?_
                refine j_goto hC dX2_findReductions_156 rfl ?_
                obtain rfl := Option.some.inj h
                refine j_sub [1, 2, 3, 4, 5, 6, 7, 8, 0] rfl ?_
                exact ih56 v4 x2 hv4 hx2 M hT
              have L_82 : ∀ (v4 : Int) (v8 : Int) (v9 : Int) (hv4 : inR v4) (hv8 : inR v8) (hv9 : inR v9) (M : zM) (o : _) (_ : F_X2_findReductions_L82 v1 v2 v3 v4 v5 v6 v7 v8 v9 M S = some o), zAft (bd56) n56 ex56 o → zJ K g 0 0 82 11 [(0, zr g 5), (1, .int (zi v1)), (2, zr g v2), (3, .int (zi v3)), (4, .int (zi v4)), (5, .int (zi v5)), (6, zr g v6), (7, .int (zi v7)), (8, .int (zi v8)), (9, .int (zi v9))] [] M S := by
                intro v4 v8 v9 hv4 hv8 hv9 M oh82 h hT82
                unfold F_X2_findReductions_L82 at h
                obtain ⟨ex82, hl, hd82⟩ := zb1_ex h
                obtain ⟨bd82, ebd⟩ : ∃ f, f = (fun (s : Int × Int × zM) => F_X2_findReductions_B82 v1 v2 v3 s.1 v5 v6 v7 v8 s.2.1 s.2.2 S) := ⟨_, rfl⟩
                rw [← ebd] at hl
                have main : ∀ (n82 : Nat) (v4 : Int) (v9 : Int) (hv4 : inR v4) (hv9 : inR v9) (M : zM) (_ : zloop bd82 n82 (v4, v9, M) = some ex82), zJ K g 0 0 82 11 [(0, zr g 5), (1, .int (zi v1)), (2, zr g v2), (3, .int (zi v3)), (4, .int (zi v4)), (5, .int (zi v5)), (6, zr g v6), (7, .int (zi v7)), (8, .int (zi v8)), (9, .int (zi v9))] [] M S := by
                  intro n82
                  induction n82 with
                  | zero => intro v4 v9 hv4 hv9 M hl; exact zloop_0 hl
                  | succ n82 ih82 =>
                    have J_147 : ∀ (v4 : Int) (v9 : Int) (hv4 : inR v4) (hv9 : inR v9) (M : zM) (o : _) (_ : F_X2_findReductions_J147 v1 v2 v3 v4 v5 v6 v7 v8 v9 M S = some o), zAft (bd82) n82 ex82 o → zJ K g 0 0 147 11 [(0, zr g 5), (1, .int (zi v1)), (2, zr g v2), (3, .int (zi v3)), (4, .int (zi v4)), (5, .int (zi v5)), (6, zr g v6), (7, .int (zi v7)), (8, .int (zi v8)), (9, .int (zi v9))] [] M S := by
                      intro v4 v9 hv4 hv9 M o h hT
                      unfold F_X2_findReductions_J147 at h
                      obtain ⟨x3, ex3, h⟩ := zlet_ex h
                      have hx3 : inR x3 := by rw [ex3]; exact inR_w _
                      refine j_iinc hC 9 dX2_findReductions_147 rfl ex3 (Nat.le_of_ble_eq_true rfl) rfl ?_
                      refine j_goto hC dX2_findReductions_150 rfl ?_
                      obtain rfl := Option.some.inj h
                      refine j_sub [1, 2, 3, 4, 5, 6, 7, 8, 9, 0] rfl ?_
                      exact ih82 v4 x3 hv4 hx3 M hT
                    intro v4 v9 hv4 hv9 M hl
                    obtain ⟨o, h, hT⟩ := zloop_ex hl
                    have h : F_X2_findReductions_B82 v1 v2 v3 v4 v5 v6 v7 v8 v9 M S = some o := by rw [ebd] at h; exact h
                    unfold F_X2_findReductions_B82 at h
                    refine j_iload hC 9 dX2_findReductions_82 rfl ?_
                    refine j_iload hC 7 dX2_findReductions_84 rfl ?_
                    refine j_icmp_gt hC dX2_findReductions_86 rfl (w_id hv9) (w_id hv7) (fun c4 => ?_) (fun c4 => ?_)
                    · have h := zt c4 h
                      obtain rfl := Option.some.inj h
                      have hx82 := hd82
                      rw [← show _ = ex82 from hT] at hx82
                      refine j_sub [0, 1, 2, 3, 4, 5, 6, 7, 8] rfl ?_
                      exact J_153 v4 v8 hv4 hv8 M _ hx82 hT82
                    · have h := zf c4 h
                      refine j_aload hC 6 dX2_findReductions_89 rfl ?_
                      refine j_iload_n hC 1 dX2_findReductions_91 rfl rfl ?_
                      refine j_iload_n hC 3 dX2_findReductions_92 rfl rfl ?_
                      refine j_iload hC 8 dX2_findReductions_93 rfl ?_
                      refine j_iload hC 9 dX2_findReductions_95 rfl ?_
                      obtain ⟨hk, h⟩ := zchk_ex h
                      have hk5 := hk
                      obtain ⟨r6, hy, h⟩ := zb1_ex h
                      refine j_callVi (ci := 0) hC hE lk_X2_82 dX2_findReductions_97 (c_X0_takeAway l hlt g v6 v1 v3 v8 v9 hv1 hv3 hv8 hv9 M S hF hy) [.int (zi v1), .int (zi v3), .int (zi v8), .int (zi v9)] [] hk5 ⟨_, rfl, by decide, rfl⟩ rfl rfl rfl (zcat (Nat.le_of_ble_eq_true rfl)) (Nat.le_of_ble_eq_true rfl) (Nat.le_of_ble_eq_true rfl) (Nat.le_of_ble_eq_true rfl) (Nat.le_of_ble_eq_true rfl) (fun hp7 => ?_)
                      have hr6 := hp7
                      refine j_istore hC dX2_findReductions_100 (Nat.le_of_ble_eq_true rfl) rfl ?_
                      refine j_iload hC 0 dX2_findReductions_102 rfl ?_
                      refine j_if_lt hC dX2_findReductions_104 rfl (w_id hr6) (fun c8 => ?_) (fun c8 => ?_)
                      · have h := zt c8 h
                        refine j_sub [1, 2, 3, 4, 5, 6, 7, 8, 9, 10] rfl ?_
                        exact J_147 v4 v9 hv4 hv9 M _ h hT
                      · have h := zf c8 h
                        refine j_aload hC 7 dX2_findReductions_107 rfl ?_
                        refine j_aload_n hC 1 dX2_findReductions_109 rfl rfl ?_
                        refine j_get hC dX2_findReductions_110 f_X2_19 (zFx_kd hF 5 rfl) rfl 4 rfl (fun hg9 => ?_)
                        refine j_iload hC 0 dX2_findReductions_113 rfl ?_
                        refine j_iload hC 8 dX2_findReductions_115 rfl ?_
                        refine j_iload hC 9 dX2_findReductions_117 rfl ?_
                        refine j_iload hC 10 dX2_findReductions_119 rfl ?_
                        obtain ⟨hk, h⟩ := zchk_ex h
                        have hk10 := hk
                        obtain ⟨r11, M12, hy, h⟩ := zb2_ex h
                        refine j_callVi (ci := 0) hC hE lk_X2_65 dX2_findReductions_121 (c_X0_selects l hlt g v6 (M 5 4) r6 v7 v8 v9 hg9 hr6 hv7 hv8 hv9 M S hF hy) [.int (zi (M 5 4)), .int (zi r6), .int (zi v7), .int (zi v8), .int (zi v9)] [] hk10 ⟨_, rfl, by decide, rfl⟩ rfl rfl rfl (zcat (Nat.le_of_ble_eq_true rfl)) (Nat.le_of_ble_eq_true rfl) (Nat.le_of_ble_eq_true rfl) (Nat.le_of_ble_eq_true rfl) (Nat.le_of_ble_eq_true rfl) (fun hp13 => ?_)
                        have hr11 := hp13
                        refine j_if_eq hC dX2_findReductions_124 rfl (w_id hr11) (fun c14 => ?_) (fun c14 => ?_)
                        · have h := zt c14 h
                          refine j_sub [1, 2, 3, 4, 5, 6, 7, 8, 9, 10] rfl ?_
                          exact J_147 v4 v9 hv4 hv9 M12 _ h hT
                        · have h := zf c14 h
                          refine j_aload_n hC 3 dX2_findReductions_127 rfl rfl ?_
                          refine j_iload hC 5 dX2_findReductions_128 rfl ?_
                          refine j_iload hC 0 dX2_findReductions_130 rfl ?_
                          refine j_iload hC 6 dX2_findReductions_132 rfl ?_
                          refine j_iload hC 9 dX2_findReductions_134 rfl ?_
                          refine j_iload hC 10 dX2_findReductions_136 rfl ?_
                          obtain ⟨r15, hy, h⟩ := zb1_ex h
                          refine j_callSi hC hE lk_X2_73 dX2_findReductions_138 (c_X4_of l hlt g r6 v5 v8 v9 hr6 hv5 hv8 hv9 M12 S hy) [.int (zi r6), .int (zi v5), .int (zi v8), .int (zi v9)] [.int (zi v4), zr g v2] rfl rfl rfl (zcat (Nat.le_of_ble_eq_true rfl)) (Nat.le_of_ble_eq_true rfl) (Nat.le_of_ble_eq_true rfl) (Nat.le_of_ble_eq_true rfl) (Nat.le_of_ble_eq_true rfl) (fun hp16 => ?_)
                          have hr15 := hp16
                          obtain ⟨M17, hy, h⟩ := zb1_ex h
                          refine j_callSv hC hE lk_X2_48 dX2_findReductions_141 (c_X6_put l hlt g v2 v4 r15 hv4 hr15 M12 S hF hy) [zr g v2, .int (zi v4), .int (zi r15)] [] rfl rfl rfl (zcat (Nat.le_of_ble_eq_true rfl)) (Nat.le_of_ble_eq_true rfl) (Nat.le_of_ble_eq_true rfl) (Nat.le_of_ble_eq_true rfl) (Nat.le_of_ble_eq_true rfl) (fun hp18 => ?_)
                          obtain ⟨x19, ex19, h⟩ := zlet_ex h
                          have hx19 : inR x19 := by rw [ex19]; exact inR_w _
                          refine j_iinc hC 5 dX2_findReductions_144 rfl ex19 (Nat.le_of_ble_eq_true rfl) rfl ?_
                          refine j_sub [2, 3, 4, 5, 0, 6, 7, 8, 9, 10] rfl ?_
                          exact J_147 x19 v9 hx19 hv9 M17 _ h hT
                exact main zN v4 v9 hv4 hv9 M hl
              intro v4 v8 hv4 hv8 M hl
              obtain ⟨o, h, hT⟩ := zloop_ex hl
              have h : F_X2_findReductions_B56 v1 v2 v3 v4 v5 v6 v7 v8 M S = some o := by rw [ebd] at h; exact h
              unfold F_X2_findReductions_B56 at h
              refine j_iload hC 8 dX2_findReductions_56 rfl ?_
              refine j_iload hC 7 dX2_findReductions_58 rfl ?_
              refine j_icmp_gt hC dX2_findReductions_60 rfl (w_id hv8) (w_id hv7) (fun c20 => ?_) (fun c20 => ?_)
              · have h := zt c20 h
                obtain rfl := Option.some.inj h
                have hx56 := hd56
                rw [← show _ = ex56 from hT] at hx56
                refine j_sub [0, 1, 2, 3, 4, 5] rfl ?_
                exact J_159 v4 v5 hv4 hv5 M _ hx56 hT56
              · have h := zf c20 h
                refine j_aload hC 6 dX2_findReductions_63 rfl ?_
                refine j_iload_n hC 1 dX2_findReductions_65 rfl rfl ?_
                refine j_iload_n hC 3 dX2_findReductions_66 rfl rfl ?_
                refine j_iload hC 8 dX2_findReductions_67 rfl ?_
                obtain ⟨hk, h⟩ := zchk_ex h
                have hk21 := hk
                obtain ⟨r22, hy, h⟩ := zb1_ex h
                refine j_callVi (ci := 0) hC hE lk_X2_78 dX2_findReductions_69 (c_X0_leftStandsAt l hlt g v6 v1 v3 v8 hv1 hv3 hv8 M S hF hy) [.int (zi v1), .int (zi v3), .int (zi v8)] [] hk21 ⟨_, rfl, by decide, rfl⟩ rfl rfl rfl (zcat (Nat.le_of_ble_eq_true rfl)) (Nat.le_of_ble_eq_true rfl) (Nat.le_of_ble_eq_true rfl) (Nat.le_of_ble_eq_true rfl) (Nat.le_of_ble_eq_true rfl) (fun hp23 => ?_)
                have hr22 := hp23
                refine j_if_ne hC dX2_findReductions_72 rfl (w_id hr22) (fun c24 => ?_) (fun c24 => ?_)
                · have h := zf c24 h
                  refine j_iload hC 8 dX2_findReductions_78 rfl ?_
                  refine j_istore hC dX2_findReductions_80 (Nat.le_of_ble_eq_true rfl) rfl ?_
                  refine j_sub [1, 2, 3, 4, 5, 6, 7, 8, 9, 0] rfl ?_
                  exact L_82 v4 v8 v8 hv4 hv8 hv8 M _ h hT
                · have h := zt c24 h
                  refine j_goto hC dX2_findReductions_75 rfl ?_
                  exact J_153 v4 v8 hv4 hv8 M _ h hT
          exact main zN v4 v8 hv4 hv8 M hl
        intro v4 v5 hv4 hv5 M hl
        obtain ⟨o, h, hT⟩ := zloop_ex hl
        have h : F_X2_findReductions_B11 v1 v2 v3 v4 v5 M S = some o := by rw [ebd] at h; exact h
        unfold F_X2_findReductions_B11 at h
        refine j_iload hC 5 dX2_findReductions_11 rfl ?_
        refine j_aload_n hC 0 dX2_findReductions_13 rfl rfl ?_
        refine j_get hC dX2_findReductions_14 f_X2_35 (zFx_kd hF 5 rfl) rfl 3 rfl (fun hg25 => ?_)
        refine j_icmp_ge hC dX2_findReductions_17 rfl (w_id hv5) (w_id hg25) (fun c26 => ?_) (fun c26 => ?_)
        · have h := zf c26 h
          obtain rfl := Option.some.inj h
          have hx11 := hd11
          rw [← show _ = ex11 from hT] at hx11
          refine j_sub [4] rfl ?_
          exact J_165 v4 hv4 M hx11
        · have h := zt c26 h
          refine j_iload_n hC 3 dX2_findReductions_20 rfl rfl ?_
          refine j_aload_n hC 0 dX2_findReductions_21 rfl rfl ?_
          refine j_get hC dX2_findReductions_22 f_X2_23 (zFx_kd hF 5 rfl) rfl 5 rfl (fun hg27 => ?_)
          refine j_icmp_gt hC dX2_findReductions_25 rfl (w_id hv3) (w_id hg27) (fun c28 => ?_) (fun c28 => ?_)
          · have h := zt c28 h
            obtain rfl := Option.some.inj h
            have hx11 := hd11
            rw [← show _ = ex11 from hT] at hx11
            refine j_sub [4] rfl ?_
            exact J_165 v4 hv4 M hx11
          · have h := zf c28 h
            refine j_aload_n hC 0 dX2_findReductions_28 rfl rfl ?_
            refine j_iload hC 5 dX2_findReductions_29 rfl ?_
            obtain ⟨r29, hy, h⟩ := zb1_ex h
            refine j_callVr (ci := 2) hC hE lk_X2_52 dX2_findReductions_31 (c_X2_context l hlt g v5 hv5 M S hF hy) [.int (zi v5)] [] (zFx_kd hF 5 rfl) ⟨_, rfl, by decide, rfl⟩ rfl rfl rfl (zcat (Nat.le_of_ble_eq_true rfl)) (Nat.le_of_ble_eq_true rfl) (Nat.le_of_ble_eq_true rfl) (Nat.le_of_ble_eq_true rfl) (Nat.le_of_ble_eq_true rfl) (fun hp30 => ?_)
            refine j_astore hC dX2_findReductions_34 (Nat.le_of_ble_eq_true rfl) rfl ?_
            refine j_aload hC 0 dX2_findReductions_36 rfl ?_
            refine j_ifnonnull hC dX2_findReductions_38 rfl (fun c31 => ?_) (fun c31 => ?_)
            · have h := zf c31 h
              refine j_iload_n hC 4 dX2_findReductions_44 rfl rfl ?_
              refine j_aload hC 0 dX2_findReductions_45 rfl ?_
              obtain ⟨hk, h⟩ := zchk_ex h
              have hk32 := hk
              obtain ⟨r33, hy, h⟩ := zb1_ex h
              refine j_callVi (ci := 0) hC hE lk_X2_61 dX2_findReductions_47 (c_X0_growth l hlt g r29 M S hF hy) [] [.int (zi v3)] hk32 ⟨_, rfl, by decide, rfl⟩ rfl rfl rfl (zcat (Nat.le_of_ble_eq_true rfl)) (Nat.le_of_ble_eq_true rfl) (Nat.le_of_ble_eq_true rfl) (Nat.le_of_ble_eq_true rfl) (Nat.le_of_ble_eq_true rfl) (fun hp34 => ?_)
              have hr33 := hp34
              refine j_isub hC dX2_findReductions_50 ?_
              obtain ⟨x35, ex35, h⟩ := zlet_ex h
              have hx35 : inR x35 := by rw [ex35]; exact inR_w _
              refine j_namei ex35 ?_
              refine j_istore (lv1 := [(7, .int (zi x35)), (6, zr g r29), (0, zr g 5), (1, .int (zi v1)), (2, zr g v2), (3, .int (zi v3)), (4, .int (zi v4)), (5, .int (zi v5))]) hC dX2_findReductions_51 (Nat.le_of_ble_eq_true rfl) (by simp only [List.filter_cons, List.filter_nil, zr_cat, zc_i, zc_l, zc_d, zc_r] <;> first | rfl | simp [zr_cat]) ?_
              refine j_iconst hC dX2_findReductions_53 ?_
              refine j_istore hC dX2_findReductions_54 (Nat.le_of_ble_eq_true rfl) rfl ?_
              refine j_sub [3, 4, 5, 6, 7, 8, 2, 1, 0] rfl ?_
              exact L_56 v4 v5 r29 x35 0 hv4 hv5 hx35 kR_0 M _ h hT
            · have h := zt c31 h
              refine j_goto hC dX2_findReductions_41 rfl ?_
              refine j_sub [1, 2, 3, 4, 5, 6] rfl ?_
              exact J_159 v4 v5 hv4 hv5 M _ h hT
    exact main zN v4 v5 hv4 hv5 M hl
  refine j_iload_n hC 1 dX2_findReductions_0 rfl rfl ?_
  obtain ⟨r36, hy, h⟩ := zb1_ex h
  refine j_callSi hC hE lk_X2_56 dX2_findReductions_1 (c_X9_length l hlt g v1 hv1 M S hy) [.int (zi v1)] [] rfl rfl rfl (zcat (Nat.le_of_ble_eq_true rfl)) (Nat.le_of_ble_eq_true rfl) (Nat.le_of_ble_eq_true rfl) (Nat.le_of_ble_eq_true rfl) (Nat.le_of_ble_eq_true rfl) (fun hp37 => ?_)
  have hr36 := hp37
  refine j_istore_n (lv1 := [(3, .int (zi r36)), (0, zr g 5), (1, .int (zi v1)), (2, zr g v2)]) hC dX2_findReductions_4 rfl (Nat.le_of_ble_eq_true rfl) (by simp only [List.filter_cons, List.filter_nil, zr_cat, zc_i, zc_l, zc_d, zc_r] <;> first | rfl | simp [zr_cat]) ?_
  refine j_iconst hC dX2_findReductions_5 ?_
  refine j_istore hC dX2_findReductions_6 (Nat.le_of_ble_eq_true rfl) rfl ?_
  refine j_iconst hC dX2_findReductions_8 ?_
  refine j_istore hC dX2_findReductions_9 (Nat.le_of_ble_eq_true rfl) rfl ?_
  refine j_sub [3, 4, 5, 2, 1, 0] rfl ?_
  exact L_11 v1 v2 r36 0 0 hv1 hr36 kR_0 kR_0 M h
set_option maxHeartbeats 4000000 in
set_option maxRecDepth 100000 in
theorem c_X3_init (l : Launch) (hlt : l.stackTraces = false) (g : zG) (v0 : Nat) (M : zM) (S : zS) {S' : zS} (h : F_X3_init v0 S = some S') : zMet l g yX3_init cX3_init 1 none 3 13 99955 [zr g v0] M S (.inl none) M S' (True) := by
  refine zMet_of (by decide) hlt [(0, zr g v0)] (by simp only [lv_args, zr_cat, zc_i, zc_l, zc_d, zc_r] <;> rfl) (by rw [zsl_len]; simp only [List.map_cons, List.map_nil, zr_cat, zc_i, zc_l, zc_d, zc_r, List.sum_cons, List.sum_nil] <;> decide) (fun K hC hE hN => ?_)
  unfold F_X3_init at h
  refine j_aload_n hC 0 dX3_init_0 rfl rfl ?_
  obtain ⟨c1, h⟩ := zchk_ex h
  refine j_objI hC hE dX3_init_1 k161 k79 k80 c1 (Nat.le_of_ble_eq_true rfl) (Nat.le_of_ble_eq_true rfl) ?_
  refine j_aload_n hC 0 dX3_init_4 rfl rfl ?_
  refine j_sipush hC dX3_init_5 rfl ?_
  obtain ⟨q2, eq2, h⟩ := zlet_ex h
  obtain ⟨c3, h⟩ := zchk_ex h
  obtain ⟨S4, eS4, h⟩ := zlet_ex h
  refine j_newa20 (N := 300) (mx := 300) hC hE ka_20 dX3_init_8 (w_id kR_300) rfl (Nat.le_of_ble_eq_true rfl) (Nat.le_of_ble_eq_true rfl) eq2 eS4 (Or.inl c3) (Nat.le_of_ble_eq_true rfl) (Nat.le_of_ble_eq_true rfl) ?_
  obtain ⟨hk, h⟩ := zchk_ex h
  have hk5 := hk
  obtain ⟨S6, eS6, h⟩ := zlet_ex h
  refine j_putq hC hE dX3_init_10 f_X3_9 pF_X3 hk5 rfl rfl rfl 0 rfl eS6 ?_
  refine j_aload_n hC 0 dX3_init_13 rfl rfl ?_
  refine j_sipush hC dX3_init_14 rfl ?_
  obtain ⟨q7, eq7, h⟩ := zlet_ex h
  obtain ⟨c8, h⟩ := zchk_ex h
  obtain ⟨S9, eS9, h⟩ := zlet_ex h
  refine j_newa20 (N := 29524) (mx := 29524) hC hE ka_20 dX3_init_17 (w_id kR_29524) rfl (Nat.le_of_ble_eq_true rfl) (Nat.le_of_ble_eq_true rfl) eq7 eS9 (Or.inl c8) (Nat.le_of_ble_eq_true rfl) (Nat.le_of_ble_eq_true rfl) ?_
  obtain ⟨hk, h⟩ := zchk_ex h
  have hk10 := hk
  obtain ⟨S11, eS11, h⟩ := zlet_ex h
  refine j_putq hC hE dX3_init_19 f_X3_15 pF_X3 hk10 rfl rfl rfl 1 rfl eS11 ?_
  refine j_aload_n hC 0 dX3_init_22 rfl rfl ?_
  refine j_ldc (n := 67500) hC dX3_init_23 k162 rfl ?_
  obtain ⟨q12, eq12, h⟩ := zlet_ex h
  obtain ⟨c13, h⟩ := zchk_ex h
  obtain ⟨S14, eS14, h⟩ := zlet_ex h
  refine j_newa20 (N := 67500) (mx := 67500) hC hE ka_20 dX3_init_25 (w_id kR_67500) rfl (Nat.le_of_ble_eq_true rfl) (Nat.le_of_ble_eq_true rfl) eq12 eS14 (Or.inl c13) (Nat.le_of_ble_eq_true rfl) (Nat.le_of_ble_eq_true rfl) ?_
  obtain ⟨hk, h⟩ := zchk_ex h
  have hk15 := hk
  obtain ⟨S16, eS16, h⟩ := zlet_ex h
  refine j_putq hC hE dX3_init_27 f_X3_21 pF_X3 hk15 rfl rfl rfl 2 rfl eS16 ?_
  refine j_aload_n hC 0 dX3_init_30 rfl rfl ?_
  refine j_sipush hC dX3_init_31 rfl ?_
  obtain ⟨q17, eq17, h⟩ := zlet_ex h
  obtain ⟨c18, h⟩ := zchk_ex h
  obtain ⟨S19, eS19, h⟩ := zlet_ex h
  refine j_newa20 (N := 301) (mx := 301) hC hE ka_20 dX3_init_34 (w_id kR_301) rfl (Nat.le_of_ble_eq_true rfl) (Nat.le_of_ble_eq_true rfl) eq17 eS19 (Or.inl c18) (Nat.le_of_ble_eq_true rfl) (Nat.le_of_ble_eq_true rfl) ?_
  obtain ⟨hk, h⟩ := zchk_ex h
  have hk20 := hk
  obtain ⟨S21, eS21, h⟩ := zlet_ex h
  refine j_putq hC hE dX3_init_36 f_X3_24 pF_X3 hk20 rfl rfl rfl 3 rfl eS21 ?_
  refine j_aload_n hC 0 dX3_init_39 rfl rfl ?_
  refine j_sipush hC dX3_init_40 rfl ?_
  obtain ⟨q22, eq22, h⟩ := zlet_ex h
  obtain ⟨c23, h⟩ := zchk_ex h
  obtain ⟨S24, eS24, h⟩ := zlet_ex h
  refine j_newa20 (N := 225) (mx := 225) hC hE ka_20 dX3_init_43 (w_id kR_225) rfl (Nat.le_of_ble_eq_true rfl) (Nat.le_of_ble_eq_true rfl) eq22 eS24 (Or.inl c23) (Nat.le_of_ble_eq_true rfl) (Nat.le_of_ble_eq_true rfl) ?_
  obtain ⟨hk, h⟩ := zchk_ex h
  have hk25 := hk
  obtain ⟨S26, eS26, h⟩ := zlet_ex h
  refine j_putq hC hE dX3_init_45 f_X3_27 pF_X3 hk25 rfl rfl rfl 4 rfl eS26 ?_
  refine j_aload_n hC 0 dX3_init_48 rfl rfl ?_
  refine j_sipush hC dX3_init_49 rfl ?_
  obtain ⟨q27, eq27, h⟩ := zlet_ex h
  obtain ⟨c28, h⟩ := zchk_ex h
  obtain ⟨S29, eS29, h⟩ := zlet_ex h
  refine j_newa20 (N := 300) (mx := 300) hC hE ka_20 dX3_init_52 (w_id kR_300) rfl (Nat.le_of_ble_eq_true rfl) (Nat.le_of_ble_eq_true rfl) eq27 eS29 (Or.inl c28) (Nat.le_of_ble_eq_true rfl) (Nat.le_of_ble_eq_true rfl) ?_
  obtain ⟨hk, h⟩ := zchk_ex h
  have hk30 := hk
  obtain ⟨S31, eS31, h⟩ := zlet_ex h
  refine j_putq hC hE dX3_init_54 f_X3_30 pF_X3 hk30 rfl rfl rfl 5 rfl eS31 ?_
  refine j_aload_n hC 0 dX3_init_57 rfl rfl ?_
  refine j_sipush hC dX3_init_58 rfl ?_
  obtain ⟨q32, eq32, h⟩ := zlet_ex h
  obtain ⟨c33, h⟩ := zchk_ex h
  obtain ⟨S34, eS34, h⟩ := zlet_ex h
  refine j_newa20 (N := 300) (mx := 300) hC hE ka_20 dX3_init_61 (w_id kR_300) rfl (Nat.le_of_ble_eq_true rfl) (Nat.le_of_ble_eq_true rfl) eq32 eS34 (Or.inl c33) (Nat.le_of_ble_eq_true rfl) (Nat.le_of_ble_eq_true rfl) ?_
  obtain ⟨hk, h⟩ := zchk_ex h
  have hk35 := hk
  obtain ⟨S36, eS36, h⟩ := zlet_ex h
  refine j_putq hC hE dX3_init_63 f_X3_33 pF_X3 hk35 rfl rfl rfl 6 rfl eS36 ?_
  refine j_aload_n hC 0 dX3_init_66 rfl rfl ?_
  refine j_sipush hC dX3_init_67 rfl ?_
  obtain ⟨q37, eq37, h⟩ := zlet_ex h
  obtain ⟨c38, h⟩ := zchk_ex h
  obtain ⟨S39, eS39, h⟩ := zlet_ex h
  refine j_newa20 (N := 300) (mx := 300) hC hE ka_20 dX3_init_70 (w_id kR_300) rfl (Nat.le_of_ble_eq_true rfl) (Nat.le_of_ble_eq_true rfl) eq37 eS39 (Or.inl c38) (Nat.le_of_ble_eq_true rfl) (Nat.le_of_ble_eq_true rfl) ?_
  obtain ⟨hk, h⟩ := zchk_ex h
  have hk40 := hk
  obtain ⟨S41, eS41, h⟩ := zlet_ex h
  refine j_putq hC hE dX3_init_72 f_X3_36 pF_X3 hk40 rfl rfl rfl 7 rfl eS41 ?_
  refine j_aload_n hC 0 dX3_init_75 rfl rfl ?_
  refine j_sipush hC dX3_init_76 rfl ?_
  obtain ⟨q42, eq42, h⟩ := zlet_ex h
  obtain ⟨c43, h⟩ := zchk_ex h
  obtain ⟨S44, eS44, h⟩ := zlet_ex h
  refine j_newa20 (N := 300) (mx := 300) hC hE ka_20 dX3_init_79 (w_id kR_300) rfl (Nat.le_of_ble_eq_true rfl) (Nat.le_of_ble_eq_true rfl) eq42 eS44 (Or.inl c43) (Nat.le_of_ble_eq_true rfl) (Nat.le_of_ble_eq_true rfl) ?_
  obtain ⟨hk, h⟩ := zchk_ex h
  have hk45 := hk
  obtain ⟨S46, eS46, h⟩ := zlet_ex h
  refine j_putq hC hE dX3_init_81 f_X3_39 pF_X3 hk45 rfl rfl rfl 8 rfl eS46 ?_
  refine j_aload_n hC 0 dX3_init_84 rfl rfl ?_
  refine j_sipush hC dX3_init_85 rfl ?_
  obtain ⟨q47, eq47, h⟩ := zlet_ex h
  obtain ⟨c48, h⟩ := zchk_ex h
  obtain ⟨S49, eS49, h⟩ := zlet_ex h
  refine j_newa20 (N := 300) (mx := 300) hC hE ka_20 dX3_init_88 (w_id kR_300) rfl (Nat.le_of_ble_eq_true rfl) (Nat.le_of_ble_eq_true rfl) eq47 eS49 (Or.inl c48) (Nat.le_of_ble_eq_true rfl) (Nat.le_of_ble_eq_true rfl) ?_
  obtain ⟨hk, h⟩ := zchk_ex h
  have hk50 := hk
  obtain ⟨S51, eS51, h⟩ := zlet_ex h
  refine j_putq hC hE dX3_init_90 f_X3_42 pF_X3 hk50 rfl rfl rfl 9 rfl eS51 ?_
  refine j_aload_n hC 0 dX3_init_93 rfl rfl ?_
  refine j_sipush hC dX3_init_94 rfl ?_
  obtain ⟨q52, eq52, h⟩ := zlet_ex h
  obtain ⟨c53, h⟩ := zchk_ex h
  obtain ⟨S54, eS54, h⟩ := zlet_ex h
  refine j_newa20 (N := 300) (mx := 300) hC hE ka_20 dX3_init_97 (w_id kR_300) rfl (Nat.le_of_ble_eq_true rfl) (Nat.le_of_ble_eq_true rfl) eq52 eS54 (Or.inl c53) (Nat.le_of_ble_eq_true rfl) (Nat.le_of_ble_eq_true rfl) ?_
  obtain ⟨hk, h⟩ := zchk_ex h
  have hk55 := hk
  obtain ⟨S56, eS56, h⟩ := zlet_ex h
  refine j_putq hC hE dX3_init_99 f_X3_45 pF_X3 hk55 rfl rfl rfl 10 rfl eS56 ?_
  refine j_aload_n hC 0 dX3_init_102 rfl rfl ?_
  refine j_sipush hC dX3_init_103 rfl ?_
  obtain ⟨q57, eq57, h⟩ := zlet_ex h
  obtain ⟨c58, h⟩ := zchk_ex h
  obtain ⟨S59, eS59, h⟩ := zlet_ex h
  refine j_newa21 (N := 300) (mx := 300) hC hE ka_21 dX3_init_106 (w_id kR_300) rfl (Nat.le_of_ble_eq_true rfl) (Nat.le_of_ble_eq_true rfl) eq57 eS59 (Or.inl c58) (Nat.le_of_ble_eq_true rfl) (Nat.le_of_ble_eq_true rfl) ?_
  obtain ⟨hk, h⟩ := zchk_ex h
  have hk60 := hk
  obtain ⟨S61, eS61, h⟩ := zlet_ex h
  refine j_putq hC hE dX3_init_108 f_X3_48 pF_X3 hk60 rfl rfl rfl 11 rfl eS61 ?_
  refine j_aload_n hC 0 dX3_init_111 rfl rfl ?_
  refine j_iconst hC dX3_init_112 ?_
  obtain ⟨q62, eq62, h⟩ := zlet_ex h
  obtain ⟨c63, h⟩ := zchk_ex h
  obtain ⟨S64, eS64, h⟩ := zlet_ex h
  refine j_newa20 (N := 5) (mx := 5) hC hE ka_20 dX3_init_113 (w_id kR_5) rfl (Nat.le_of_ble_eq_true rfl) (Nat.le_of_ble_eq_true rfl) eq62 eS64 (Or.inl c63) (Nat.le_of_ble_eq_true rfl) (Nat.le_of_ble_eq_true rfl) ?_
  obtain ⟨hk, h⟩ := zchk_ex h
  have hk65 := hk
  obtain ⟨S66, eS66, h⟩ := zlet_ex h
  refine j_putq hC hE dX3_init_115 f_X3_52 pF_X3 hk65 rfl rfl rfl 12 rfl eS66 ?_
  have e1 := Option.some.inj h
  exact j_vret hC hE dX3_init_118 rfl rfl e1 trivial (Nat.le_of_ble_eq_true rfl) (Nat.le_of_ble_eq_true rfl)
set_option maxHeartbeats 4000000 in
set_option maxRecDepth 100000 in
theorem c_X3_wordAt (l : Launch) (hlt : l.stackTraces = false) (g : zG) (v1 : Int) (hv1 : inR v1) (M : zM) (S : zS) (hF : zFx S) {r : Int} (h : F_X3_wordAt v1 M S = some r) : zMet l g yX3_wordAt cX3_wordAt 2 (some .int) 2 0 0 [zr g 11, .int (zi v1)] M S (.inl (some (.int (zi r)))) M S (inR r) := by
  refine zMet_of (by decide) hlt [(0, zr g 11), (1, .int (zi v1))] rfl (Nat.le_of_ble_eq_true rfl) (fun K hC hE hN => ?_)
  unfold F_X3_wordAt at h
  refine j_aload_n hC 0 dX3_wordAt_0 rfl rfl ?_
  refine j_getq (q := 12) hC dX3_wordAt_1 f_X3_9 (zFx_kd hF 11 rfl) rfl 0 rfl (zFx_rf hF 11 0 rfl) ?_
  refine j_iload_n hC 1 dX3_wordAt_4 rfl rfl ?_
  obtain ⟨r1, hy, h⟩ := zb1_ex h
  refine j_callSi hC hE lk_X3_127 dX3_wordAt_5 (c_X6_at l hlt g 12 v1 hv1 M S hF hy) [zr g 12, .int (zi v1)] [] rfl rfl rfl (zcat (Nat.le_of_ble_eq_true rfl)) (Nat.le_of_ble_eq_true rfl) (Nat.le_of_ble_eq_true rfl) (Nat.le_of_ble_eq_true rfl) (Nat.le_of_ble_eq_true rfl) (fun hp2 => ?_)
  have hr1 := hp2
  have e1 := Option.some.inj h
  exact j_iret hC hE dX3_wordAt_8 (w_id hr1) (zn_i _) (by rw [← e1]) rfl rfl (by rw [← e1]; exact hr1) (Nat.le_of_ble_eq_true rfl) (Nat.le_of_ble_eq_true rfl)
set_option maxHeartbeats 4000000 in
set_option maxRecDepth 100000 in
theorem c_J7_fill_53178 (l : Launch) (hlt : l.stackTraces = false) (g : zG) (v0 : Nat) (v1 : Int) (hv1 : inR v1) (M : zM) (S : zS) (hF : zFx S) {M' : zM} (h : F_J7_fill_53178 v0 v1 M S = some M') : zMet l g yJ7_fill_53178 cJ7_fill_53178 4 none 1 0 0 [zr g v0, .int (zi v1)] M S (.inl none) M' S (True) := by
  refine zMet_of (by decide) hlt [(0, zr g v0), (1, .int (zi v1))] (by simp only [lv_args, zr_cat, zc_i, zc_l, zc_d, zc_r] <;> rfl) (by rw [zsl_len]; simp only [List.map_cons, List.map_nil, zr_cat, zc_i, zc_l, zc_d, zc_r, List.sum_cons, List.sum_nil] <;> decide) (fun K hC hE hN => ?_)
  unfold F_J7_fill_53178 at h
  have J_20 : ∀ (M : zM) (_ : F_J7_fill_53178_J20 M S = some M'), zJ K g 0 0 20 4 [] [] M S := by
    intro M h
    unfold F_J7_fill_53178_J20 at h
    have e1 := Option.some.inj h
    exact j_vret hC hE dJ7_fill_53178_20 rfl e1 rfl trivial (Nat.le_of_ble_eq_true rfl) (Nat.le_of_ble_eq_true rfl)
  have L_5 : ∀ (v0 : Nat) (v1 : Int) (v2 : Int) (v3 : Int) (hv1 : inR v1) (hv2 : inR v2) (hv3 : inR v3) (M : zM) (_ : F_J7_fill_53178_L5 v0 v1 v2 v3 M S = some M'), zJ K g 0 0 5 4 [(0, zr g v0), (1, .int (zi v1)), (2, .int (zi v2)), (3, .int (zi v3))] [] M S := by
    intro v0 v1 v2 v3 hv1 hv2 hv3 M h
    unfold F_J7_fill_53178_L5 at h
    obtain ⟨ex5, hl, hd5⟩ := zb1_ex h
    obtain ⟨bd5, ebd⟩ : ∃ f, f = (fun (s : Int × zM) => F_J7_fill_53178_B5 v0 v1 s.1 v3 s.2 S) := ⟨_, rfl⟩
    rw [← ebd] at hl
    have main : ∀ (n5 : Nat) (v2 : Int) (hv2 : inR v2) (M : zM) (_ : zloop bd5 n5 (v2, M) = some ex5), zJ K g 0 0 5 4 [(0, zr g v0), (1, .int (zi v1)), (2, .int (zi v2)), (3, .int (zi v3))] [] M S := by
      intro n5
      induction n5 with
      | zero => intro v2 hv2 M hl; exact zloop_0 hl
      | succ n5 ih5 =>
        intro v2 hv2 M hl
        obtain ⟨o, h, hT⟩ := zloop_ex hl
        have h : F_J7_fill_53178_B5 v0 v1 v2 v3 M S = some o := by rw [ebd] at h; exact h
        unfold F_J7_fill_53178_B5 at h
        refine j_iload_n hC 2 dJ7_fill_53178_5 rfl rfl ?_
        refine j_iload_n hC 3 dJ7_fill_53178_6 rfl rfl ?_
        refine j_icmp_ge hC dJ7_fill_53178_7 rfl (w_id hv2) (w_id hv3) (fun c1 => ?_) (fun c1 => ?_)
        · have h := zf c1 h
          obtain rfl := Option.some.inj h
          have hx5 := hd5
          rw [← show _ = ex5 from hT] at hx5
          refine j_sub [] rfl ?_
          exact J_20 M hx5
        · have h := zt c1 h
          refine j_aload_n hC 0 dJ7_fill_53178_10 rfl rfl ?_
          refine j_iload_n hC 2 dJ7_fill_53178_11 rfl rfl ?_
          refine j_iload_n hC 1 dJ7_fill_53178_12 rfl rfl ?_
          obtain ⟨hk, h⟩ := zchk_ex h
          have hk2 := hk
          obtain ⟨c3, h⟩ := zchk_ex h
          obtain ⟨M4, eM4, h⟩ := zlet_ex h
          refine j_iast (n := (zlen S v0)) hC dJ7_fill_53178_13 (w_id hv2) (w_id hv1) hv1 hk2 rfl c3.1 c3.2 eM4 ?_
          obtain ⟨x5, ex5, h⟩ := zlet_ex h
          have hx5 : inR x5 := by rw [ex5]; exact inR_w _
          refine j_iinc hC 2 dJ7_fill_53178_14 rfl ex5 (Nat.le_of_ble_eq_true rfl) rfl ?_
          refine j_goto hC dJ7_fill_53178_17 rfl ?_
          obtain rfl := Option.some.inj h
          refine j_sub [1, 2, 0, 3] rfl ?_
          exact ih5 x5 hx5 M4 hT
    exact main zN v2 hv2 M hl
  refine j_iconst hC dJ7_fill_53178_0 ?_
  refine j_istore_n hC dJ7_fill_53178_1 rfl (Nat.le_of_ble_eq_true rfl) rfl ?_
  refine j_aload_n hC 1 dJ7_fill_53178_2 rfl rfl ?_
  obtain ⟨hk, h⟩ := zchk_ex h
  have hk6 := hk
  refine j_alen (k := 20) (n := (zlen S v0)) hC dJ7_fill_53178_3 hk6 (Nat.le_of_ble_eq_true rfl) (Nat.le_of_ble_eq_true rfl) rfl (fun hl7 => ?_)
  obtain ⟨x8, ex8, h⟩ := zlet_ex h
  have hx8 : inR x8 := by rw [ex8]; exact hl7
  refine j_names ex8 ?_
  refine j_istore_n hC dJ7_fill_53178_4 rfl (Nat.le_of_ble_eq_true rfl) rfl ?_
  refine j_sub [2, 3, 1, 0] rfl ?_
  exact L_5 v0 v1 0 x8 hv1 kR_0 hx8 M h
set_option maxHeartbeats 4000000 in
set_option maxRecDepth 100000 in
theorem c_X3_forget (l : Launch) (hlt : l.stackTraces = false) (g : zG) (M : zM) (S : zS) (hF : zFx S) {M' : zM} (h : F_X3_forget M S = some M') : zMet l g yX3_forget cX3_forget 2 none 3 0 0 [zr g 11] M S (.inl none) M' S (True) := by
  refine zMet_of (by decide) hlt [(0, zr g 11)] rfl (Nat.le_of_ble_eq_true rfl) (fun K hC hE hN => ?_)
  unfold F_X3_forget at h
  have J_29 : ∀ (M : zM) (_ : F_X3_forget_J29 M S = some M'), zJ K g 0 0 29 2 [(0, zr g 11)] [] M S := by
    intro M h
    unfold F_X3_forget_J29 at h
    refine j_aload_n hC 0 dX3_forget_29 rfl rfl ?_
    refine j_getq (q := 17) hC dX3_forget_30 f_X3_30 (zFx_kd hF 11 rfl) rfl 5 rfl (zFx_rf hF 11 5 rfl) ?_
    refine j_iconst hC dX3_forget_33 ?_
    obtain ⟨M1, hy, h⟩ := zb1_ex h
    refine j_callSv hC hE lk_X3_115 dX3_forget_34 (c_J7_fill_53178 l hlt g 17 0 kR_0 M S hF hy) [zr g 17, .int (zi 0)] [] rfl rfl rfl (zcat (Nat.le_of_ble_eq_true rfl)) (Nat.le_of_ble_eq_true rfl) (Nat.le_of_ble_eq_true rfl) (Nat.le_of_ble_eq_true rfl) (Nat.le_of_ble_eq_true rfl) (fun hp2 => ?_)
    refine j_aload_n hC 0 dX3_forget_37 rfl rfl ?_
    refine j_getq (q := 24) hC dX3_forget_38 f_X3_52 (zFx_kd hF 11 rfl) rfl 12 rfl (zFx_rf hF 11 12 rfl) ?_
    refine j_iconst hC dX3_forget_41 ?_
    obtain ⟨M3, hy, h⟩ := zb1_ex h
    refine j_callSv hC hE lk_X3_115 dX3_forget_42 (c_J7_fill_53178 l hlt g 24 0 kR_0 M1 S hF hy) [zr g 24, .int (zi 0)] [] rfl rfl rfl (zcat (Nat.le_of_ble_eq_true rfl)) (Nat.le_of_ble_eq_true rfl) (Nat.le_of_ble_eq_true rfl) (Nat.le_of_ble_eq_true rfl) (Nat.le_of_ble_eq_true rfl) (fun hp4 => ?_)
    refine j_aload_n hC 0 dX3_forget_45 rfl rfl ?_
    refine j_iconst hC dX3_forget_46 ?_
    obtain ⟨M5, eM5, h⟩ := zlet_ex h
    refine j_put hC dX3_forget_47 f_X3_76 pF_X3 (zFx_kd hF 11 rfl) (Or.inl rfl) rfl 13 rfl (w_id kR_0) kR_0 eM5 ?_
    refine j_aload_n hC 0 dX3_forget_50 rfl rfl ?_
    refine j_iconst hC dX3_forget_51 ?_
    obtain ⟨M6, eM6, h⟩ := zlet_ex h
    refine j_put hC dX3_forget_52 f_X3_93 pF_X3 (zFx_kd hF 11 rfl) (Or.inl rfl) rfl 14 rfl (w_id kR_0) kR_0 eM6 ?_
    refine j_aload_n hC 0 dX3_forget_55 rfl rfl ?_
    refine j_iconst hC dX3_forget_56 ?_
    obtain ⟨M7, eM7, h⟩ := zlet_ex h
    refine j_put hC dX3_forget_57 f_X3_79 pF_X3 (zFx_kd hF 11 rfl) (Or.inr (Or.inl rfl)) rfl 15 rfl (w_id kR_0) zb01_0 eM7 ?_
    refine j_aload_n hC 0 dX3_forget_60 rfl rfl ?_
    refine j_iconst hC dX3_forget_61 ?_
    obtain ⟨M8, eM8, h⟩ := zlet_ex h
    refine j_put hC dX3_forget_62 f_X3_121 pF_X3 (zFx_kd hF 11 rfl) (Or.inl rfl) rfl 16 rfl (w_id kR_0) kR_0 eM8 ?_
    refine j_aload_n hC 0 dX3_forget_65 rfl rfl ?_
    refine j_iconst hC dX3_forget_66 ?_
    obtain ⟨M9, eM9, h⟩ := zlet_ex h
    refine j_put hC dX3_forget_67 f_X3_124 pF_X3 (zFx_kd hF 11 rfl) (Or.inl rfl) rfl 17 rfl (w_id kR_m1) kR_m1 eM9 ?_
    have e1 := Option.some.inj h
    exact j_vret hC hE dX3_forget_70 rfl e1 rfl trivial (Nat.le_of_ble_eq_true rfl) (Nat.le_of_ble_eq_true rfl)
  have L_2 : ∀ (v1 : Int) (hv1 : inR v1) (M : zM) (_ : F_X3_forget_L2 v1 M S = some M'), zJ K g 0 0 2 2 [(0, zr g 11), (1, .int (zi v1))] [] M S := by
    intro v1 hv1 M h
    unfold F_X3_forget_L2 at h
    obtain ⟨ex2, hl, hd2⟩ := zb1_ex h
    obtain ⟨bd2, ebd⟩ : ∃ f, f = (fun (s : Int × zM) => F_X3_forget_B2 s.1 s.2 S) := ⟨_, rfl⟩
    rw [← ebd] at hl
    have main : ∀ (n2 : Nat) (v1 : Int) (hv1 : inR v1) (M : zM) (_ : zloop bd2 n2 (v1, M) = some ex2), zJ K g 0 0 2 2 [(0, zr g 11), (1, .int (zi v1))] [] M S := by
      intro n2
      induction n2 with
      | zero => intro v1 hv1 M hl; exact zloop_0 hl
      | succ n2 ih2 =>
        intro v1 hv1 M hl
        obtain ⟨o, h, hT⟩ := zloop_ex hl
        have h : F_X3_forget_B2 v1 M S = some o := by rw [ebd] at h; exact h
        unfold F_X3_forget_B2 at h
        refine j_iload_n hC 1 dX3_forget_2 rfl rfl ?_
        refine j_aload_n hC 0 dX3_forget_3 rfl rfl ?_
        refine j_get hC dX3_forget_4 f_X3_76 (zFx_kd hF 11 rfl) rfl 13 rfl (fun hg10 => ?_)
        refine j_icmp_ge hC dX3_forget_7 rfl (w_id hv1) (w_id hg10) (fun c11 => ?_) (fun c11 => ?_)
        · have h := zf c11 h
          obtain rfl := Option.some.inj h
          have hx2 := hd2
          rw [← show _ = ex2 from hT] at hx2
          refine j_sub [0] rfl ?_
          exact J_29 M hx2
        · have h := zt c11 h
          refine j_aload_n hC 0 dX3_forget_10 rfl rfl ?_
          refine j_getq (q := 13) hC dX3_forget_11 f_X3_15 (zFx_kd hF 11 rfl) rfl 1 rfl (zFx_rf hF 11 1 rfl) ?_
          refine j_aload_n hC 0 dX3_forget_14 rfl rfl ?_
          refine j_iload_n hC 1 dX3_forget_15 rfl rfl ?_
          obtain ⟨r12, hy, h⟩ := zb1_ex h
          refine j_callVi (ci := 3) hC hE lk_X3_83 dX3_forget_16 (c_X3_wordAt l hlt g v1 hv1 M S hF hy) [.int (zi v1)] [zr g 13] (zFx_kd hF 11 rfl) ⟨_, rfl, by decide, rfl⟩ rfl rfl rfl (zcat (Nat.le_of_ble_eq_true rfl)) (Nat.le_of_ble_eq_true rfl) (Nat.le_of_ble_eq_true rfl) (Nat.le_of_ble_eq_true rfl) (Nat.le_of_ble_eq_true rfl) (fun hp13 => ?_)
          have hr12 := hp13
          refine j_iconst hC dX3_forget_19 ?_
          obtain ⟨M14, hy, h⟩ := zb1_ex h
          refine j_callSv hC hE lk_X3_96 dX3_forget_20 (c_X6_put l hlt g 13 r12 0 hr12 kR_0 M S hF hy) [zr g 13, .int (zi r12), .int (zi 0)] [] rfl rfl rfl (zcat (Nat.le_of_ble_eq_true rfl)) (Nat.le_of_ble_eq_true rfl) (Nat.le_of_ble_eq_true rfl) (Nat.le_of_ble_eq_true rfl) (Nat.le_of_ble_eq_true rfl) (fun hp15 => ?_)
          obtain ⟨x16, ex16, h⟩ := zlet_ex h
          have hx16 : inR x16 := by rw [ex16]; exact inR_w _
          refine j_iinc hC 1 dX3_forget_23 rfl ex16 (Nat.le_of_ble_eq_true rfl) rfl ?_
          refine j_goto hC dX3_forget_26 rfl ?_
          obtain rfl := Option.some.inj h
          refine j_sub [1, 0] rfl ?_
          exact ih2 x16 hx16 M14 hT
    exact main zN v1 hv1 M hl
  refine j_iconst hC dX3_forget_0 ?_
  refine j_istore_n hC dX3_forget_1 rfl (Nat.le_of_ble_eq_true rfl) rfl ?_
  refine j_sub [1, 0] rfl ?_
  exact L_2 0 kR_0 M h
set_option maxHeartbeats 4000000 in
set_option maxRecDepth 100000 in
theorem c_X6_putInOrder (l : Launch) (hlt : l.stackTraces = false) (g : zG) (v0 : Nat) (v1 : Int) (v2 : Int) (hv1 : inR v1) (hv2 : inR v2) (M : zM) (S : zS) (hF : zFx S) {M' : zM} (h : F_X6_putInOrder v0 v1 v2 M S = some M') : zMet l g yX6_putInOrder cX6_putInOrder 5 none 2 0 0 [zr g v0, .int (zi v1), .int (zi v2)] M S (.inl none) M' S (True) := by
  refine zMet_of (by decide) hlt [(0, zr g v0), (1, .int (zi v1)), (2, .int (zi v2))] (by simp only [lv_args, zr_cat, zc_i, zc_l, zc_d, zc_r] <;> rfl) (by rw [zsl_len]; simp only [List.map_cons, List.map_nil, zr_cat, zc_i, zc_l, zc_d, zc_r, List.sum_cons, List.sum_nil] <;> decide) (fun K hC hE hN => ?_)
  unfold F_X6_putInOrder at h
  have J_45 : ∀ (v0 : Nat) (v2 : Int) (v3 : Int) (hv2 : inR v2) (hv3 : inR v3) (M : zM) (_ : F_X6_putInOrder_J45 v0 v2 v3 M S = some M'), zJ K g 0 0 45 5 [(0, zr g v0), (2, .int (zi v2)), (3, .int (zi v3))] [] M S := by
    intro v0 v2 v3 hv2 hv3 M h
    unfold F_X6_putInOrder_J45 at h
    refine j_aload_n hC 0 dX6_putInOrder_45 rfl rfl ?_
    refine j_iload_n hC 2 dX6_putInOrder_46 rfl rfl ?_
    refine j_iload_n hC 1 dX6_putInOrder_47 rfl rfl ?_
    obtain ⟨M1, hy, h⟩ := zb1_ex h
    refine j_callSv hC hE lk_X6_13 dX6_putInOrder_48 (c_X6_put l hlt g v0 v3 v2 hv3 hv2 M S hF hy) [zr g v0, .int (zi v3), .int (zi v2)] [] rfl rfl rfl (zcat (Nat.le_of_ble_eq_true rfl)) (Nat.le_of_ble_eq_true rfl) (Nat.le_of_ble_eq_true rfl) (Nat.le_of_ble_eq_true rfl) (Nat.le_of_ble_eq_true rfl) (fun hp2 => ?_)
    have e1 := Option.some.inj h
    exact j_vret hC hE dX6_putInOrder_51 rfl e1 rfl trivial (Nat.le_of_ble_eq_true rfl) (Nat.le_of_ble_eq_true rfl)
  have L_7 : ∀ (v0 : Nat) (v2 : Int) (v3 : Int) (v4 : Int) (hv2 : inR v2) (hv3 : inR v3) (hv4 : inR v4) (M : zM) (_ : F_X6_putInOrder_L7 v0 v2 v3 v4 M S = some M'), zJ K g 0 0 7 5 [(0, zr g v0), (2, .int (zi v2)), (3, .int (zi v3)), (4, .int (zi v4))] [] M S := by
    intro v0 v2 v3 v4 hv2 hv3 hv4 M h
    unfold F_X6_putInOrder_L7 at h
    obtain ⟨ex7, hl, hd7⟩ := zb1_ex h
    obtain ⟨bd7, ebd⟩ : ∃ f, f = (fun (s : Int × Int × zM) => F_X6_putInOrder_B7 v0 v2 s.1 s.2.1 s.2.2 S) := ⟨_, rfl⟩
    rw [← ebd] at hl
    have main : ∀ (n7 : Nat) (v3 : Int) (v4 : Int) (hv3 : inR v3) (hv4 : inR v4) (M : zM) (_ : zloop bd7 n7 (v3, v4, M) = some ex7), zJ K g 0 0 7 5 [(0, zr g v0), (2, .int (zi v2)), (3, .int (zi v3)), (4, .int (zi v4))] [] M S := by
      intro n7
      induction n7 with
      | zero => intro v3 v4 hv3 hv4 M hl; exact zloop_0 hl
      | succ n7 ih7 =>
        intro v3 v4 hv3 hv4 M hl
        obtain ⟨o, h, hT⟩ := zloop_ex hl
        have h : F_X6_putInOrder_B7 v0 v2 v3 v4 M S = some o := by rw [ebd] at h; exact h
        unfold F_X6_putInOrder_B7 at h
        refine j_iload hC 3 dX6_putInOrder_7 rfl ?_
        refine j_if_lt hC dX6_putInOrder_9 rfl (w_id hv4) (fun c3 => ?_) (fun c3 => ?_)
        · have h := zt c3 h
          obtain rfl := Option.some.inj h
          have hx7 := hd7
          rw [← show _ = ex7 from hT] at hx7
          refine j_sub [0, 1, 2] rfl ?_
          exact J_45 v0 v2 v3 hv2 hv3 M hx7
        · have h := zf c3 h
          refine j_aload_n hC 0 dX6_putInOrder_12 rfl rfl ?_
          refine j_iload hC 3 dX6_putInOrder_13 rfl ?_
          obtain ⟨r4, hy, h⟩ := zb1_ex h
          refine j_callSi hC hE lk_X6_7 dX6_putInOrder_15 (c_X6_at l hlt g v0 v4 hv4 M S hF hy) [zr g v0, .int (zi v4)] [] rfl rfl rfl (zcat (Nat.le_of_ble_eq_true rfl)) (Nat.le_of_ble_eq_true rfl) (Nat.le_of_ble_eq_true rfl) (Nat.le_of_ble_eq_true rfl) (Nat.le_of_ble_eq_true rfl) (fun hp5 => ?_)
          have hr4 := hp5
          refine j_iload_n hC 1 dX6_putInOrder_18 rfl rfl ?_
          refine j_icmp_le hC dX6_putInOrder_19 rfl (w_id hr4) (w_id hv2) (fun c6 => ?_) (fun c6 => ?_)
          · have h := zf c6 h
            obtain rfl := Option.some.inj h
            have hx7 := hd7
            rw [← show _ = ex7 from hT] at hx7
            refine j_sub [0, 1, 2] rfl ?_
            exact J_45 v0 v2 v3 hv2 hv3 M hx7
          · have h := zt c6 h
            refine j_aload_n hC 0 dX6_putInOrder_22 rfl rfl ?_
            refine j_iload hC 3 dX6_putInOrder_23 rfl ?_
            refine j_iconst hC dX6_putInOrder_25 ?_
            refine j_iadd hC dX6_putInOrder_26 ?_
            refine j_aload_n hC 0 dX6_putInOrder_27 rfl rfl ?_
            refine j_iload hC 3 dX6_putInOrder_28 rfl ?_
            obtain ⟨r7, hy, h⟩ := zb1_ex h
            refine j_callSi hC hE lk_X6_7 dX6_putInOrder_30 (c_X6_at l hlt g v0 v4 hv4 M S hF hy) [zr g v0, .int (zi v4)] [.int (zi (v4 + 1)), zr g v0] rfl rfl rfl (zcat (Nat.le_of_ble_eq_true rfl)) (Nat.le_of_ble_eq_true rfl) (Nat.le_of_ble_eq_true rfl) (Nat.le_of_ble_eq_true rfl) (Nat.le_of_ble_eq_true rfl) (fun hp8 => ?_)
            have hr7 := hp8
            obtain ⟨M9, hy, h⟩ := zb1_ex h
            refine j_callSv hC hE lk_X6_13 dX6_putInOrder_33 (c_X6_put l hlt g v0 (w (v4 + 1)) r7 (inR_w _) hr7 M S hF hy) [zr g v0, .int (zi (v4 + 1)), .int (zi r7)] [] rfl (by simp only [zi_w, zl_wl]) rfl (zcat (Nat.le_of_ble_eq_true rfl)) (Nat.le_of_ble_eq_true rfl) (Nat.le_of_ble_eq_true rfl) (Nat.le_of_ble_eq_true rfl) (Nat.le_of_ble_eq_true rfl) (fun hp10 => ?_)
            refine j_iload hC 3 dX6_putInOrder_36 rfl ?_
            refine j_istore_n hC dX6_putInOrder_38 rfl (Nat.le_of_ble_eq_true rfl) rfl ?_
            obtain ⟨x11, ex11, h⟩ := zlet_ex h
            have hx11 : inR x11 := by rw [ex11]; exact inR_w _
            refine j_iinc hC 3 dX6_putInOrder_39 rfl ex11 (Nat.le_of_ble_eq_true rfl) rfl ?_
            refine j_goto hC dX6_putInOrder_42 rfl ?_
            obtain rfl := Option.some.inj h
            refine j_sub [2, 3, 1, 0] rfl ?_
            exact ih7 v4 x11 hv4 hx11 M9 hT
    exact main zN v3 v4 hv3 hv4 M hl
  refine j_iload_n hC 1 dX6_putInOrder_0 rfl rfl ?_
  refine j_istore_n hC dX6_putInOrder_1 rfl (Nat.le_of_ble_eq_true rfl) rfl ?_
  refine j_iload_n hC 2 dX6_putInOrder_2 rfl rfl ?_
  refine j_iconst hC dX6_putInOrder_3 ?_
  refine j_isub hC dX6_putInOrder_4 ?_
  obtain ⟨x12, ex12, h⟩ := zlet_ex h
  have hx12 : inR x12 := by rw [ex12]; exact inR_w _
  refine j_namei ex12 ?_
  refine j_istore hC dX6_putInOrder_5 (Nat.le_of_ble_eq_true rfl) rfl ?_
  refine j_sub [2, 4, 1, 0] rfl ?_
  exact L_7 v0 v2 v1 x12 hv2 hv1 hx12 M h
set_option maxHeartbeats 4000000 in
set_option maxRecDepth 100000 in
theorem c_X3_addWord (l : Launch) (hlt : l.stackTraces = false) (g : zG) (v1 : Int) (hv1 : inR v1) (M : zM) (S : zS) (hF : zFx S) {M' : zM} (h : F_X3_addWord v1 M S = some M') : zMet l g yX3_addWord cX3_addWord 2 none 3 0 0 [zr g 11, .int (zi v1)] M S (.inl none) M' S (True) := by
  refine zMet_of (by decide) hlt [(0, zr g 11), (1, .int (zi v1))] rfl (Nat.le_of_ble_eq_true rfl) (fun K hC hE hN => ?_)
  unfold F_X3_addWord at h
  refine j_aload_n hC 0 dX3_addWord_0 rfl rfl ?_
  refine j_getq (q := 13) hC dX3_addWord_1 f_X3_15 (zFx_kd hF 11 rfl) rfl 1 rfl (zFx_rf hF 11 1 rfl) ?_
  refine j_iload_n hC 1 dX3_addWord_4 rfl rfl ?_
  obtain ⟨r1, hy, h⟩ := zb1_ex h
  refine j_callSi hC hE lk_X3_127 dX3_addWord_5 (c_X6_at l hlt g 13 v1 hv1 M S hF hy) [zr g 13, .int (zi v1)] [] rfl rfl rfl (zcat (Nat.le_of_ble_eq_true rfl)) (Nat.le_of_ble_eq_true rfl) (Nat.le_of_ble_eq_true rfl) (Nat.le_of_ble_eq_true rfl) (Nat.le_of_ble_eq_true rfl) (fun hp2 => ?_)
  have hr1 := hp2
  refine j_if_eq hC dX3_addWord_8 rfl (w_id hr1) (fun c3 => ?_) (fun c3 => ?_)
  · have h := zt c3 h
    refine j_aload_n hC 0 dX3_addWord_12 rfl rfl ?_
    refine j_get hC dX3_addWord_13 f_X3_76 (zFx_kd hF 11 rfl) rfl 13 rfl (fun hg4 => ?_)
    refine j_sipush hC dX3_addWord_16 rfl ?_
    refine j_icmp_lt hC dX3_addWord_19 rfl (w_id hg4) (w_id kR_300) (fun c5 => ?_) (fun c5 => ?_)
    · have h := zt c5 h
      refine j_aload_n hC 0 dX3_addWord_28 rfl rfl ?_
      refine j_getq (q := 13) hC dX3_addWord_29 f_X3_15 (zFx_kd hF 11 rfl) rfl 1 rfl (zFx_rf hF 11 1 rfl) ?_
      refine j_iload_n hC 1 dX3_addWord_32 rfl rfl ?_
      refine j_iconst hC dX3_addWord_33 ?_
      obtain ⟨M6, hy, h⟩ := zb1_ex h
      refine j_callSv hC hE lk_X3_96 dX3_addWord_34 (c_X6_put l hlt g 13 v1 1 hv1 kR_1 M S hF hy) [zr g 13, .int (zi v1), .int (zi 1)] [] rfl rfl rfl (zcat (Nat.le_of_ble_eq_true rfl)) (Nat.le_of_ble_eq_true rfl) (Nat.le_of_ble_eq_true rfl) (Nat.le_of_ble_eq_true rfl) (Nat.le_of_ble_eq_true rfl) (fun hp7 => ?_)
      refine j_aload_n hC 0 dX3_addWord_37 rfl rfl ?_
      refine j_getq (q := 12) hC dX3_addWord_38 f_X3_9 (zFx_kd hF 11 rfl) rfl 0 rfl (zFx_rf hF 11 0 rfl) ?_
      refine j_aload_n hC 0 dX3_addWord_41 rfl rfl ?_
      refine j_get hC dX3_addWord_42 f_X3_76 (zFx_kd hF 11 rfl) rfl 13 rfl (fun hg8 => ?_)
      refine j_iload_n hC 1 dX3_addWord_45 rfl rfl ?_
      obtain ⟨M9, hy, h⟩ := zb1_ex h
      refine j_callSv hC hE lk_X3_131 dX3_addWord_46 (c_X6_putInOrder l hlt g 12 (M6 11 13) v1 hg8 hv1 M6 S hF hy) [zr g 12, .int (zi (M6 11 13)), .int (zi v1)] [] rfl rfl rfl (zcat (Nat.le_of_ble_eq_true rfl)) (Nat.le_of_ble_eq_true rfl) (Nat.le_of_ble_eq_true rfl) (Nat.le_of_ble_eq_true rfl) (Nat.le_of_ble_eq_true rfl) (fun hp10 => ?_)
      refine j_aload_n hC 0 dX3_addWord_49 rfl rfl ?_
      refine j_dup hC dX3_addWord_50 (zr_cat _ _) ?_
      refine j_get hC dX3_addWord_51 f_X3_76 (zFx_kd hF 11 rfl) rfl 13 rfl (fun hg11 => ?_)
      refine j_iconst hC dX3_addWord_54 ?_
      refine j_iadd hC dX3_addWord_55 ?_
      obtain ⟨M12, eM12, h⟩ := zlet_ex h
      refine j_put hC dX3_addWord_56 f_X3_76 pF_X3 (zFx_kd hF 11 rfl) (Or.inl rfl) rfl 13 rfl rfl (inR_w _) eM12 ?_
      have e1 := Option.some.inj h
      exact j_vret hC hE dX3_addWord_59 rfl e1 rfl trivial (Nat.le_of_ble_eq_true rfl) (Nat.le_of_ble_eq_true rfl)
    · have h := zf c5 h
      refine j_aload_n hC 0 dX3_addWord_22 rfl rfl ?_
      refine j_iconst hC dX3_addWord_23 ?_
      obtain ⟨M13, eM13, h⟩ := zlet_ex h
      refine j_put hC dX3_addWord_24 f_X3_79 pF_X3 (zFx_kd hF 11 rfl) (Or.inr (Or.inl rfl)) rfl 15 rfl (w_id kR_1) zb01_1 eM13 ?_
      have e1 := Option.some.inj h
      exact j_vret hC hE dX3_addWord_27 rfl e1 rfl trivial (Nat.le_of_ble_eq_true rfl) (Nat.le_of_ble_eq_true rfl)
  · have h := zf c3 h
    have e1 := Option.some.inj h
    exact j_vret hC hE dX3_addWord_11 rfl e1 rfl trivial (Nat.le_of_ble_eq_true rfl) (Nat.le_of_ble_eq_true rfl)
set_option maxHeartbeats 4000000 in
set_option maxRecDepth 100000 in
theorem c_X4_word (l : Launch) (hlt : l.stackTraces = false) (g : zG) (v0 : Int) (hv0 : inR v0) (M : zM) (S : zS) {r : Int} (h : F_X4_word v0 = some r) : zMet l g yX4_word cX4_word 1 (some .int) 1 0 0 [.int (zi v0)] M S (.inl (some (.int (zi r)))) M S (inR r) := by
  refine zMet_of (by decide) hlt [(0, .int (zi v0))] rfl (Nat.le_of_ble_eq_true rfl) (fun K hC hE hN => ?_)
  unfold F_X4_word at h
  refine j_iload_n hC 0 dX4_word_0 rfl rfl ?_
  refine j_bipush hC dX4_word_1 rfl ?_
  refine j_ishr hC dX4_word_3 ?_
  have e1 := Option.some.inj h
  exact j_iret hC hE dX4_word_4 (w_id (cR_zshr _ _)) (zn_i _) (by rw [← e1]) rfl rfl (by rw [← e1]; exact (cR_zshr _ _)) (Nat.le_of_ble_eq_true rfl) (Nat.le_of_ble_eq_true rfl)
set_option maxHeartbeats 4000000 in
set_option maxRecDepth 100000 in
theorem c_X3_addResults (l : Launch) (hlt : l.stackTraces = false) (g : zG) (v1 : Int) (hv1 : inR v1) (M : zM) (S : zS) (hF : zFx S) {M' : zM} (h : F_X3_addResults v1 M S = some M') : zMet l g yX3_addResults cX3_addResults 4 none 4 0 0 [zr g 11, .int (zi v1)] M S (.inl none) M' S (True) := by
  refine zMet_of (by decide) hlt [(0, zr g 11), (1, .int (zi v1))] rfl (Nat.le_of_ble_eq_true rfl) (fun K hC hE hN => ?_)
  unfold F_X3_addResults at h
  have J_52 : ∀ (M : zM) (_ : F_X3_addResults_J52 M S = some M'), zJ K g 0 0 52 4 [] [] M S := by
    intro M h
    unfold F_X3_addResults_J52 at h
    have e1 := Option.some.inj h
    exact j_vret hC hE dX3_addResults_52 rfl e1 rfl trivial (Nat.le_of_ble_eq_true rfl) (Nat.le_of_ble_eq_true rfl)
  have L_2 : ∀ (v1 : Int) (v2 : Int) (hv1 : inR v1) (hv2 : inR v2) (M : zM) (_ : F_X3_addResults_L2 v1 v2 M S = some M'), zJ K g 0 0 2 4 [(0, zr g 11), (1, .int (zi v1)), (2, .int (zi v2))] [] M S := by
    intro v1 v2 hv1 hv2 M h
    unfold F_X3_addResults_L2 at h
    obtain ⟨ex2, hl, hd2⟩ := zb1_ex h
    obtain ⟨bd2, ebd⟩ : ∃ f, f = (fun (s : Int × zM) => F_X3_addResults_B2 v1 s.1 s.2 S) := ⟨_, rfl⟩
    rw [← ebd] at hl
    have main : ∀ (n2 : Nat) (v2 : Int) (hv2 : inR v2) (M : zM) (_ : zloop bd2 n2 (v2, M) = some ex2), zJ K g 0 0 2 4 [(0, zr g 11), (1, .int (zi v1)), (2, .int (zi v2))] [] M S := by
      intro n2
      induction n2 with
      | zero => intro v2 hv2 M hl; exact zloop_0 hl
      | succ n2 ih2 =>
        intro v2 hv2 M hl
        obtain ⟨o, h, hT⟩ := zloop_ex hl
        have h : F_X3_addResults_B2 v1 v2 M S = some o := by rw [ebd] at h; exact h
        unfold F_X3_addResults_B2 at h
        refine j_iload_n hC 2 dX3_addResults_2 rfl rfl ?_
        refine j_iload_n hC 1 dX3_addResults_3 rfl rfl ?_
        refine j_icmp_ge hC dX3_addResults_4 rfl (w_id hv2) (w_id hv1) (fun c1 => ?_) (fun c1 => ?_)
        · have h := zf c1 h
          obtain rfl := Option.some.inj h
          have hx2 := hd2
          rw [← show _ = ex2 from hT] at hx2
          refine j_sub [] rfl ?_
          exact J_52 M hx2
        · have h := zt c1 h
          refine j_aload_n hC 0 dX3_addResults_7 rfl rfl ?_
          refine j_getq (q := 16) hC dX3_addResults_8 f_X3_27 (zFx_kd hF 11 rfl) rfl 4 rfl (zFx_rf hF 11 4 rfl) ?_
          refine j_iload_n hC 2 dX3_addResults_11 rfl rfl ?_
          obtain ⟨r2, hy, h⟩ := zb1_ex h
          refine j_callSi hC hE lk_X3_127 dX3_addResults_12 (c_X6_at l hlt g 16 v2 hv2 M S hF hy) [zr g 16, .int (zi v2)] [] rfl rfl rfl (zcat (Nat.le_of_ble_eq_true rfl)) (Nat.le_of_ble_eq_true rfl) (Nat.le_of_ble_eq_true rfl) (Nat.le_of_ble_eq_true rfl) (Nat.le_of_ble_eq_true rfl) (fun hp3 => ?_)
          have hr2 := hp3
          refine j_istore_n hC dX3_addResults_15 rfl (Nat.le_of_ble_eq_true rfl) rfl ?_
          refine j_aload_n hC 1 dX3_addResults_16 rfl rfl ?_
          refine j_iload_n hC 0 dX3_addResults_17 rfl rfl ?_
          obtain ⟨r4, hy, h⟩ := zb1_ex h
          refine j_callSi hC hE lk_X3_134 dX3_addResults_18 (c_X4_word l hlt g r2 hr2 M S hy) [.int (zi r2)] [zr g 11] rfl rfl rfl (zcat (Nat.le_of_ble_eq_true rfl)) (Nat.le_of_ble_eq_true rfl) (Nat.le_of_ble_eq_true rfl) (Nat.le_of_ble_eq_true rfl) (Nat.le_of_ble_eq_true rfl) (fun hp5 => ?_)
          have hr4 := hp5
          obtain ⟨M6, hy, h⟩ := zb1_ex h
          refine j_callVv (ci := 3) hC hE lk_X3_72 dX3_addResults_21 (c_X3_addWord l hlt g r4 hr4 M S hF hy) [.int (zi r4)] [] (zFx_kd hF 11 rfl) ⟨_, rfl, by decide, rfl⟩ rfl rfl rfl (zcat (Nat.le_of_ble_eq_true rfl)) (Nat.le_of_ble_eq_true rfl) (Nat.le_of_ble_eq_true rfl) (Nat.le_of_ble_eq_true rfl) (Nat.le_of_ble_eq_true rfl) (fun hp7 => ?_)
          refine j_aload_n hC 1 dX3_addResults_24 rfl rfl ?_
          refine j_getq (q := 14) hC dX3_addResults_25 f_X3_21 (zFx_kd hF 11 rfl) rfl 2 rfl (zFx_rf hF 11 2 rfl) ?_
          refine j_aload_n hC 1 dX3_addResults_28 rfl rfl ?_
          refine j_get hC dX3_addResults_29 f_X3_93 (zFx_kd hF 11 rfl) rfl 14 rfl (fun hg8 => ?_)
          refine j_iload_n hC 0 dX3_addResults_32 rfl rfl ?_
          obtain ⟨M9, hy, h⟩ := zb1_ex h
          refine j_callSv hC hE lk_X3_96 dX3_addResults_33 (c_X6_put l hlt g 14 (M6 11 14) r2 hg8 hr2 M6 S hF hy) [zr g 14, .int (zi (M6 11 14)), .int (zi r2)] [] rfl rfl rfl (zcat (Nat.le_of_ble_eq_true rfl)) (Nat.le_of_ble_eq_true rfl) (Nat.le_of_ble_eq_true rfl) (Nat.le_of_ble_eq_true rfl) (Nat.le_of_ble_eq_true rfl) (fun hp10 => ?_)
          refine j_aload_n hC 1 dX3_addResults_36 rfl rfl ?_
          refine j_dup hC dX3_addResults_37 (zr_cat _ _) ?_
          refine j_get hC dX3_addResults_38 f_X3_93 (zFx_kd hF 11 rfl) rfl 14 rfl (fun hg11 => ?_)
          refine j_iconst hC dX3_addResults_41 ?_
          refine j_iadd hC dX3_addResults_42 ?_
          obtain ⟨M12, eM12, h⟩ := zlet_ex h
          refine j_put hC dX3_addResults_43 f_X3_93 pF_X3 (zFx_kd hF 11 rfl) (Or.inl rfl) rfl 14 rfl rfl (inR_w _) eM12 ?_
          obtain ⟨x13, ex13, h⟩ := zlet_ex h
          have hx13 : inR x13 := by rw [ex13]; exact inR_w _
          refine j_iinc hC 3 dX3_addResults_46 rfl ex13 (Nat.le_of_ble_eq_true rfl) rfl ?_
          refine j_goto hC dX3_addResults_49 rfl ?_
          obtain rfl := Option.some.inj h
          refine j_sub [2, 3, 0] rfl ?_
          exact ih2 x13 hx13 M12 hT
    exact main zN v2 hv2 M hl
  refine j_iconst hC dX3_addResults_0 ?_
  refine j_istore_n hC dX3_addResults_1 rfl (Nat.le_of_ble_eq_true rfl) rfl ?_
  refine j_sub [1, 2, 0] rfl ?_
  exact L_2 v1 0 hv1 kR_0 M h
set_option maxHeartbeats 4000000 in
set_option maxRecDepth 100000 in
theorem c_X3_placeOf (l : Launch) (hlt : l.stackTraces = false) (g : zG) (v1 : Int) (hv1 : inR v1) (M : zM) (S : zS) (hF : zFx S) {r : Int} (h : F_X3_placeOf v1 M S = some r) : zMet l g yX3_placeOf cX3_placeOf 2 (some .int) 2 0 0 [zr g 11, .int (zi v1)] M S (.inl (some (.int (zi r)))) M S (inR r) := by
  refine zMet_of (by decide) hlt [(0, zr g 11), (1, .int (zi v1))] rfl (Nat.le_of_ble_eq_true rfl) (fun K hC hE hN => ?_)
  unfold F_X3_placeOf at h
  refine j_aload_n hC 0 dX3_placeOf_0 rfl rfl ?_
  refine j_getq (q := 13) hC dX3_placeOf_1 f_X3_15 (zFx_kd hF 11 rfl) rfl 1 rfl (zFx_rf hF 11 1 rfl) ?_
  refine j_iload_n hC 1 dX3_placeOf_4 rfl rfl ?_
  obtain ⟨r1, hy, h⟩ := zb1_ex h
  refine j_callSi hC hE lk_X3_127 dX3_placeOf_5 (c_X6_at l hlt g 13 v1 hv1 M S hF hy) [zr g 13, .int (zi v1)] [] rfl rfl rfl (zcat (Nat.le_of_ble_eq_true rfl)) (Nat.le_of_ble_eq_true rfl) (Nat.le_of_ble_eq_true rfl) (Nat.le_of_ble_eq_true rfl) (Nat.le_of_ble_eq_true rfl) (fun hp2 => ?_)
  have hr1 := hp2
  refine j_iconst hC dX3_placeOf_8 ?_
  refine j_isub hC dX3_placeOf_9 ?_
  have e1 := Option.some.inj h
  exact j_iret hC hE dX3_placeOf_10 rfl (zn_i _) (by rw [← e1]) rfl rfl (by rw [← e1]; exact (inR_w _)) (Nat.le_of_ble_eq_true rfl) (Nat.le_of_ble_eq_true rfl)
set_option maxHeartbeats 4000000 in
set_option maxRecDepth 100000 in
theorem c_X4_withWord (l : Launch) (hlt : l.stackTraces = false) (g : zG) (v0 : Int) (v1 : Int) (hv0 : inR v0) (hv1 : inR v1) (M : zM) (S : zS) {r : Int} (h : F_X4_withWord v0 v1 = some r) : zMet l g yX4_withWord cX4_withWord 2 (some .int) 1 0 0 [.int (zi v0), .int (zi v1)] M S (.inl (some (.int (zi r)))) M S (inR r) := by
  refine zMet_of (by decide) hlt [(0, .int (zi v0)), (1, .int (zi v1))] rfl (Nat.le_of_ble_eq_true rfl) (fun K hC hE hN => ?_)
  unfold F_X4_withWord at h
  refine j_iload_n hC 1 dX4_withWord_0 rfl rfl ?_
  refine j_bipush hC dX4_withWord_1 rfl ?_
  refine j_ishl hC dX4_withWord_3 ?_
  refine j_iload_n hC 0 dX4_withWord_4 rfl rfl ?_
  refine j_sipush hC dX4_withWord_5 rfl ?_
  refine j_iand hC dX4_withWord_8 ?_
  refine j_ior hC dX4_withWord_9 ?_
  have e1 := Option.some.inj h
  exact j_iret hC hE dX4_withWord_10 (w_id (cR_zor _ _)) (zn_i _) (by rw [← e1]) rfl rfl (by rw [← e1]; exact (cR_zor _ _)) (Nat.le_of_ble_eq_true rfl) (Nat.le_of_ble_eq_true rfl)
set_option maxHeartbeats 4000000 in
set_option maxRecDepth 100000 in
theorem c_X3_numberWords (l : Launch) (hlt : l.stackTraces = false) (g : zG) (M : zM) (S : zS) (hF : zFx S) {M' : zM} (h : F_X3_numberWords M S = some M') : zMet l g yX3_numberWords cX3_numberWords 4 none 3 0 0 [zr g 11, zr g 5] M S (.inl none) M' S (True) := by
  refine zMet_of (by decide) hlt [(0, zr g 11), (1, zr g 5)] rfl (Nat.le_of_ble_eq_true rfl) (fun K hC hE hN => ?_)
  unfold F_X3_numberWords at h
  have J_109 : ∀ (M : zM) (_ : F_X3_numberWords_J109 M S = some M'), zJ K g 0 0 109 4 [] [] M S := by
    intro M h
    unfold F_X3_numberWords_J109 at h
    have e1 := Option.some.inj h
    exact j_vret hC hE dX3_numberWords_109 rfl e1 rfl trivial (Nat.le_of_ble_eq_true rfl) (Nat.le_of_ble_eq_true rfl)
  have L_78 : ∀ (v2 : Int) (hv2 : inR v2) (M : zM) (_ : F_X3_numberWords_L78 v2 M S = some M'), zJ K g 0 0 78 4 [(0, zr g 11), (1, zr g 5), (2, .int (zi v2))] [] M S := by
    intro v2 hv2 M h
    unfold F_X3_numberWords_L78 at h
    obtain ⟨ex78, hl, hd78⟩ := zb1_ex h
    obtain ⟨bd78, ebd⟩ : ∃ f, f = (fun (s : Int × zM) => F_X3_numberWords_B78 s.1 s.2 S) := ⟨_, rfl⟩
    rw [← ebd] at hl
    have main : ∀ (n78 : Nat) (v2 : Int) (hv2 : inR v2) (M : zM) (_ : zloop bd78 n78 (v2, M) = some ex78), zJ K g 0 0 78 4 [(0, zr g 11), (1, zr g 5), (2, .int (zi v2))] [] M S := by
      intro n78
      induction n78 with
      | zero => intro v2 hv2 M hl; exact zloop_0 hl
      | succ n78 ih78 =>
        intro v2 hv2 M hl
        obtain ⟨o, h, hT⟩ := zloop_ex hl
        have h : F_X3_numberWords_B78 v2 M S = some o := by rw [ebd] at h; exact h
        unfold F_X3_numberWords_B78 at h
        refine j_iload_n hC 2 dX3_numberWords_78 rfl rfl ?_
        refine j_aload_n hC 1 dX3_numberWords_79 rfl rfl ?_
        refine j_get hC dX3_numberWords_80 f_X3_58 (zFx_kd hF 5 rfl) rfl 2 rfl (fun hg1 => ?_)
        refine j_icmp_ge hC dX3_numberWords_83 rfl (w_id hv2) (w_id hg1) (fun c2 => ?_) (fun c2 => ?_)
        · have h := zf c2 h
          obtain rfl := Option.some.inj h
          have hx78 := hd78
          rw [← show _ = ex78 from hT] at hx78
          refine j_sub [] rfl ?_
          exact J_109 M hx78
        · have h := zt c2 h
          refine j_aload_n hC 0 dX3_numberWords_86 rfl rfl ?_
          refine j_getq (q := 17) hC dX3_numberWords_87 f_X3_30 (zFx_kd hF 11 rfl) rfl 5 rfl (zFx_rf hF 11 5 rfl) ?_
          refine j_aload_n hC 0 dX3_numberWords_90 rfl rfl ?_
          refine j_aload_n hC 1 dX3_numberWords_91 rfl rfl ?_
          refine j_iload_n hC 2 dX3_numberWords_92 rfl rfl ?_
          obtain ⟨r3, hy, h⟩ := zb1_ex h
          refine j_callVi (ci := 2) hC hE lk_X3_62 dX3_numberWords_93 (c_X2_axiom l hlt g v2 hv2 M S hF hy) [.int (zi v2)] [zr g 11, zr g 17] (zFx_kd hF 5 rfl) ⟨_, rfl, by decide, rfl⟩ rfl rfl rfl (zcat (Nat.le_of_ble_eq_true rfl)) (Nat.le_of_ble_eq_true rfl) (Nat.le_of_ble_eq_true rfl) (Nat.le_of_ble_eq_true rfl) (Nat.le_of_ble_eq_true rfl) (fun hp4 => ?_)
          have hr3 := hp4
          obtain ⟨r5, hy, h⟩ := zb1_ex h
          refine j_callVi (ci := 3) hC hE lk_X3_139 dX3_numberWords_96 (c_X3_placeOf l hlt g r3 hr3 M S hF hy) [.int (zi r3)] [zr g 17] (zFx_kd hF 11 rfl) ⟨_, rfl, by decide, rfl⟩ rfl rfl rfl (zcat (Nat.le_of_ble_eq_true rfl)) (Nat.le_of_ble_eq_true rfl) (Nat.le_of_ble_eq_true rfl) (Nat.le_of_ble_eq_true rfl) (Nat.le_of_ble_eq_true rfl) (fun hp6 => ?_)
          have hr5 := hp6
          refine j_iconst hC dX3_numberWords_99 ?_
          obtain ⟨M7, hy, h⟩ := zb1_ex h
          refine j_callSv hC hE lk_X3_96 dX3_numberWords_100 (c_X6_put l hlt g 17 r5 1 hr5 kR_1 M S hF hy) [zr g 17, .int (zi r5), .int (zi 1)] [] rfl rfl rfl (zcat (Nat.le_of_ble_eq_true rfl)) (Nat.le_of_ble_eq_true rfl) (Nat.le_of_ble_eq_true rfl) (Nat.le_of_ble_eq_true rfl) (Nat.le_of_ble_eq_true rfl) (fun hp8 => ?_)
          obtain ⟨x9, ex9, h⟩ := zlet_ex h
          have hx9 : inR x9 := by rw [ex9]; exact inR_w _
          refine j_iinc hC 2 dX3_numberWords_103 rfl ex9 (Nat.le_of_ble_eq_true rfl) rfl ?_
          refine j_goto hC dX3_numberWords_106 rfl ?_
          obtain rfl := Option.some.inj h
          refine j_sub [1, 2, 0] rfl ?_
          exact ih78 x9 hx9 M7 hT
    exact main zN v2 hv2 M hl
  have J_76 : ∀ (M : zM) (_ : F_X3_numberWords_J76 M S = some M'), zJ K g 0 0 76 4 [(0, zr g 11), (1, zr g 5)] [] M S := by
    intro M h
    unfold F_X3_numberWords_J76 at h
    refine j_iconst hC dX3_numberWords_76 ?_
    refine j_istore_n hC dX3_numberWords_77 rfl (Nat.le_of_ble_eq_true rfl) rfl ?_
    refine j_sub [1, 2, 0] rfl ?_
    exact L_78 0 kR_0 M h
  have L_33 : ∀ (v2 : Int) (hv2 : inR v2) (M : zM) (_ : F_X3_numberWords_L33 v2 M S = some M'), zJ K g 0 0 33 4 [(0, zr g 11), (1, zr g 5), (2, .int (zi v2))] [] M S := by
    intro v2 hv2 M h
    unfold F_X3_numberWords_L33 at h
    obtain ⟨ex33, hl, hd33⟩ := zb1_ex h
    obtain ⟨bd33, ebd⟩ : ∃ f, f = (fun (s : Int × zM) => F_X3_numberWords_B33 s.1 s.2 S) := ⟨_, rfl⟩
    rw [← ebd] at hl
    have main : ∀ (n33 : Nat) (v2 : Int) (hv2 : inR v2) (M : zM) (_ : zloop bd33 n33 (v2, M) = some ex33), zJ K g 0 0 33 4 [(0, zr g 11), (1, zr g 5), (2, .int (zi v2))] [] M S := by
      intro n33
      induction n33 with
      | zero => intro v2 hv2 M hl; exact zloop_0 hl
      | succ n33 ih33 =>
        intro v2 hv2 M hl
        obtain ⟨o, h, hT⟩ := zloop_ex hl
        have h : F_X3_numberWords_B33 v2 M S = some o := by rw [ebd] at h; exact h
        unfold F_X3_numberWords_B33 at h
        refine j_iload_n hC 2 dX3_numberWords_33 rfl rfl ?_
        refine j_aload_n hC 0 dX3_numberWords_34 rfl rfl ?_
        refine j_get hC dX3_numberWords_35 f_X3_93 (zFx_kd hF 11 rfl) rfl 14 rfl (fun hg10 => ?_)
        refine j_icmp_ge hC dX3_numberWords_38 rfl (w_id hv2) (w_id hg10) (fun c11 => ?_) (fun c11 => ?_)
        · have h := zf c11 h
          obtain rfl := Option.some.inj h
          have hx33 := hd33
          rw [← show _ = ex33 from hT] at hx33
          refine j_sub [0, 1] rfl ?_
          exact J_76 M hx33
        · have h := zt c11 h
          refine j_aload_n hC 0 dX3_numberWords_41 rfl rfl ?_
          refine j_getq (q := 14) hC dX3_numberWords_42 f_X3_21 (zFx_kd hF 11 rfl) rfl 2 rfl (zFx_rf hF 11 2 rfl) ?_
          refine j_iload_n hC 2 dX3_numberWords_45 rfl rfl ?_
          obtain ⟨r12, hy, h⟩ := zb1_ex h
          refine j_callSi hC hE lk_X3_127 dX3_numberWords_46 (c_X6_at l hlt g 14 v2 hv2 M S hF hy) [zr g 14, .int (zi v2)] [] rfl rfl rfl (zcat (Nat.le_of_ble_eq_true rfl)) (Nat.le_of_ble_eq_true rfl) (Nat.le_of_ble_eq_true rfl) (Nat.le_of_ble_eq_true rfl) (Nat.le_of_ble_eq_true rfl) (fun hp13 => ?_)
          have hr12 := hp13
          refine j_istore_n hC dX3_numberWords_49 rfl (Nat.le_of_ble_eq_true rfl) rfl ?_
          refine j_aload_n hC 1 dX3_numberWords_50 rfl rfl ?_
          refine j_getq (q := 14) hC dX3_numberWords_51 f_X3_21 (zFx_kd hF 11 rfl) rfl 2 rfl (zFx_rf hF 11 2 rfl) ?_
          refine j_iload_n hC 3 dX3_numberWords_54 rfl rfl ?_
          refine j_iload_n hC 0 dX3_numberWords_55 rfl rfl ?_
          refine j_aload_n hC 1 dX3_numberWords_56 rfl rfl ?_
          refine j_iload_n hC 0 dX3_numberWords_57 rfl rfl ?_
          obtain ⟨r14, hy, h⟩ := zb1_ex h
          refine j_callSi hC hE lk_X3_134 dX3_numberWords_58 (c_X4_word l hlt g r12 hr12 M S hy) [.int (zi r12)] [zr g 11, .int (zi r12), .int (zi v2), zr g 14] rfl rfl rfl (zcat (Nat.le_of_ble_eq_true rfl)) (Nat.le_of_ble_eq_true rfl) (Nat.le_of_ble_eq_true rfl) (Nat.le_of_ble_eq_true rfl) (Nat.le_of_ble_eq_true rfl) (fun hp15 => ?_)
          have hr14 := hp15
          obtain ⟨r16, hy, h⟩ := zb1_ex h
          refine j_callVi (ci := 3) hC hE lk_X3_139 dX3_numberWords_61 (c_X3_placeOf l hlt g r14 hr14 M S hF hy) [.int (zi r14)] [.int (zi r12), .int (zi v2), zr g 14] (zFx_kd hF 11 rfl) ⟨_, rfl, by decide, rfl⟩ rfl rfl rfl (zcat (Nat.le_of_ble_eq_true rfl)) (Nat.le_of_ble_eq_true rfl) (Nat.le_of_ble_eq_true rfl) (Nat.le_of_ble_eq_true rfl) (Nat.le_of_ble_eq_true rfl) (fun hp17 => ?_)
          have hr16 := hp17
          obtain ⟨r18, hy, h⟩ := zb1_ex h
          refine j_callSi hC hE lk_X3_142 dX3_numberWords_64 (c_X4_withWord l hlt g r12 r16 hr12 hr16 M S hy) [.int (zi r12), .int (zi r16)] [.int (zi v2), zr g 14] rfl rfl rfl (zcat (Nat.le_of_ble_eq_true rfl)) (Nat.le_of_ble_eq_true rfl) (Nat.le_of_ble_eq_true rfl) (Nat.le_of_ble_eq_true rfl) (Nat.le_of_ble_eq_true rfl) (fun hp19 => ?_)
          have hr18 := hp19
          obtain ⟨M20, hy, h⟩ := zb1_ex h
          refine j_callSv hC hE lk_X3_96 dX3_numberWords_67 (c_X6_put l hlt g 14 v2 r18 hv2 hr18 M S hF hy) [zr g 14, .int (zi v2), .int (zi r18)] [] rfl rfl rfl (zcat (Nat.le_of_ble_eq_true rfl)) (Nat.le_of_ble_eq_true rfl) (Nat.le_of_ble_eq_true rfl) (Nat.le_of_ble_eq_true rfl) (Nat.le_of_ble_eq_true rfl) (fun hp21 => ?_)
          obtain ⟨x22, ex22, h⟩ := zlet_ex h
          have hx22 : inR x22 := by rw [ex22]; exact inR_w _
          refine j_iinc hC 3 dX3_numberWords_70 rfl ex22 (Nat.le_of_ble_eq_true rfl) rfl ?_
          refine j_goto hC dX3_numberWords_73 rfl ?_
          obtain rfl := Option.some.inj h
          refine j_sub [2, 3, 0] rfl ?_
          exact ih33 x22 hx22 M20 hT
    exact main zN v2 hv2 M hl
  have J_31 : ∀ (M : zM) (_ : F_X3_numberWords_J31 M S = some M'), zJ K g 0 0 31 4 [(0, zr g 11), (1, zr g 5)] [] M S := by
    intro M h
    unfold F_X3_numberWords_J31 at h
    refine j_iconst hC dX3_numberWords_31 ?_
    refine j_istore_n hC dX3_numberWords_32 rfl (Nat.le_of_ble_eq_true rfl) rfl ?_
    refine j_sub [1, 2, 0] rfl ?_
    exact L_33 0 kR_0 M h
  have L_2 : ∀ (v2 : Int) (hv2 : inR v2) (M : zM) (_ : F_X3_numberWords_L2 v2 M S = some M'), zJ K g 0 0 2 4 [(0, zr g 11), (1, zr g 5), (2, .int (zi v2))] [] M S := by
    intro v2 hv2 M h
    unfold F_X3_numberWords_L2 at h
    obtain ⟨ex2, hl, hd2⟩ := zb1_ex h
    obtain ⟨bd2, ebd⟩ : ∃ f, f = (fun (s : Int × zM) => F_X3_numberWords_B2 s.1 s.2 S) := ⟨_, rfl⟩
    rw [← ebd] at hl
    have main : ∀ (n2 : Nat) (v2 : Int) (hv2 : inR v2) (M : zM) (_ : zloop bd2 n2 (v2, M) = some ex2), zJ K g 0 0 2 4 [(0, zr g 11), (1, zr g 5), (2, .int (zi v2))] [] M S := by
      intro n2
      induction n2 with
      | zero => intro v2 hv2 M hl; exact zloop_0 hl
      | succ n2 ih2 =>
        intro v2 hv2 M hl
        obtain ⟨o, h, hT⟩ := zloop_ex hl
        have h : F_X3_numberWords_B2 v2 M S = some o := by rw [ebd] at h; exact h
        unfold F_X3_numberWords_B2 at h
        refine j_iload_n hC 2 dX3_numberWords_2 rfl rfl ?_
        refine j_aload_n hC 0 dX3_numberWords_3 rfl rfl ?_
        refine j_get hC dX3_numberWords_4 f_X3_76 (zFx_kd hF 11 rfl) rfl 13 rfl (fun hg23 => ?_)
        refine j_icmp_ge hC dX3_numberWords_7 rfl (w_id hv2) (w_id hg23) (fun c24 => ?_) (fun c24 => ?_)
        · have h := zf c24 h
          obtain rfl := Option.some.inj h
          have hx2 := hd2
          rw [← show _ = ex2 from hT] at hx2
          refine j_sub [0, 1] rfl ?_
          exact J_31 M hx2
        · have h := zt c24 h
          refine j_aload_n hC 0 dX3_numberWords_10 rfl rfl ?_
          refine j_getq (q := 13) hC dX3_numberWords_11 f_X3_15 (zFx_kd hF 11 rfl) rfl 1 rfl (zFx_rf hF 11 1 rfl) ?_
          refine j_aload_n hC 0 dX3_numberWords_14 rfl rfl ?_
          refine j_iload_n hC 2 dX3_numberWords_15 rfl rfl ?_
          obtain ⟨r25, hy, h⟩ := zb1_ex h
          refine j_callVi (ci := 3) hC hE lk_X3_83 dX3_numberWords_16 (c_X3_wordAt l hlt g v2 hv2 M S hF hy) [.int (zi v2)] [zr g 13] (zFx_kd hF 11 rfl) ⟨_, rfl, by decide, rfl⟩ rfl rfl rfl (zcat (Nat.le_of_ble_eq_true rfl)) (Nat.le_of_ble_eq_true rfl) (Nat.le_of_ble_eq_true rfl) (Nat.le_of_ble_eq_true rfl) (Nat.le_of_ble_eq_true rfl) (fun hp26 => ?_)
          have hr25 := hp26
          refine j_iload_n hC 2 dX3_numberWords_19 rfl rfl ?_
          refine j_iconst hC dX3_numberWords_20 ?_
          refine j_iadd hC dX3_numberWords_21 ?_
          obtain ⟨M27, hy, h⟩ := zb1_ex h
          refine j_callSv hC hE lk_X3_96 dX3_numberWords_22 (c_X6_put l hlt g 13 r25 (w (v2 + 1)) hr25 (inR_w _) M S hF hy) [zr g 13, .int (zi r25), .int (zi (v2 + 1))] [] rfl (by simp only [zi_w, zl_wl]) rfl (zcat (Nat.le_of_ble_eq_true rfl)) (Nat.le_of_ble_eq_true rfl) (Nat.le_of_ble_eq_true rfl) (Nat.le_of_ble_eq_true rfl) (Nat.le_of_ble_eq_true rfl) (fun hp28 => ?_)
          obtain ⟨x29, ex29, h⟩ := zlet_ex h
          have hx29 : inR x29 := by rw [ex29]; exact inR_w _
          refine j_iinc hC 2 dX3_numberWords_25 rfl ex29 (Nat.le_of_ble_eq_true rfl) rfl ?_
          refine j_goto hC dX3_numberWords_28 rfl ?_
          obtain rfl := Option.some.inj h
          refine j_sub [1, 2, 0] rfl ?_
          exact ih2 x29 hx29 M27 hT
    exact main zN v2 hv2 M hl
  refine j_iconst hC dX3_numberWords_0 ?_
  refine j_istore_n hC dX3_numberWords_1 rfl (Nat.le_of_ble_eq_true rfl) rfl ?_
  refine j_sub [1, 2, 0] rfl ?_
  exact L_2 0 kR_0 M h
set_option maxHeartbeats 4000000 in
set_option maxRecDepth 100000 in
theorem c_X3_countPaths (l : Launch) (hlt : l.stackTraces = false) (g : zG) (M : zM) (S : zS) (hF : zFx S) {M' : zM} (h : F_X3_countPaths M S = some M') : zMet l g yX3_countPaths cX3_countPaths 4 none 2 0 0 [zr g 11] M S (.inl none) M' S (True) := by
  refine zMet_of (by decide) hlt [(0, zr g 11)] rfl (Nat.le_of_ble_eq_true rfl) (fun K hC hE hN => ?_)
  unfold F_X3_countPaths at h
  have J_115 : ∀ (M : zM) (_ : F_X3_countPaths_J115 M S = some M'), zJ K g 0 0 115 4 [] [] M S := by
    intro M h
    unfold F_X3_countPaths_J115 at h
    have e1 := Option.some.inj h
    exact j_vret hC hE dX3_countPaths_115 rfl e1 rfl trivial (Nat.le_of_ble_eq_true rfl) (Nat.le_of_ble_eq_true rfl)
  have L_35 : ∀ (v1 : Int) (hv1 : inR v1) (M : zM) (_ : F_X3_countPaths_L35 v1 M S = some M'), zJ K g 0 0 35 4 [(0, zr g 11), (1, .int (zi v1))] [] M S := by
    intro v1 hv1 M h
    unfold F_X3_countPaths_L35 at h
    obtain ⟨ex35, hl, hd35⟩ := zb1_ex h
    obtain ⟨bd35, ebd⟩ : ∃ f, f = (fun (s : Int × zM) => F_X3_countPaths_B35 s.1 s.2 S) := ⟨_, rfl⟩
    rw [← ebd] at hl
    have main : ∀ (n35 : Nat) (v1 : Int) (hv1 : inR v1) (M : zM) (_ : zloop bd35 n35 (v1, M) = some ex35), zJ K g 0 0 35 4 [(0, zr g 11), (1, .int (zi v1))] [] M S := by
      intro n35
      induction n35 with
      | zero => intro v1 hv1 M hl; exact zloop_0 hl
      | succ n35 ih35 =>
        have J_109 : ∀ (v1 : Int) (hv1 : inR v1) (M : zM) (o : _) (_ : F_X3_countPaths_J109 v1 M S = some o), zAft (bd35) n35 ex35 o → zJ K g 0 0 109 4 [(0, zr g 11), (1, .int (zi v1))] [] M S := by
          intro v1 hv1 M o h hT
          unfold F_X3_countPaths_J109 at h
          obtain ⟨x1, ex1, h⟩ := zlet_ex h
          have hx1 : inR x1 := by rw [ex1]; exact inR_w _
          refine j_iinc hC 1 dX3_countPaths_109 rfl ex1 (Nat.le_of_ble_eq_true rfl) rfl ?_
          refine j_goto hC dX3_countPaths_112 rfl ?_
          obtain rfl := Option.some.inj h
          refine j_sub [1, 0] rfl ?_
          exact ih35 x1 hx1 M hT
        have L_52 : ∀ (v1 : Int) (v2 : Int) (hv1 : inR v1) (hv2 : inR v2) (M : zM) (o : _) (_ : F_X3_countPaths_L52 v1 v2 M S = some o), zAft (bd35) n35 ex35 o → zJ K g 0 0 52 4 [(0, zr g 11), (1, .int (zi v1)), (2, .int (zi v2))] [] M S := by
          intro v1 v2 hv1 hv2 M oh52 h hT52
          unfold F_X3_countPaths_L52 at h
          obtain ⟨ex52, hl, hd52⟩ := zb1_ex h
          obtain ⟨bd52, ebd⟩ : ∃ f, f = (fun (s : Int × zM) => F_X3_countPaths_B52 v1 s.1 s.2 S) := ⟨_, rfl⟩
          rw [← ebd] at hl
          have main : ∀ (n52 : Nat) (v2 : Int) (hv2 : inR v2) (M : zM) (_ : zloop bd52 n52 (v2, M) = some ex52), zJ K g 0 0 52 4 [(0, zr g 11), (1, .int (zi v1)), (2, .int (zi v2))] [] M S := by
            intro n52
            induction n52 with
            | zero => intro v2 hv2 M hl; exact zloop_0 hl
            | succ n52 ih52 =>
              intro v2 hv2 M hl
              obtain ⟨o, h, hT⟩ := zloop_ex hl
              have h : F_X3_countPaths_B52 v1 v2 M S = some o := by rw [ebd] at h; exact h
              unfold F_X3_countPaths_B52 at h
              refine j_iload_n hC 2 dX3_countPaths_52 rfl rfl ?_
              refine j_aload_n hC 0 dX3_countPaths_53 rfl rfl ?_
              refine j_getq (q := 15) hC dX3_countPaths_54 f_X3_24 (zFx_kd hF 11 rfl) rfl 3 rfl (zFx_rf hF 11 3 rfl) ?_
              refine j_iload_n hC 1 dX3_countPaths_57 rfl rfl ?_
              refine j_iconst hC dX3_countPaths_58 ?_
              refine j_iadd hC dX3_countPaths_59 ?_
              obtain ⟨r2, hy, h⟩ := zb1_ex h
              refine j_callSi hC hE lk_X3_127 dX3_countPaths_60 (c_X6_at l hlt g 15 (w (v1 + 1)) (inR_w _) M S hF hy) [zr g 15, .int (zi (v1 + 1))] [.int (zi v2)] rfl (by simp only [zi_w, zl_wl]) rfl (zcat (Nat.le_of_ble_eq_true rfl)) (Nat.le_of_ble_eq_true rfl) (Nat.le_of_ble_eq_true rfl) (Nat.le_of_ble_eq_true rfl) (Nat.le_of_ble_eq_true rfl) (fun hp3 => ?_)
              have hr2 := hp3
              refine j_icmp_ge hC dX3_countPaths_63 rfl (w_id hv2) (w_id hr2) (fun c4 => ?_) (fun c4 => ?_)
              · have h := zf c4 h
                obtain rfl := Option.some.inj h
                have hx52 := hd52
                rw [← show _ = ex52 from hT] at hx52
                refine j_sub [0, 1] rfl ?_
                exact J_109 v1 hv1 M _ hx52 hT52
              · have h := zt c4 h
                refine j_aload_n hC 0 dX3_countPaths_66 rfl rfl ?_
                refine j_getq (q := 14) hC dX3_countPaths_67 f_X3_21 (zFx_kd hF 11 rfl) rfl 2 rfl (zFx_rf hF 11 2 rfl) ?_
                refine j_iload_n hC 2 dX3_countPaths_70 rfl rfl ?_
                obtain ⟨r5, hy, h⟩ := zb1_ex h
                refine j_callSi hC hE lk_X3_127 dX3_countPaths_71 (c_X6_at l hlt g 14 v2 hv2 M S hF hy) [zr g 14, .int (zi v2)] [] rfl rfl rfl (zcat (Nat.le_of_ble_eq_true rfl)) (Nat.le_of_ble_eq_true rfl) (Nat.le_of_ble_eq_true rfl) (Nat.le_of_ble_eq_true rfl) (Nat.le_of_ble_eq_true rfl) (fun hp6 => ?_)
                have hr5 := hp6
                obtain ⟨r7, hy, h⟩ := zb1_ex h
                refine j_callSi hC hE lk_X3_134 dX3_countPaths_74 (c_X4_word l hlt g r5 hr5 M S hy) [.int (zi r5)] [] rfl rfl rfl (zcat (Nat.le_of_ble_eq_true rfl)) (Nat.le_of_ble_eq_true rfl) (Nat.le_of_ble_eq_true rfl) (Nat.le_of_ble_eq_true rfl) (Nat.le_of_ble_eq_true rfl) (fun hp8 => ?_)
                have hr7 := hp8
                refine j_istore_n hC dX3_countPaths_77 rfl (Nat.le_of_ble_eq_true rfl) rfl ?_
                refine j_aload_n hC 1 dX3_countPaths_78 rfl rfl ?_
                refine j_getq (q := 23) hC dX3_countPaths_79 f_X3_48 (zFx_kd hF 11 rfl) rfl 11 rfl (zFx_rf hF 11 11 rfl) ?_
                refine j_iload_n hC 0 dX3_countPaths_82 rfl rfl ?_
                refine j_aload_n hC 1 dX3_countPaths_83 rfl rfl ?_
                refine j_getq (q := 23) hC dX3_countPaths_84 f_X3_48 (zFx_kd hF 11 rfl) rfl 11 rfl (zFx_rf hF 11 11 rfl) ?_
                refine j_iload_n hC 0 dX3_countPaths_87 rfl rfl ?_
                obtain ⟨r9, hy, h⟩ := zb1_ex h
                refine j_callSl hC hE lk_X3_149 dX3_countPaths_88 (c_X6_at_ l hlt g 23 r7 hr7 M S hF hy) [zr g 23, .int (zi r7)] [.int (zi r7), zr g 23] rfl rfl rfl (zcat (Nat.le_of_ble_eq_true rfl)) (Nat.le_of_ble_eq_true rfl) (Nat.le_of_ble_eq_true rfl) (Nat.le_of_ble_eq_true rfl) (Nat.le_of_ble_eq_true rfl) (fun hp10 => ?_)
                have hr9 := hp10
                refine j_aload_n hC 1 dX3_countPaths_91 rfl rfl ?_
                refine j_getq (q := 23) hC dX3_countPaths_92 f_X3_48 (zFx_kd hF 11 rfl) rfl 11 rfl (zFx_rf hF 11 11 rfl) ?_
                refine j_iload_n hC 2 dX3_countPaths_95 rfl rfl ?_
                obtain ⟨r11, hy, h⟩ := zb1_ex h
                refine j_callSl hC hE lk_X3_149 dX3_countPaths_96 (c_X6_at_ l hlt g 23 v1 hv1 M S hF hy) [zr g 23, .int (zi v1)] [.long (zl r9), .int (zi r7), zr g 23] rfl rfl rfl (zcat (Nat.le_of_ble_eq_true rfl)) (Nat.le_of_ble_eq_true rfl) (Nat.le_of_ble_eq_true rfl) (Nat.le_of_ble_eq_true rfl) (Nat.le_of_ble_eq_true rfl) (fun hp12 => ?_)
                have hr11 := hp12
                refine j_ladd hC dX3_countPaths_99 ?_
                obtain ⟨M13, hy, h⟩ := zb1_ex h
                refine j_callSv hC hE lk_X3_146 dX3_countPaths_100 (c_X6_put_ l hlt g 23 r7 (zladd r9 r11) hr7 (cL_zladd _ _) M S hF hy) [zr g 23, .int (zi r7), .long (zl (zladd r9 r11))] [] rfl rfl rfl (zcat (Nat.le_of_ble_eq_true rfl)) (Nat.le_of_ble_eq_true rfl) (Nat.le_of_ble_eq_true rfl) (Nat.le_of_ble_eq_true rfl) (Nat.le_of_ble_eq_true rfl) (fun hp14 => ?_)
                obtain ⟨x15, ex15, h⟩ := zlet_ex h
                have hx15 : inR x15 := by rw [ex15]; exact inR_w _
                refine j_iinc hC 3 dX3_countPaths_103 rfl ex15 (Nat.le_of_ble_eq_true rfl) rfl ?_
                refine j_goto hC dX3_countPaths_106 rfl ?_
                obtain rfl := Option.some.inj h
                refine j_sub [2, 3, 0] rfl ?_
                exact ih52 x15 hx15 M13 hT
          exact main zN v2 hv2 M hl
        intro v1 hv1 M hl
        obtain ⟨o, h, hT⟩ := zloop_ex hl
        have h : F_X3_countPaths_B35 v1 M S = some o := by rw [ebd] at h; exact h
        unfold F_X3_countPaths_B35 at h
        refine j_iload_n hC 1 dX3_countPaths_35 rfl rfl ?_
        refine j_aload_n hC 0 dX3_countPaths_36 rfl rfl ?_
        refine j_get hC dX3_countPaths_37 f_X3_76 (zFx_kd hF 11 rfl) rfl 13 rfl (fun hg16 => ?_)
        refine j_icmp_ge hC dX3_countPaths_40 rfl (w_id hv1) (w_id hg16) (fun c17 => ?_) (fun c17 => ?_)
        · have h := zf c17 h
          obtain rfl := Option.some.inj h
          have hx35 := hd35
          rw [← show _ = ex35 from hT] at hx35
          refine j_sub [] rfl ?_
          exact J_115 M hx35
        · have h := zt c17 h
          refine j_aload_n hC 0 dX3_countPaths_43 rfl rfl ?_
          refine j_getq (q := 15) hC dX3_countPaths_44 f_X3_24 (zFx_kd hF 11 rfl) rfl 3 rfl (zFx_rf hF 11 3 rfl) ?_
          refine j_iload_n hC 1 dX3_countPaths_47 rfl rfl ?_
          obtain ⟨r18, hy, h⟩ := zb1_ex h
          refine j_callSi hC hE lk_X3_127 dX3_countPaths_48 (c_X6_at l hlt g 15 v1 hv1 M S hF hy) [zr g 15, .int (zi v1)] [] rfl rfl rfl (zcat (Nat.le_of_ble_eq_true rfl)) (Nat.le_of_ble_eq_true rfl) (Nat.le_of_ble_eq_true rfl) (Nat.le_of_ble_eq_true rfl) (Nat.le_of_ble_eq_true rfl) (fun hp19 => ?_)
          have hr18 := hp19
          refine j_istore_n hC dX3_countPaths_51 rfl (Nat.le_of_ble_eq_true rfl) rfl ?_
          refine j_sub [1, 2, 0] rfl ?_
          exact L_52 v1 r18 hv1 hr18 M _ h hT
    exact main zN v1 hv1 M hl
  have J_33 : ∀ (M : zM) (_ : F_X3_countPaths_J33 M S = some M'), zJ K g 0 0 33 4 [(0, zr g 11)] [] M S := by
    intro M h
    unfold F_X3_countPaths_J33 at h
    refine j_iconst hC dX3_countPaths_33 ?_
    refine j_istore_n hC dX3_countPaths_34 rfl (Nat.le_of_ble_eq_true rfl) rfl ?_
    refine j_sub [1, 0] rfl ?_
    exact L_35 0 kR_0 M h
  have L_2 : ∀ (v1 : Int) (hv1 : inR v1) (M : zM) (_ : F_X3_countPaths_L2 v1 M S = some M'), zJ K g 0 0 2 4 [(0, zr g 11), (1, .int (zi v1))] [] M S := by
    intro v1 hv1 M h
    unfold F_X3_countPaths_L2 at h
    obtain ⟨ex2, hl, hd2⟩ := zb1_ex h
    obtain ⟨bd2, ebd⟩ : ∃ f, f = (fun (s : Int × zM) => F_X3_countPaths_B2 s.1 s.2 S) := ⟨_, rfl⟩
    rw [← ebd] at hl
    have main : ∀ (n2 : Nat) (v1 : Int) (hv1 : inR v1) (M : zM) (_ : zloop bd2 n2 (v1, M) = some ex2), zJ K g 0 0 2 4 [(0, zr g 11), (1, .int (zi v1))] [] M S := by
      intro n2
      induction n2 with
      | zero => intro v1 hv1 M hl; exact zloop_0 hl
      | succ n2 ih2 =>
        intro v1 hv1 M hl
        obtain ⟨o, h, hT⟩ := zloop_ex hl
        have h : F_X3_countPaths_B2 v1 M S = some o := by rw [ebd] at h; exact h
        unfold F_X3_countPaths_B2 at h
        refine j_iload_n hC 1 dX3_countPaths_2 rfl rfl ?_
        refine j_aload_n hC 0 dX3_countPaths_3 rfl rfl ?_
        refine j_get hC dX3_countPaths_4 f_X3_76 (zFx_kd hF 11 rfl) rfl 13 rfl (fun hg20 => ?_)
        refine j_icmp_ge hC dX3_countPaths_7 rfl (w_id hv1) (w_id hg20) (fun c21 => ?_) (fun c21 => ?_)
        · have h := zf c21 h
          obtain rfl := Option.some.inj h
          have hx2 := hd2
          rw [← show _ = ex2 from hT] at hx2
          refine j_sub [0] rfl ?_
          exact J_33 M hx2
        · have h := zt c21 h
          refine j_aload_n hC 0 dX3_countPaths_10 rfl rfl ?_
          refine j_getq (q := 23) hC dX3_countPaths_11 f_X3_48 (zFx_kd hF 11 rfl) rfl 11 rfl (zFx_rf hF 11 11 rfl) ?_
          refine j_iload_n hC 1 dX3_countPaths_14 rfl rfl ?_
          refine j_aload_n hC 0 dX3_countPaths_15 rfl rfl ?_
          refine j_getq (q := 17) hC dX3_countPaths_16 f_X3_30 (zFx_kd hF 11 rfl) rfl 5 rfl (zFx_rf hF 11 5 rfl) ?_
          refine j_iload_n hC 1 dX3_countPaths_19 rfl rfl ?_
          obtain ⟨r22, hy, h⟩ := zb1_ex h
          refine j_callSi hC hE lk_X3_127 dX3_countPaths_20 (c_X6_at l hlt g 17 v1 hv1 M S hF hy) [zr g 17, .int (zi v1)] [.int (zi v1), zr g 23] rfl rfl rfl (zcat (Nat.le_of_ble_eq_true rfl)) (Nat.le_of_ble_eq_true rfl) (Nat.le_of_ble_eq_true rfl) (Nat.le_of_ble_eq_true rfl) (Nat.le_of_ble_eq_true rfl) (fun hp23 => ?_)
          have hr22 := hp23
          refine j_i2l hC dX3_countPaths_23 (w_id hr22) ?_
          obtain ⟨M24, hy, h⟩ := zb1_ex h
          refine j_callSv hC hE lk_X3_146 dX3_countPaths_24 (c_X6_put_ l hlt g 23 v1 r22 hv1 (inL_R hr22) M S hF hy) [zr g 23, .int (zi v1), .long (zl r22)] [] rfl rfl rfl (zcat (Nat.le_of_ble_eq_true rfl)) (Nat.le_of_ble_eq_true rfl) (Nat.le_of_ble_eq_true rfl) (Nat.le_of_ble_eq_true rfl) (Nat.le_of_ble_eq_true rfl) (fun hp25 => ?_)
          obtain ⟨x26, ex26, h⟩ := zlet_ex h
          have hx26 : inR x26 := by rw [ex26]; exact inR_w _
          refine j_iinc hC 1 dX3_countPaths_27 rfl ex26 (Nat.le_of_ble_eq_true rfl) rfl ?_
          refine j_goto hC dX3_countPaths_30 rfl ?_
          obtain rfl := Option.some.inj h
          refine j_sub [1, 0] rfl ?_
          exact ih2 x26 hx26 M24 hT
    exact main zN v1 hv1 M hl
  refine j_iconst hC dX3_countPaths_0 ?_
  refine j_istore_n hC dX3_countPaths_1 rfl (Nat.le_of_ble_eq_true rfl) rfl ?_
  refine j_sub [1, 0] rfl ?_
  exact L_2 0 kR_0 M h
set_option maxHeartbeats 4000000 in
set_option maxRecDepth 100000 in
theorem c_X4_context (l : Launch) (hlt : l.stackTraces = false) (g : zG) (v0 : Int) (hv0 : inR v0) (M : zM) (S : zS) {r : Int} (h : F_X4_context v0 = some r) : zMet l g yX4_context cX4_context 1 (some .int) 1 0 0 [.int (zi v0)] M S (.inl (some (.int (zi r)))) M S (inR r) := by
  refine zMet_of (by decide) hlt [(0, .int (zi v0))] rfl (Nat.le_of_ble_eq_true rfl) (fun K hC hE hN => ?_)
  unfold F_X4_context at h
  refine j_iload_n hC 0 dX4_context_0 rfl rfl ?_
  refine j_bipush hC dX4_context_1 rfl ?_
  refine j_ishr hC dX4_context_3 ?_
  refine j_bipush hC dX4_context_4 rfl ?_
  refine j_iand hC dX4_context_6 ?_
  have e1 := Option.some.inj h
  exact j_iret hC hE dX4_context_7 (w_id (cR_zand _ _)) (zn_i _) (by rw [← e1]) rfl rfl (by rw [← e1]; exact (cR_zand _ _)) (Nat.le_of_ble_eq_true rfl) (Nat.le_of_ble_eq_true rfl)
set_option maxHeartbeats 4000000 in
set_option maxRecDepth 100000 in
theorem c_X3_findFollowers (l : Launch) (hlt : l.stackTraces = false) (g : zG) (M : zM) (S : zS) (hF : zFx S) {M' : zM} (h : F_X3_findFollowers M S = some M') : zMet l g yX3_findFollowers cX3_findFollowers 6 none 2 0 0 [zr g 11] M S (.inl none) M' S (True) := by
  refine zMet_of (by decide) hlt [(0, zr g 11)] rfl (Nat.le_of_ble_eq_true rfl) (fun K hC hE hN => ?_)
  unfold F_X3_findFollowers at h
  have J_158 : ∀ (M : zM) (_ : F_X3_findFollowers_J158 M S = some M'), zJ K g 0 0 158 6 [] [] M S := by
    intro M h
    unfold F_X3_findFollowers_J158 at h
    have e1 := Option.some.inj h
    exact j_vret hC hE dX3_findFollowers_158 rfl e1 rfl trivial (Nat.le_of_ble_eq_true rfl) (Nat.le_of_ble_eq_true rfl)
  have L_10 : ∀ (v1 : Int) (hv1 : inR v1) (M : zM) (_ : F_X3_findFollowers_L10 v1 M S = some M'), zJ K g 0 0 10 6 [(0, zr g 11), (1, .int (zi v1))] [] M S := by
    intro v1 hv1 M h
    unfold F_X3_findFollowers_L10 at h
    obtain ⟨ex10, hl, hd10⟩ := zb1_ex h
    obtain ⟨bd10, ebd⟩ : ∃ f, f = (fun (s : Int × zM) => F_X3_findFollowers_B10 s.1 s.2 S) := ⟨_, rfl⟩
    rw [← ebd] at hl
    have main : ∀ (n10 : Nat) (v1 : Int) (hv1 : inR v1) (M : zM) (_ : zloop bd10 n10 (v1, M) = some ex10), zJ K g 0 0 10 6 [(0, zr g 11), (1, .int (zi v1))] [] M S := by
      intro n10
      induction n10 with
      | zero => intro v1 hv1 M hl; exact zloop_0 hl
      | succ n10 ih10 =>
        have J_152 : ∀ (v1 : Int) (hv1 : inR v1) (M : zM) (o : _) (_ : F_X3_findFollowers_J152 v1 M S = some o), zAft (bd10) n10 ex10 o → zJ K g 0 0 152 6 [(0, zr g 11), (1, .int (zi v1))] [] M S := by
          intro v1 hv1 M o h hT
          unfold F_X3_findFollowers_J152 at h
          obtain ⟨x1, ex1, h⟩ := zlet_ex h
          have hx1 : inR x1 := by rw [ex1]; exact inR_w _
          refine j_iinc hC 1 dX3_findFollowers_152 rfl ex1 (Nat.le_of_ble_eq_true rfl) rfl ?_
          refine j_goto hC dX3_findFollowers_155 rfl ?_
          obtain rfl := Option.some.inj h
          refine j_sub [1, 0] rfl ?_
          exact ih10 x1 hx1 M hT
        have L_112 : ∀ (v1 : Int) (v2 : Int) (v3 : Int) (hv1 : inR v1) (hv2 : inR v2) (hv3 : inR v3) (M : zM) (o : _) (_ : F_X3_findFollowers_L112 v1 v2 v3 M S = some o), zAft (bd10) n10 ex10 o → zJ K g 0 0 112 6 [(0, zr g 11), (1, .int (zi v1)), (2, .int (zi v2)), (3, .int (zi v3))] [] M S := by
          intro v1 v2 v3 hv1 hv2 hv3 M oh112 h hT112
          unfold F_X3_findFollowers_L112 at h
          obtain ⟨ex112, hl, hd112⟩ := zb1_ex h
          obtain ⟨bd112, ebd⟩ : ∃ f, f = (fun (s : Int × zM) => F_X3_findFollowers_B112 v1 v2 s.1 s.2 S) := ⟨_, rfl⟩
          rw [← ebd] at hl
          have main : ∀ (n112 : Nat) (v3 : Int) (hv3 : inR v3) (M : zM) (_ : zloop bd112 n112 (v3, M) = some ex112), zJ K g 0 0 112 6 [(0, zr g 11), (1, .int (zi v1)), (2, .int (zi v2)), (3, .int (zi v3))] [] M S := by
            intro n112
            induction n112 with
            | zero => intro v3 hv3 M hl; exact zloop_0 hl
            | succ n112 ih112 =>
              have J_146 : ∀ (v3 : Int) (hv3 : inR v3) (M : zM) (o : _) (_ : F_X3_findFollowers_J146 v1 v2 v3 M S = some o), zAft (bd112) n112 ex112 o → zJ K g 0 0 146 6 [(0, zr g 11), (1, .int (zi v1)), (2, .int (zi v2)), (3, .int (zi v3))] [] M S := by
                intro v3 hv3 M o h hT
                unfold F_X3_findFollowers_J146 at h
                obtain ⟨x2, ex2, h⟩ := zlet_ex h
                have hx2 : inR x2 := by rw [ex2]; exact inR_w _
                refine j_iinc hC 3 dX3_findFollowers_146 rfl ex2 (Nat.le_of_ble_eq_true rfl) rfl ?_
                refine j_goto hC dX3_findFollowers_149 rfl ?_
                obtain rfl := Option.some.inj h
                refine j_sub [1, 2, 3, 0] rfl ?_
                exact ih112 x2 hx2 M hT
              intro v3 hv3 M hl
              obtain ⟨o, h, hT⟩ := zloop_ex hl
              have h : F_X3_findFollowers_B112 v1 v2 v3 M S = some o := by rw [ebd] at h; exact h
              unfold F_X3_findFollowers_B112 at h
              refine j_iload_n hC 3 dX3_findFollowers_112 rfl rfl ?_
              refine j_aload_n hC 0 dX3_findFollowers_113 rfl rfl ?_
              refine j_getq (q := 24) hC dX3_findFollowers_114 f_X3_52 (zFx_kd hF 11 rfl) rfl 12 rfl (zFx_rf hF 11 12 rfl) ?_
              refine j_alen (k := 20) (n := 5) hC dX3_findFollowers_117 (zFx_kd hF 24 rfl) (Nat.le_of_ble_eq_true rfl) (Nat.le_of_ble_eq_true rfl) (zFx_ln hF 24 rfl) (fun _ => ?_)
              refine j_icmp_ge hC dX3_findFollowers_118 rfl (w_id hv3) (w_id kR_5) (fun c3 => ?_) (fun c3 => ?_)
              · have h := zf c3 h
                obtain rfl := Option.some.inj h
                have hx112 := hd112
                rw [← show _ = ex112 from hT] at hx112
                refine j_sub [0, 1] rfl ?_
                exact J_152 v1 hv1 M _ hx112 hT112
              · have h := zt c3 h
                refine j_aload_n hC 0 dX3_findFollowers_121 rfl rfl ?_
                refine j_getq (q := 18) hC dX3_findFollowers_122 f_X3_33 (zFx_kd hF 11 rfl) rfl 6 rfl (zFx_rf hF 11 6 rfl) ?_
                refine j_iload_n hC 1 dX3_findFollowers_125 rfl rfl ?_
                obtain ⟨r4, hy, h⟩ := zb1_ex h
                refine j_callSi hC hE lk_X3_127 dX3_findFollowers_126 (c_X6_at l hlt g 18 v1 hv1 M S hF hy) [zr g 18, .int (zi v1)] [] rfl rfl rfl (zcat (Nat.le_of_ble_eq_true rfl)) (Nat.le_of_ble_eq_true rfl) (Nat.le_of_ble_eq_true rfl) (Nat.le_of_ble_eq_true rfl) (Nat.le_of_ble_eq_true rfl) (fun hp5 => ?_)
                have hr4 := hp5
                refine j_iconst hC dX3_findFollowers_129 ?_
                refine j_iload_n hC 3 dX3_findFollowers_130 rfl rfl ?_
                refine j_ishl hC dX3_findFollowers_131 ?_
                refine j_iand hC dX3_findFollowers_132 ?_
                refine j_if_eq hC dX3_findFollowers_133 rfl (w_id (cR_zand _ _)) (fun c6 => ?_) (fun c6 => ?_)
                · have h := zt c6 h
                  exact J_146 v3 hv3 M _ h hT
                · have h := zf c6 h
                  refine j_aload_n hC 0 dX3_findFollowers_136 rfl rfl ?_
                  refine j_getq (q := 24) hC dX3_findFollowers_137 f_X3_52 (zFx_kd hF 11 rfl) rfl 12 rfl (zFx_rf hF 11 12 rfl) ?_
                  refine j_iload_n hC 3 dX3_findFollowers_140 rfl rfl ?_
                  refine j_dup2 hC dX3_findFollowers_141 rfl (zr_cat _ _) ?_
                  obtain ⟨c7, h⟩ := zchk_ex h
                  refine j_iald (n := 5) hC dX3_findFollowers_142 (w_id hv3) (zFx_kd hF 24 rfl) (zFx_ln hF 24 rfl) c7.1 c7.2 (fun hg8 => ?_)
                  refine j_iload_n hC 2 dX3_findFollowers_143 rfl rfl ?_
                  refine j_ior hC dX3_findFollowers_144 ?_
                  obtain ⟨c9, h⟩ := zchk_ex h
                  obtain ⟨M10, eM10, h⟩ := zlet_ex h
                  refine j_iast (n := 5) hC dX3_findFollowers_145 (w_id hv3) (w_id (cR_zor _ _)) (cR_zor _ _) (zFx_kd hF 24 rfl) (zFx_ln hF 24 rfl) c9.1 c9.2 eM10 ?_
                  exact J_146 v3 hv3 M10 _ h hT
          exact main zN v3 hv3 M hl
        have J_100 : ∀ (v1 : Int) (v2 : Int) (hv1 : inR v1) (hv2 : inR v2) (M : zM) (o : _) (_ : F_X3_findFollowers_J100 v1 v2 M S = some o), zAft (bd10) n10 ex10 o → zJ K g 0 0 100 6 [(0, zr g 11), (1, .int (zi v1)), (2, .int (zi v2))] [] M S := by
          intro v1 v2 hv1 hv2 M o h hT
          unfold F_X3_findFollowers_J100 at h
          refine j_aload_n hC 0 dX3_findFollowers_100 rfl rfl ?_
          refine j_dup hC dX3_findFollowers_101 (zr_cat _ _) ?_
          refine j_get hC dX3_findFollowers_102 f_X3_121 (zFx_kd hF 11 rfl) rfl 16 rfl (fun hg11 => ?_)
          refine j_iload_n hC 2 dX3_findFollowers_105 rfl rfl ?_
          refine j_ior hC dX3_findFollowers_106 ?_
          obtain ⟨M12, eM12, h⟩ := zlet_ex h
          refine j_put hC dX3_findFollowers_107 f_X3_121 pF_X3 (zFx_kd hF 11 rfl) (Or.inl rfl) rfl 16 rfl (w_id (cR_zor _ _)) (cR_zor _ _) eM12 ?_
          refine j_iconst hC dX3_findFollowers_110 ?_
          refine j_istore_n hC dX3_findFollowers_111 rfl (Nat.le_of_ble_eq_true rfl) rfl ?_
          refine j_sub [1, 2, 3, 0] rfl ?_
          exact L_112 v1 v2 0 hv1 hv2 kR_0 M12 _ h hT
        have L_29 : ∀ (v1 : Int) (v2 : Int) (v3 : Int) (hv1 : inR v1) (hv2 : inR v2) (hv3 : inR v3) (M : zM) (o : _) (_ : F_X3_findFollowers_L29 v1 v2 v3 M S = some o), zAft (bd10) n10 ex10 o → zJ K g 0 0 29 6 [(0, zr g 11), (1, .int (zi v1)), (2, .int (zi v2)), (3, .int (zi v3))] [] M S := by
          intro v1 v2 v3 hv1 hv2 hv3 M oh29 h hT29
          unfold F_X3_findFollowers_L29 at h
          obtain ⟨ex29, hl, hd29⟩ := zb1_ex h
          obtain ⟨bd29, ebd⟩ : ∃ f, f = (fun (s : Int × Int × zM) => F_X3_findFollowers_B29 v1 s.1 s.2.1 s.2.2 S) := ⟨_, rfl⟩
          rw [← ebd] at hl
          have main : ∀ (n29 : Nat) (v2 : Int) (v3 : Int) (hv2 : inR v2) (hv3 : inR v3) (M : zM) (_ : zloop bd29 n29 (v2, v3, M) = some ex29), zJ K g 0 0 29 6 [(0, zr g 11), (1, .int (zi v1)), (2, .int (zi v2)), (3, .int (zi v3))] [] M S := by
            intro n29
            induction n29 with
            | zero => intro v2 v3 hv2 hv3 M hl; exact zloop_0 hl
            | succ n29 ih29 =>
              intro v2 v3 hv2 hv3 M hl
              obtain ⟨o, h, hT⟩ := zloop_ex hl
              have h : F_X3_findFollowers_B29 v1 v2 v3 M S = some o := by rw [ebd] at h; exact h
              unfold F_X3_findFollowers_B29 at h
              refine j_iload_n hC 3 dX3_findFollowers_29 rfl rfl ?_
              refine j_aload_n hC 0 dX3_findFollowers_30 rfl rfl ?_
              refine j_getq (q := 15) hC dX3_findFollowers_31 f_X3_24 (zFx_kd hF 11 rfl) rfl 3 rfl (zFx_rf hF 11 3 rfl) ?_
              refine j_iload_n hC 1 dX3_findFollowers_34 rfl rfl ?_
              refine j_iconst hC dX3_findFollowers_35 ?_
              refine j_iadd hC dX3_findFollowers_36 ?_
              obtain ⟨r13, hy, h⟩ := zb1_ex h
              refine j_callSi hC hE lk_X3_127 dX3_findFollowers_37 (c_X6_at l hlt g 15 (w (v1 + 1)) (inR_w _) M S hF hy) [zr g 15, .int (zi (v1 + 1))] [.int (zi v3)] rfl (by simp only [zi_w, zl_wl]) rfl (zcat (Nat.le_of_ble_eq_true rfl)) (Nat.le_of_ble_eq_true rfl) (Nat.le_of_ble_eq_true rfl) (Nat.le_of_ble_eq_true rfl) (Nat.le_of_ble_eq_true rfl) (fun hp14 => ?_)
              have hr13 := hp14
              refine j_icmp_ge hC dX3_findFollowers_40 rfl (w_id hv3) (w_id hr13) (fun c15 => ?_) (fun c15 => ?_)
              · have h := zf c15 h
                obtain rfl := Option.some.inj h
                have hx29 := hd29
                rw [← show _ = ex29 from hT] at hx29
                refine j_sub [0, 1, 2] rfl ?_
                exact J_100 v1 v2 hv1 hv2 M _ hx29 hT29
              · have h := zt c15 h
                refine j_aload_n hC 0 dX3_findFollowers_43 rfl rfl ?_
                refine j_getq (q := 14) hC dX3_findFollowers_44 f_X3_21 (zFx_kd hF 11 rfl) rfl 2 rfl (zFx_rf hF 11 2 rfl) ?_
                refine j_iload_n hC 3 dX3_findFollowers_47 rfl rfl ?_
                obtain ⟨r16, hy, h⟩ := zb1_ex h
                refine j_callSi hC hE lk_X3_127 dX3_findFollowers_48 (c_X6_at l hlt g 14 v3 hv3 M S hF hy) [zr g 14, .int (zi v3)] [] rfl rfl rfl (zcat (Nat.le_of_ble_eq_true rfl)) (Nat.le_of_ble_eq_true rfl) (Nat.le_of_ble_eq_true rfl) (Nat.le_of_ble_eq_true rfl) (Nat.le_of_ble_eq_true rfl) (fun hp17 => ?_)
                have hr16 := hp17
                refine j_istore hC dX3_findFollowers_51 (Nat.le_of_ble_eq_true rfl) rfl ?_
                refine j_iconst hC dX3_findFollowers_53 ?_
                refine j_iload hC 0 dX3_findFollowers_54 rfl ?_
                obtain ⟨r18, hy, h⟩ := zb1_ex h
                refine j_callSi hC hE lk_X3_152 dX3_findFollowers_56 (c_X4_context l hlt g r16 hr16 M S hy) [.int (zi r16)] [.int (zi 1)] rfl rfl rfl (zcat (Nat.le_of_ble_eq_true rfl)) (Nat.le_of_ble_eq_true rfl) (Nat.le_of_ble_eq_true rfl) (Nat.le_of_ble_eq_true rfl) (Nat.le_of_ble_eq_true rfl) (fun hp19 => ?_)
                have hr18 := hp19
                refine j_ishl hC dX3_findFollowers_59 ?_
                obtain ⟨x20, ex20, h⟩ := zlet_ex h
                have hx20 : inR x20 := by rw [ex20]; exact (cR_zshl _ _)
                refine j_names ex20 ?_
                refine j_istore hC dX3_findFollowers_60 (Nat.le_of_ble_eq_true rfl) rfl ?_
                refine j_iload_n hC 4 dX3_findFollowers_62 rfl rfl ?_
                refine j_iload hC 0 dX3_findFollowers_63 rfl ?_
                refine j_ior hC dX3_findFollowers_65 ?_
                obtain ⟨x21, ex21, h⟩ := zlet_ex h
                have hx21 : inR x21 := by rw [ex21]; exact (cR_zor _ _)
                refine j_names ex21 ?_
                refine j_istore_n hC dX3_findFollowers_66 rfl (Nat.le_of_ble_eq_true rfl) rfl ?_
                refine j_aload_n hC 3 dX3_findFollowers_67 rfl rfl ?_
                refine j_getq (q := 18) hC dX3_findFollowers_68 f_X3_33 (zFx_kd hF 11 rfl) rfl 6 rfl (zFx_rf hF 11 6 rfl) ?_
                refine j_iload hC 2 dX3_findFollowers_71 rfl ?_
                obtain ⟨r22, hy, h⟩ := zb1_ex h
                refine j_callSi hC hE lk_X3_134 dX3_findFollowers_73 (c_X4_word l hlt g r16 hr16 M S hy) [.int (zi r16)] [zr g 18] rfl rfl rfl (zcat (Nat.le_of_ble_eq_true rfl)) (Nat.le_of_ble_eq_true rfl) (Nat.le_of_ble_eq_true rfl) (Nat.le_of_ble_eq_true rfl) (Nat.le_of_ble_eq_true rfl) (fun hp23 => ?_)
                have hr22 := hp23
                refine j_aload_n hC 3 dX3_findFollowers_76 rfl rfl ?_
                refine j_getq (q := 18) hC dX3_findFollowers_77 f_X3_33 (zFx_kd hF 11 rfl) rfl 6 rfl (zFx_rf hF 11 6 rfl) ?_
                refine j_iload hC 2 dX3_findFollowers_80 rfl ?_
                obtain ⟨r24, hy, h⟩ := zb1_ex h
                refine j_callSi hC hE lk_X3_134 dX3_findFollowers_82 (c_X4_word l hlt g r16 hr16 M S hy) [.int (zi r16)] [zr g 18, .int (zi r22), zr g 18] rfl rfl rfl (zcat (Nat.le_of_ble_eq_true rfl)) (Nat.le_of_ble_eq_true rfl) (Nat.le_of_ble_eq_true rfl) (Nat.le_of_ble_eq_true rfl) (Nat.le_of_ble_eq_true rfl) (fun hp25 => ?_)
                have hr24 := hp25
                obtain ⟨r26, hy, h⟩ := zb1_ex h
                refine j_callSi hC hE lk_X3_127 dX3_findFollowers_85 (c_X6_at l hlt g 18 r24 hr24 M S hF hy) [zr g 18, .int (zi r24)] [.int (zi r22), zr g 18] rfl rfl rfl (zcat (Nat.le_of_ble_eq_true rfl)) (Nat.le_of_ble_eq_true rfl) (Nat.le_of_ble_eq_true rfl) (Nat.le_of_ble_eq_true rfl) (Nat.le_of_ble_eq_true rfl) (fun hp27 => ?_)
                have hr26 := hp27
                refine j_iload hC 1 dX3_findFollowers_88 rfl ?_
                refine j_ior hC dX3_findFollowers_90 ?_
                obtain ⟨M28, hy, h⟩ := zb1_ex h
                refine j_callSv hC hE lk_X3_96 dX3_findFollowers_91 (c_X6_put l hlt g 18 r22 (zor r26 x20) hr22 (cR_zor _ _) M S hF hy) [zr g 18, .int (zi r22), .int (zi (zor r26 x20))] [] rfl rfl rfl (zcat (Nat.le_of_ble_eq_true rfl)) (Nat.le_of_ble_eq_true rfl) (Nat.le_of_ble_eq_true rfl) (Nat.le_of_ble_eq_true rfl) (Nat.le_of_ble_eq_true rfl) (fun hp29 => ?_)
                obtain ⟨x30, ex30, h⟩ := zlet_ex h
                have hx30 : inR x30 := by rw [ex30]; exact inR_w _
                refine j_iinc hC 5 dX3_findFollowers_94 rfl ex30 (Nat.le_of_ble_eq_true rfl) rfl ?_
                refine j_goto hC dX3_findFollowers_97 rfl ?_
                obtain rfl := Option.some.inj h
                refine j_sub [4, 5, 1, 0] rfl ?_
                exact ih29 x21 x30 hx21 hx30 M28 hT
          exact main zN v2 v3 hv2 hv3 M hl
        intro v1 hv1 M hl
        obtain ⟨o, h, hT⟩ := zloop_ex hl
        have h : F_X3_findFollowers_B10 v1 M S = some o := by rw [ebd] at h; exact h
        unfold F_X3_findFollowers_B10 at h
        refine j_iload_n hC 1 dX3_findFollowers_10 rfl rfl ?_
        refine j_aload_n hC 0 dX3_findFollowers_11 rfl rfl ?_
        refine j_get hC dX3_findFollowers_12 f_X3_76 (zFx_kd hF 11 rfl) rfl 13 rfl (fun hg31 => ?_)
        refine j_icmp_ge hC dX3_findFollowers_15 rfl (w_id hv1) (w_id hg31) (fun c32 => ?_) (fun c32 => ?_)
        · have h := zf c32 h
          obtain rfl := Option.some.inj h
          have hx10 := hd10
          rw [← show _ = ex10 from hT] at hx10
          refine j_sub [] rfl ?_
          exact J_158 M hx10
        · have h := zt c32 h
          refine j_iconst hC dX3_findFollowers_18 ?_
          refine j_istore_n hC dX3_findFollowers_19 rfl (Nat.le_of_ble_eq_true rfl) rfl ?_
          refine j_aload_n hC 1 dX3_findFollowers_20 rfl rfl ?_
          refine j_getq (q := 15) hC dX3_findFollowers_21 f_X3_24 (zFx_kd hF 11 rfl) rfl 3 rfl (zFx_rf hF 11 3 rfl) ?_
          refine j_iload_n hC 2 dX3_findFollowers_24 rfl rfl ?_
          obtain ⟨r33, hy, h⟩ := zb1_ex h
          refine j_callSi hC hE lk_X3_127 dX3_findFollowers_25 (c_X6_at l hlt g 15 v1 hv1 M S hF hy) [zr g 15, .int (zi v1)] [] rfl rfl rfl (zcat (Nat.le_of_ble_eq_true rfl)) (Nat.le_of_ble_eq_true rfl) (Nat.le_of_ble_eq_true rfl) (Nat.le_of_ble_eq_true rfl) (Nat.le_of_ble_eq_true rfl) (fun hp34 => ?_)
          have hr33 := hp34
          refine j_istore_n hC dX3_findFollowers_28 rfl (Nat.le_of_ble_eq_true rfl) rfl ?_
          refine j_sub [2, 3, 1, 0] rfl ?_
          exact L_29 v1 0 r33 hv1 kR_0 hr33 M _ h hT
    exact main zN v1 hv1 M hl
  refine j_aload_n hC 0 dX3_findFollowers_0 rfl rfl ?_
  refine j_getq (q := 18) hC dX3_findFollowers_1 f_X3_33 (zFx_kd hF 11 rfl) rfl 6 rfl (zFx_rf hF 11 6 rfl) ?_
  refine j_iconst hC dX3_findFollowers_4 ?_
  obtain ⟨M35, hy, h⟩ := zb1_ex h
  refine j_callSv hC hE lk_X3_115 dX3_findFollowers_5 (c_J7_fill_53178 l hlt g 18 0 kR_0 M S hF hy) [zr g 18, .int (zi 0)] [] rfl rfl rfl (zcat (Nat.le_of_ble_eq_true rfl)) (Nat.le_of_ble_eq_true rfl) (Nat.le_of_ble_eq_true rfl) (Nat.le_of_ble_eq_true rfl) (Nat.le_of_ble_eq_true rfl) (fun hp36 => ?_)
  refine j_iconst hC dX3_findFollowers_8 ?_
  refine j_istore_n hC dX3_findFollowers_9 rfl (Nat.le_of_ble_eq_true rfl) rfl ?_
  refine j_sub [1, 0] rfl ?_
  exact L_10 0 kR_0 M35 h
set_option maxHeartbeats 4000000 in
set_option maxRecDepth 100000 in
theorem c_X3_findBestDerivations (l : Launch) (hlt : l.stackTraces = false) (g : zG) (M : zM) (S : zS) (hF : zFx S) {M' : zM} (h : F_X3_findBestDerivations M S = some M') : zMet l g yX3_findBestDerivations cX3_findBestDerivations 7 none 2 0 0 [zr g 11] M S (.inl none) M' S (True) := by
  refine zMet_of (by decide) hlt [(0, zr g 11)] rfl (Nat.le_of_ble_eq_true rfl) (fun K hC hE hN => ?_)
  unfold F_X3_findBestDerivations at h
  have J_203 : ∀ (M : zM) (_ : F_X3_findBestDerivations_J203 M S = some M'), zJ K g 0 0 203 7 [] [] M S := by
    intro M h
    unfold F_X3_findBestDerivations_J203 at h
    have e1 := Option.some.inj h
    exact j_vret hC hE dX3_findBestDerivations_203 rfl e1 rfl trivial (Nat.le_of_ble_eq_true rfl) (Nat.le_of_ble_eq_true rfl)
  have L_62 : ∀ (v1 : Int) (v2 : Int) (hv1 : inR v1) (hv2 : inR v2) (M : zM) (_ : F_X3_findBestDerivations_L62 v1 v2 M S = some M'), zJ K g 0 0 62 7 [(0, zr g 11), (1, .int (zi v1)), (2, .int (zi v2))] [] M S := by
    intro v1 v2 hv1 hv2 M h
    unfold F_X3_findBestDerivations_L62 at h
    obtain ⟨ex62, hl, hd62⟩ := zb1_ex h
    obtain ⟨bd62, ebd⟩ : ∃ f, f = (fun (s : Int × Int × zM) => F_X3_findBestDerivations_B62 s.1 s.2.1 s.2.2 S) := ⟨_, rfl⟩
    rw [← ebd] at hl
    have main : ∀ (n62 : Nat) (v1 : Int) (v2 : Int) (hv1 : inR v1) (hv2 : inR v2) (M : zM) (_ : zloop bd62 n62 (v1, v2, M) = some ex62), zJ K g 0 0 62 7 [(0, zr g 11), (1, .int (zi v1)), (2, .int (zi v2))] [] M S := by
      intro n62
      induction n62 with
      | zero => intro v1 v2 hv1 hv2 M hl; exact zloop_0 hl
      | succ n62 ih62 =>
        have J_197 : ∀ (v1 : Int) (v2 : Int) (hv1 : inR v1) (hv2 : inR v2) (M : zM) (o : _) (_ : F_X3_findBestDerivations_J197 v1 v2 M S = some o), zAft (bd62) n62 ex62 o → zJ K g 0 0 197 7 [(0, zr g 11), (1, .int (zi v1)), (2, .int (zi v2))] [] M S := by
          intro v1 v2 hv1 hv2 M o h hT
          unfold F_X3_findBestDerivations_J197 at h
          obtain ⟨x1, ex1, h⟩ := zlet_ex h
          have hx1 : inR x1 := by rw [ex1]; exact inR_w _
          refine j_iinc hC 2 dX3_findBestDerivations_197 rfl ex1 (Nat.le_of_ble_eq_true rfl) rfl ?_
          refine j_goto hC dX3_findBestDerivations_200 rfl ?_
          obtain rfl := Option.some.inj h
          refine j_sub [1, 2, 0] rfl ?_
          exact ih62 v1 x1 hv1 hx1 M hT
        have L_93 : ∀ (v1 : Int) (v2 : Int) (v3 : Int) (v4 : Int) (hv1 : inR v1) (hv2 : inR v2) (hv3 : inR v3) (hv4 : inR v4) (M : zM) (o : _) (_ : F_X3_findBestDerivations_L93 v1 v2 v3 v4 M S = some o), zAft (bd62) n62 ex62 o → zJ K g 0 0 93 7 [(0, zr g 11), (1, .int (zi v1)), (2, .int (zi v2)), (3, .int (zi v3)), (4, .int (zi v4))] [] M S := by
          intro v1 v2 v3 v4 hv1 hv2 hv3 hv4 M oh93 h hT93
          unfold F_X3_findBestDerivations_L93 at h
          obtain ⟨ex93, hl, hd93⟩ := zb1_ex h
          obtain ⟨bd93, ebd⟩ : ∃ f, f = (fun (s : Int × Int × zM) => F_X3_findBestDerivations_B93 s.1 v2 v3 s.2.1 s.2.2 S) := ⟨_, rfl⟩
          rw [← ebd] at hl
          have main : ∀ (n93 : Nat) (v1 : Int) (v4 : Int) (hv1 : inR v1) (hv4 : inR v4) (M : zM) (_ : zloop bd93 n93 (v1, v4, M) = some ex93), zJ K g 0 0 93 7 [(0, zr g 11), (1, .int (zi v1)), (2, .int (zi v2)), (3, .int (zi v3)), (4, .int (zi v4))] [] M S := by
            intro n93
            induction n93 with
            | zero => intro v1 v4 hv1 hv4 M hl; exact zloop_0 hl
            | succ n93 ih93 =>
              have J_191 : ∀ (v1 : Int) (v4 : Int) (hv1 : inR v1) (hv4 : inR v4) (M : zM) (o : _) (_ : F_X3_findBestDerivations_J191 v1 v2 v3 v4 M S = some o), zAft (bd93) n93 ex93 o → zJ K g 0 0 191 7 [(0, zr g 11), (1, .int (zi v1)), (2, .int (zi v2)), (3, .int (zi v3)), (4, .int (zi v4))] [] M S := by
                intro v1 v4 hv1 hv4 M o h hT
                unfold F_X3_findBestDerivations_J191 at h
                obtain ⟨x2, ex2, h⟩ := zlet_ex h
                have hx2 : inR x2 := by rw [ex2]; exact inR_w _
                refine j_iinc hC 4 dX3_findBestDerivations_191 rfl ex2 (Nat.le_of_ble_eq_true rfl) rfl ?_
                refine j_goto hC dX3_findBestDerivations_194 rfl ?_
                obtain rfl := Option.some.inj h
                refine j_sub [1, 2, 3, 4, 0] rfl ?_
                exact ih93 v1 x2 hv1 hx2 M hT
              intro v1 v4 hv1 hv4 M hl
              obtain ⟨o, h, hT⟩ := zloop_ex hl
              have h : F_X3_findBestDerivations_B93 v1 v2 v3 v4 M S = some o := by rw [ebd] at h; exact h
              unfold F_X3_findBestDerivations_B93 at h
              refine j_iload hC 4 dX3_findBestDerivations_93 rfl ?_
              refine j_aload_n hC 0 dX3_findBestDerivations_95 rfl rfl ?_
              refine j_getq (q := 15) hC dX3_findBestDerivations_96 f_X3_24 (zFx_kd hF 11 rfl) rfl 3 rfl (zFx_rf hF 11 3 rfl) ?_
              refine j_iload_n hC 3 dX3_findBestDerivations_99 rfl rfl ?_
              refine j_iconst hC dX3_findBestDerivations_100 ?_
              refine j_iadd hC dX3_findBestDerivations_101 ?_
              obtain ⟨r3, hy, h⟩ := zb1_ex h
              refine j_callSi hC hE lk_X3_127 dX3_findBestDerivations_102 (c_X6_at l hlt g 15 (w (v3 + 1)) (inR_w _) M S hF hy) [zr g 15, .int (zi (v3 + 1))] [.int (zi v4)] rfl (by simp only [zi_w, zl_wl]) rfl (zcat (Nat.le_of_ble_eq_true rfl)) (Nat.le_of_ble_eq_true rfl) (Nat.le_of_ble_eq_true rfl) (Nat.le_of_ble_eq_true rfl) (Nat.le_of_ble_eq_true rfl) (fun hp4 => ?_)
              have hr3 := hp4
              refine j_icmp_ge hC dX3_findBestDerivations_105 rfl (w_id hv4) (w_id hr3) (fun c5 => ?_) (fun c5 => ?_)
              · have h := zf c5 h
                obtain rfl := Option.some.inj h
                have hx93 := hd93
                rw [← show _ = ex93 from hT] at hx93
                refine j_sub [0, 1, 2] rfl ?_
                exact J_197 v1 v2 hv1 hv2 M _ hx93 hT93
              · have h := zt c5 h
                refine j_aload_n hC 0 dX3_findBestDerivations_108 rfl rfl ?_
                refine j_getq (q := 14) hC dX3_findBestDerivations_109 f_X3_21 (zFx_kd hF 11 rfl) rfl 2 rfl (zFx_rf hF 11 2 rfl) ?_
                refine j_iload hC 4 dX3_findBestDerivations_112 rfl ?_
                obtain ⟨r6, hy, h⟩ := zb1_ex h
                refine j_callSi hC hE lk_X3_127 dX3_findBestDerivations_114 (c_X6_at l hlt g 14 v4 hv4 M S hF hy) [zr g 14, .int (zi v4)] [] rfl rfl rfl (zcat (Nat.le_of_ble_eq_true rfl)) (Nat.le_of_ble_eq_true rfl) (Nat.le_of_ble_eq_true rfl) (Nat.le_of_ble_eq_true rfl) (Nat.le_of_ble_eq_true rfl) (fun hp7 => ?_)
                have hr6 := hp7
                refine j_istore hC dX3_findBestDerivations_117 (Nat.le_of_ble_eq_true rfl) rfl ?_
                refine j_iload hC 0 dX3_findBestDerivations_119 rfl ?_
                obtain ⟨r8, hy, h⟩ := zb1_ex h
                refine j_callSi hC hE lk_X3_134 dX3_findBestDerivations_121 (c_X4_word l hlt g r6 hr6 M S hy) [.int (zi r6)] [] rfl rfl rfl (zcat (Nat.le_of_ble_eq_true rfl)) (Nat.le_of_ble_eq_true rfl) (Nat.le_of_ble_eq_true rfl) (Nat.le_of_ble_eq_true rfl) (Nat.le_of_ble_eq_true rfl) (fun hp9 => ?_)
                have hr8 := hp9
                refine j_istore hC dX3_findBestDerivations_124 (Nat.le_of_ble_eq_true rfl) rfl ?_
                refine j_aload_n hC 2 dX3_findBestDerivations_126 rfl rfl ?_
                refine j_getq (q := 20) hC dX3_findBestDerivations_127 f_X3_39 (zFx_kd hF 11 rfl) rfl 8 rfl (zFx_rf hF 11 8 rfl) ?_
                refine j_iload hC 0 dX3_findBestDerivations_130 rfl ?_
                obtain ⟨r10, hy, h⟩ := zb1_ex h
                refine j_callSi hC hE lk_X3_127 dX3_findBestDerivations_132 (c_X6_at l hlt g 20 r8 hr8 M S hF hy) [zr g 20, .int (zi r8)] [] rfl rfl rfl (zcat (Nat.le_of_ble_eq_true rfl)) (Nat.le_of_ble_eq_true rfl) (Nat.le_of_ble_eq_true rfl) (Nat.le_of_ble_eq_true rfl) (Nat.le_of_ble_eq_true rfl) (fun hp11 => ?_)
                have hr10 := hp11
                refine j_if_ge hC dX3_findBestDerivations_135 rfl (w_id hr10) (fun c12 => ?_) (fun c12 => ?_)
                · have h := zf c12 h
                  refine j_sub [2, 3, 4, 5, 6] rfl ?_
                  exact J_191 v1 v4 hv1 hv4 M _ h hT
                · have h := zt c12 h
                  refine j_aload_n hC 2 dX3_findBestDerivations_138 rfl rfl ?_
                  refine j_getq (q := 20) hC dX3_findBestDerivations_139 f_X3_39 (zFx_kd hF 11 rfl) rfl 8 rfl (zFx_rf hF 11 8 rfl) ?_
                  refine j_iload hC 0 dX3_findBestDerivations_142 rfl ?_
                  refine j_aload_n hC 2 dX3_findBestDerivations_144 rfl rfl ?_
                  refine j_getq (q := 20) hC dX3_findBestDerivations_145 f_X3_39 (zFx_kd hF 11 rfl) rfl 8 rfl (zFx_rf hF 11 8 rfl) ?_
                  refine j_iload_n hC 5 dX3_findBestDerivations_148 rfl rfl ?_
                  obtain ⟨r13, hy, h⟩ := zb1_ex h
                  refine j_callSi hC hE lk_X3_127 dX3_findBestDerivations_149 (c_X6_at l hlt g 20 v3 hv3 M S hF hy) [zr g 20, .int (zi v3)] [.int (zi r8), zr g 20] rfl rfl rfl (zcat (Nat.le_of_ble_eq_true rfl)) (Nat.le_of_ble_eq_true rfl) (Nat.le_of_ble_eq_true rfl) (Nat.le_of_ble_eq_true rfl) (Nat.le_of_ble_eq_true rfl) (fun hp14 => ?_)
                  have hr13 := hp14
                  refine j_iconst hC dX3_findBestDerivations_152 ?_
                  refine j_iadd hC dX3_findBestDerivations_153 ?_
                  obtain ⟨M15, hy, h⟩ := zb1_ex h
                  refine j_callSv hC hE lk_X3_96 dX3_findBestDerivations_154 (c_X6_put l hlt g 20 r8 (w (r13 + 1)) hr8 (inR_w _) M S hF hy) [zr g 20, .int (zi r8), .int (zi (r13 + 1))] [] rfl (by simp only [zi_w, zl_wl]) rfl (zcat (Nat.le_of_ble_eq_true rfl)) (Nat.le_of_ble_eq_true rfl) (Nat.le_of_ble_eq_true rfl) (Nat.le_of_ble_eq_true rfl) (Nat.le_of_ble_eq_true rfl) (fun hp16 => ?_)
                  refine j_aload_n hC 2 dX3_findBestDerivations_157 rfl rfl ?_
                  refine j_getq (q := 21) hC dX3_findBestDerivations_158 f_X3_42 (zFx_kd hF 11 rfl) rfl 9 rfl (zFx_rf hF 11 9 rfl) ?_
                  refine j_iload hC 0 dX3_findBestDerivations_161 rfl ?_
                  refine j_iload hC 1 dX3_findBestDerivations_163 rfl ?_
                  obtain ⟨M17, hy, h⟩ := zb1_ex h
                  refine j_callSv hC hE lk_X3_96 dX3_findBestDerivations_165 (c_X6_put l hlt g 21 r8 r6 hr8 hr6 M15 S hF hy) [zr g 21, .int (zi r8), .int (zi r6)] [] rfl rfl rfl (zcat (Nat.le_of_ble_eq_true rfl)) (Nat.le_of_ble_eq_true rfl) (Nat.le_of_ble_eq_true rfl) (Nat.le_of_ble_eq_true rfl) (Nat.le_of_ble_eq_true rfl) (fun hp18 => ?_)
                  refine j_aload_n hC 2 dX3_findBestDerivations_168 rfl rfl ?_
                  refine j_getq (q := 22) hC dX3_findBestDerivations_169 f_X3_45 (zFx_kd hF 11 rfl) rfl 10 rfl (zFx_rf hF 11 10 rfl) ?_
                  refine j_iload hC 0 dX3_findBestDerivations_172 rfl ?_
                  refine j_iload_n hC 5 dX3_findBestDerivations_174 rfl rfl ?_
                  obtain ⟨M19, hy, h⟩ := zb1_ex h
                  refine j_callSv hC hE lk_X3_96 dX3_findBestDerivations_175 (c_X6_put l hlt g 22 r8 v3 hr8 hv3 M17 S hF hy) [zr g 22, .int (zi r8), .int (zi v3)] [] rfl rfl rfl (zcat (Nat.le_of_ble_eq_true rfl)) (Nat.le_of_ble_eq_true rfl) (Nat.le_of_ble_eq_true rfl) (Nat.le_of_ble_eq_true rfl) (Nat.le_of_ble_eq_true rfl) (fun hp20 => ?_)
                  refine j_aload_n hC 2 dX3_findBestDerivations_178 rfl rfl ?_
                  refine j_getq (q := 19) hC dX3_findBestDerivations_179 f_X3_36 (zFx_kd hF 11 rfl) rfl 7 rfl (zFx_rf hF 11 7 rfl) ?_
                  refine j_iload_n hC 3 dX3_findBestDerivations_182 rfl rfl ?_
                  refine j_iload hC 0 dX3_findBestDerivations_183 rfl ?_
                  obtain ⟨M21, hy, h⟩ := zb1_ex h
                  refine j_callSv hC hE lk_X3_96 dX3_findBestDerivations_185 (c_X6_put l hlt g 19 v1 r8 hv1 hr8 M19 S hF hy) [zr g 19, .int (zi v1), .int (zi r8)] [] rfl rfl rfl (zcat (Nat.le_of_ble_eq_true rfl)) (Nat.le_of_ble_eq_true rfl) (Nat.le_of_ble_eq_true rfl) (Nat.le_of_ble_eq_true rfl) (Nat.le_of_ble_eq_true rfl) (fun hp22 => ?_)
                  obtain ⟨x23, ex23, h⟩ := zlet_ex h
                  have hx23 : inR x23 := by rw [ex23]; exact inR_w _
                  refine j_iinc hC 3 dX3_findBestDerivations_188 rfl ex23 (Nat.le_of_ble_eq_true rfl) rfl ?_
                  refine j_sub [3, 0, 4, 5, 6] rfl ?_
                  exact J_191 x23 v4 hx23 hv4 M21 _ h hT
          exact main zN v1 v4 hv1 hv4 M hl
        intro v1 v2 hv1 hv2 M hl
        obtain ⟨o, h, hT⟩ := zloop_ex hl
        have h : F_X3_findBestDerivations_B62 v1 v2 M S = some o := by rw [ebd] at h; exact h
        unfold F_X3_findBestDerivations_B62 at h
        refine j_iload_n hC 2 dX3_findBestDerivations_62 rfl rfl ?_
        refine j_iload_n hC 1 dX3_findBestDerivations_63 rfl rfl ?_
        refine j_icmp_ge hC dX3_findBestDerivations_64 rfl (w_id hv2) (w_id hv1) (fun c24 => ?_) (fun c24 => ?_)
        · have h := zf c24 h
          obtain rfl := Option.some.inj h
          have hx62 := hd62
          rw [← show _ = ex62 from hT] at hx62
          refine j_sub [] rfl ?_
          exact J_203 M hx62
        · have h := zt c24 h
          refine j_iload_n hC 2 dX3_findBestDerivations_67 rfl rfl ?_
          refine j_sipush hC dX3_findBestDerivations_68 rfl ?_
          refine j_icmp_ge hC dX3_findBestDerivations_71 rfl (w_id hv2) (w_id kR_300) (fun c25 => ?_) (fun c25 => ?_)
          · have h := zf c25 h
            obtain rfl := Option.some.inj h
            have hx62 := hd62
            rw [← show _ = ex62 from hT] at hx62
            refine j_sub [] rfl ?_
            exact J_203 M hx62
          · have h := zt c25 h
            refine j_aload_n hC 0 dX3_findBestDerivations_74 rfl rfl ?_
            refine j_getq (q := 19) hC dX3_findBestDerivations_75 f_X3_36 (zFx_kd hF 11 rfl) rfl 7 rfl (zFx_rf hF 11 7 rfl) ?_
            refine j_iload_n hC 2 dX3_findBestDerivations_78 rfl rfl ?_
            obtain ⟨r26, hy, h⟩ := zb1_ex h
            refine j_callSi hC hE lk_X3_127 dX3_findBestDerivations_79 (c_X6_at l hlt g 19 v2 hv2 M S hF hy) [zr g 19, .int (zi v2)] [] rfl rfl rfl (zcat (Nat.le_of_ble_eq_true rfl)) (Nat.le_of_ble_eq_true rfl) (Nat.le_of_ble_eq_true rfl) (Nat.le_of_ble_eq_true rfl) (Nat.le_of_ble_eq_true rfl) (fun hp27 => ?_)
            have hr26 := hp27
            refine j_istore_n hC dX3_findBestDerivations_82 rfl (Nat.le_of_ble_eq_true rfl) rfl ?_
            refine j_aload_n hC 1 dX3_findBestDerivations_83 rfl rfl ?_
            refine j_getq (q := 15) hC dX3_findBestDerivations_84 f_X3_24 (zFx_kd hF 11 rfl) rfl 3 rfl (zFx_rf hF 11 3 rfl) ?_
            refine j_iload_n hC 0 dX3_findBestDerivations_87 rfl rfl ?_
            obtain ⟨r28, hy, h⟩ := zb1_ex h
            refine j_callSi hC hE lk_X3_127 dX3_findBestDerivations_88 (c_X6_at l hlt g 15 r26 hr26 M S hF hy) [zr g 15, .int (zi r26)] [] rfl rfl rfl (zcat (Nat.le_of_ble_eq_true rfl)) (Nat.le_of_ble_eq_true rfl) (Nat.le_of_ble_eq_true rfl) (Nat.le_of_ble_eq_true rfl) (Nat.le_of_ble_eq_true rfl) (fun hp29 => ?_)
            have hr28 := hp29
            refine j_istore hC dX3_findBestDerivations_91 (Nat.le_of_ble_eq_true rfl) rfl ?_
            refine j_sub [2, 3, 4, 1, 0] rfl ?_
            exact L_93 v1 v2 r26 r28 hv1 hv2 hr26 hr28 M _ h hT
    exact main zN v1 v2 hv1 hv2 M hl
  have J_60 : ∀ (v1 : Int) (hv1 : inR v1) (M : zM) (_ : F_X3_findBestDerivations_J60 v1 M S = some M'), zJ K g 0 0 60 7 [(0, zr g 11), (1, .int (zi v1))] [] M S := by
    intro v1 hv1 M h
    unfold F_X3_findBestDerivations_J60 at h
    refine j_iconst hC dX3_findBestDerivations_60 ?_
    refine j_istore_n hC dX3_findBestDerivations_61 rfl (Nat.le_of_ble_eq_true rfl) rfl ?_
    refine j_sub [1, 2, 0] rfl ?_
    exact L_62 v1 0 hv1 kR_0 M h
  have L_4 : ∀ (v1 : Int) (v2 : Int) (hv1 : inR v1) (hv2 : inR v2) (M : zM) (_ : F_X3_findBestDerivations_L4 v1 v2 M S = some M'), zJ K g 0 0 4 7 [(0, zr g 11), (1, .int (zi v1)), (2, .int (zi v2))] [] M S := by
    intro v1 v2 hv1 hv2 M h
    unfold F_X3_findBestDerivations_L4 at h
    obtain ⟨ex4, hl, hd4⟩ := zb1_ex h
    obtain ⟨bd4, ebd⟩ : ∃ f, f = (fun (s : Int × Int × zM) => F_X3_findBestDerivations_B4 s.1 s.2.1 s.2.2 S) := ⟨_, rfl⟩
    rw [← ebd] at hl
    have main : ∀ (n4 : Nat) (v1 : Int) (v2 : Int) (hv1 : inR v1) (hv2 : inR v2) (M : zM) (_ : zloop bd4 n4 (v1, v2, M) = some ex4), zJ K g 0 0 4 7 [(0, zr g 11), (1, .int (zi v1)), (2, .int (zi v2))] [] M S := by
      intro n4
      induction n4 with
      | zero => intro v1 v2 hv1 hv2 M hl; exact zloop_0 hl
      | succ n4 ih4 =>
        have J_54 : ∀ (v1 : Int) (v2 : Int) (hv1 : inR v1) (hv2 : inR v2) (M : zM) (o : _) (_ : F_X3_findBestDerivations_J54 v1 v2 M S = some o), zAft (bd4) n4 ex4 o → zJ K g 0 0 54 7 [(0, zr g 11), (1, .int (zi v1)), (2, .int (zi v2))] [] M S := by
          intro v1 v2 hv1 hv2 M o h hT
          unfold F_X3_findBestDerivations_J54 at h
          obtain ⟨x30, ex30, h⟩ := zlet_ex h
          have hx30 : inR x30 := by rw [ex30]; exact inR_w _
          refine j_iinc hC 2 dX3_findBestDerivations_54 rfl ex30 (Nat.le_of_ble_eq_true rfl) rfl ?_
          refine j_goto hC dX3_findBestDerivations_57 rfl ?_
          obtain rfl := Option.some.inj h
          refine j_sub [1, 2, 0] rfl ?_
          exact ih4 v1 x30 hv1 hx30 M hT
        intro v1 v2 hv1 hv2 M hl
        obtain ⟨o, h, hT⟩ := zloop_ex hl
        have h : F_X3_findBestDerivations_B4 v1 v2 M S = some o := by rw [ebd] at h; exact h
        unfold F_X3_findBestDerivations_B4 at h
        refine j_iload_n hC 2 dX3_findBestDerivations_4 rfl rfl ?_
        refine j_aload_n hC 0 dX3_findBestDerivations_5 rfl rfl ?_
        refine j_get hC dX3_findBestDerivations_6 f_X3_76 (zFx_kd hF 11 rfl) rfl 13 rfl (fun hg31 => ?_)
        refine j_icmp_ge hC dX3_findBestDerivations_9 rfl (w_id hv2) (w_id hg31) (fun c32 => ?_) (fun c32 => ?_)
        · have h := zf c32 h
          obtain rfl := Option.some.inj h
          have hx4 := hd4
          rw [← show _ = ex4 from hT] at hx4
          refine j_sub [0, 1] rfl ?_
          exact J_60 v1 hv1 M hx4
        · have h := zt c32 h
          refine j_aload_n hC 0 dX3_findBestDerivations_12 rfl rfl ?_
          refine j_getq (q := 20) hC dX3_findBestDerivations_13 f_X3_39 (zFx_kd hF 11 rfl) rfl 8 rfl (zFx_rf hF 11 8 rfl) ?_
          refine j_iload_n hC 2 dX3_findBestDerivations_16 rfl rfl ?_
          refine j_aload_n hC 0 dX3_findBestDerivations_17 rfl rfl ?_
          refine j_getq (q := 17) hC dX3_findBestDerivations_18 f_X3_30 (zFx_kd hF 11 rfl) rfl 5 rfl (zFx_rf hF 11 5 rfl) ?_
          refine j_iload_n hC 2 dX3_findBestDerivations_21 rfl rfl ?_
          obtain ⟨r33, hy, h⟩ := zb1_ex h
          refine j_callSi hC hE lk_X3_127 dX3_findBestDerivations_22 (c_X6_at l hlt g 17 v2 hv2 M S hF hy) [zr g 17, .int (zi v2)] [.int (zi v2), zr g 20] rfl rfl rfl (zcat (Nat.le_of_ble_eq_true rfl)) (Nat.le_of_ble_eq_true rfl) (Nat.le_of_ble_eq_true rfl) (Nat.le_of_ble_eq_true rfl) (Nat.le_of_ble_eq_true rfl) (fun hp34 => ?_)
          have hr33 := hp34
          refine j_iconst hC dX3_findBestDerivations_25 ?_
          refine j_isub hC dX3_findBestDerivations_26 ?_
          obtain ⟨M35, hy, h⟩ := zb1_ex h
          refine j_callSv hC hE lk_X3_96 dX3_findBestDerivations_27 (c_X6_put l hlt g 20 v2 (w (r33 - 1)) hv2 (inR_w _) M S hF hy) [zr g 20, .int (zi v2), .int (zi (r33 - 1))] [] rfl (by simp only [zi_w, zl_wl]) rfl (zcat (Nat.le_of_ble_eq_true rfl)) (Nat.le_of_ble_eq_true rfl) (Nat.le_of_ble_eq_true rfl) (Nat.le_of_ble_eq_true rfl) (Nat.le_of_ble_eq_true rfl) (fun hp36 => ?_)
          refine j_aload_n hC 0 dX3_findBestDerivations_30 rfl rfl ?_
          refine j_getq (q := 17) hC dX3_findBestDerivations_31 f_X3_30 (zFx_kd hF 11 rfl) rfl 5 rfl (zFx_rf hF 11 5 rfl) ?_
          refine j_iload_n hC 2 dX3_findBestDerivations_34 rfl rfl ?_
          obtain ⟨r37, hy, h⟩ := zb1_ex h
          refine j_callSi hC hE lk_X3_127 dX3_findBestDerivations_35 (c_X6_at l hlt g 17 v2 hv2 M35 S hF hy) [zr g 17, .int (zi v2)] [] rfl rfl rfl (zcat (Nat.le_of_ble_eq_true rfl)) (Nat.le_of_ble_eq_true rfl) (Nat.le_of_ble_eq_true rfl) (Nat.le_of_ble_eq_true rfl) (Nat.le_of_ble_eq_true rfl) (fun hp38 => ?_)
          have hr37 := hp38
          refine j_iconst hC dX3_findBestDerivations_38 ?_
          refine j_icmp_ne hC dX3_findBestDerivations_39 rfl (w_id hr37) (w_id kR_1) (fun c39 => ?_) (fun c39 => ?_)
          · have h := zf c39 h
            exact J_54 v1 v2 hv1 hv2 M35 _ h hT
          · have h := zt c39 h
            refine j_aload_n hC 0 dX3_findBestDerivations_42 rfl rfl ?_
            refine j_getq (q := 19) hC dX3_findBestDerivations_43 f_X3_36 (zFx_kd hF 11 rfl) rfl 7 rfl (zFx_rf hF 11 7 rfl) ?_
            refine j_iload_n hC 1 dX3_findBestDerivations_46 rfl rfl ?_
            refine j_iload_n hC 2 dX3_findBestDerivations_47 rfl rfl ?_
            obtain ⟨M40, hy, h⟩ := zb1_ex h
            refine j_callSv hC hE lk_X3_96 dX3_findBestDerivations_48 (c_X6_put l hlt g 19 v1 v2 hv1 hv2 M35 S hF hy) [zr g 19, .int (zi v1), .int (zi v2)] [] rfl rfl rfl (zcat (Nat.le_of_ble_eq_true rfl)) (Nat.le_of_ble_eq_true rfl) (Nat.le_of_ble_eq_true rfl) (Nat.le_of_ble_eq_true rfl) (Nat.le_of_ble_eq_true rfl) (fun hp41 => ?_)
            obtain ⟨x42, ex42, h⟩ := zlet_ex h
            have hx42 : inR x42 := by rw [ex42]; exact inR_w _
            refine j_iinc hC 1 dX3_findBestDerivations_51 rfl ex42 (Nat.le_of_ble_eq_true rfl) rfl ?_
            refine j_sub [1, 0, 2] rfl ?_
            exact J_54 x42 v2 hx42 hv2 M40 _ h hT
    exact main zN v1 v2 hv1 hv2 M hl
  refine j_iconst hC dX3_findBestDerivations_0 ?_
  refine j_istore_n hC dX3_findBestDerivations_1 rfl (Nat.le_of_ble_eq_true rfl) rfl ?_
  refine j_iconst hC dX3_findBestDerivations_2 ?_
  refine j_istore_n hC dX3_findBestDerivations_3 rfl (Nat.le_of_ble_eq_true rfl) rfl ?_
  refine j_sub [2, 1, 0] rfl ?_
  exact L_4 0 0 kR_0 kR_0 M h
set_option maxHeartbeats 4000000 in
set_option maxRecDepth 100000 in
theorem c_X3_build (l : Launch) (hlt : l.stackTraces = false) (g : zG) (M : zM) (S : zS) (hF : zFx S) {M' : zM} (h : F_X3_build M S = some M') : zMet l g yX3_build cX3_build 3 none 8 0 0 [zr g 11, zr g 5] M S (.inl none) M' S (True) := by
  refine zMet_of (by decide) hlt [(0, zr g 11), (1, zr g 5)] rfl (Nat.le_of_ble_eq_true rfl) (fun K hC hE hN => ?_)
  unfold F_X3_build at h
  have J_105 : ∀ (M : zM) (_ : F_X3_build_J105 M S = some M'), zJ K g 0 0 105 3 [(0, zr g 11), (1, zr g 5)] [] M S := by
    intro M h
    unfold F_X3_build_J105 at h
    refine j_aload_n hC 0 dX3_build_105 rfl rfl ?_
    refine j_getz hC dX3_build_106 f_X3_79 (zFx_kd hF 11 rfl) rfl 15 rfl (fun hg1 => ?_)
    refine j_if_ne hC dX3_build_109 rfl (w_id (inR_b hg1)) (fun c2 => ?_) (fun c2 => ?_)
    · have h := zf c2 h
      have e1 := Option.some.inj h
      exact j_vret hC hE dX3_build_129 rfl e1 rfl trivial (Nat.le_of_ble_eq_true rfl) (Nat.le_of_ble_eq_true rfl)
    · have h := zt c2 h
      refine j_aload_n hC 0 dX3_build_112 rfl rfl ?_
      refine j_aload_n hC 1 dX3_build_113 rfl rfl ?_
      obtain ⟨M3, hy, h⟩ := zb1_ex h
      refine j_callVv (ci := 3) hC hE lk_X3_102 dX3_build_114 (c_X3_numberWords l hlt g M S hF hy) [zr g 5] [] (zFx_kd hF 11 rfl) ⟨_, rfl, by decide, rfl⟩ rfl rfl rfl (zcat (Nat.le_of_ble_eq_true rfl)) (Nat.le_of_ble_eq_true rfl) (Nat.le_of_ble_eq_true rfl) (Nat.le_of_ble_eq_true rfl) (Nat.le_of_ble_eq_true rfl) (fun hp4 => ?_)
      refine j_aload_n hC 0 dX3_build_117 rfl rfl ?_
      obtain ⟨M5, hy, h⟩ := zb1_ex h
      refine j_callVv (ci := 3) hC hE lk_X3_106 dX3_build_118 (c_X3_countPaths l hlt g M3 S hF hy) [] [] (zFx_kd hF 11 rfl) ⟨_, rfl, by decide, rfl⟩ rfl rfl rfl (zcat (Nat.le_of_ble_eq_true rfl)) (Nat.le_of_ble_eq_true rfl) (Nat.le_of_ble_eq_true rfl) (Nat.le_of_ble_eq_true rfl) (Nat.le_of_ble_eq_true rfl) (fun hp6 => ?_)
      refine j_aload_n hC 0 dX3_build_121 rfl rfl ?_
      obtain ⟨M7, hy, h⟩ := zb1_ex h
      refine j_callVv (ci := 3) hC hE lk_X3_109 dX3_build_122 (c_X3_findFollowers l hlt g M5 S hF hy) [] [] (zFx_kd hF 11 rfl) ⟨_, rfl, by decide, rfl⟩ rfl rfl rfl (zcat (Nat.le_of_ble_eq_true rfl)) (Nat.le_of_ble_eq_true rfl) (Nat.le_of_ble_eq_true rfl) (Nat.le_of_ble_eq_true rfl) (Nat.le_of_ble_eq_true rfl) (fun hp8 => ?_)
      refine j_aload_n hC 0 dX3_build_125 rfl rfl ?_
      obtain ⟨M9, hy, h⟩ := zb1_ex h
      refine j_callVv (ci := 3) hC hE lk_X3_112 dX3_build_126 (c_X3_findBestDerivations l hlt g M7 S hF hy) [] [] (zFx_kd hF 11 rfl) ⟨_, rfl, by decide, rfl⟩ rfl rfl rfl (zcat (Nat.le_of_ble_eq_true rfl)) (Nat.le_of_ble_eq_true rfl) (Nat.le_of_ble_eq_true rfl) (Nat.le_of_ble_eq_true rfl) (Nat.le_of_ble_eq_true rfl) (fun hp10 => ?_)
      have e1 := Option.some.inj h
      exact j_vret hC hE dX3_build_129 rfl e1 rfl trivial (Nat.le_of_ble_eq_true rfl) (Nat.le_of_ble_eq_true rfl)
  have L_46 : ∀ (v2 : Int) (hv2 : inR v2) (M : zM) (_ : F_X3_build_L46 v2 M S = some M'), zJ K g 0 0 46 3 [(0, zr g 11), (1, zr g 5), (2, .int (zi v2))] [] M S := by
    intro v2 hv2 M h
    unfold F_X3_build_L46 at h
    obtain ⟨ex46, hl, hd46⟩ := zb1_ex h
    obtain ⟨bd46, ebd⟩ : ∃ f, f = (fun (s : Int × zM) => F_X3_build_B46 s.1 s.2 S) := ⟨_, rfl⟩
    rw [← ebd] at hl
    have main : ∀ (n46 : Nat) (v2 : Int) (hv2 : inR v2) (M : zM) (_ : zloop bd46 n46 (v2, M) = some ex46), zJ K g 0 0 46 3 [(0, zr g 11), (1, zr g 5), (2, .int (zi v2))] [] M S := by
      intro n46
      induction n46 with
      | zero => intro v2 hv2 M hl; exact zloop_0 hl
      | succ n46 ih46 =>
        intro v2 hv2 M hl
        obtain ⟨o, h, hT⟩ := zloop_ex hl
        have h : F_X3_build_B46 v2 M S = some o := by rw [ebd] at h; exact h
        unfold F_X3_build_B46 at h
        refine j_iload_n hC 2 dX3_build_46 rfl rfl ?_
        refine j_aload_n hC 0 dX3_build_47 rfl rfl ?_
        refine j_get hC dX3_build_48 f_X3_76 (zFx_kd hF 11 rfl) rfl 13 rfl (fun hg11 => ?_)
        refine j_icmp_ge hC dX3_build_51 rfl (w_id hv2) (w_id hg11) (fun c12 => ?_) (fun c12 => ?_)
        · have h := zf c12 h
          obtain rfl := Option.some.inj h
          have hx46 := hd46
          rw [← show _ = ex46 from hT] at hx46
          refine j_sub [0, 1] rfl ?_
          exact J_105 M hx46
        · have h := zt c12 h
          refine j_iload_n hC 2 dX3_build_54 rfl rfl ?_
          refine j_sipush hC dX3_build_55 rfl ?_
          refine j_icmp_ge hC dX3_build_58 rfl (w_id hv2) (w_id kR_300) (fun c13 => ?_) (fun c13 => ?_)
          · have h := zf c13 h
            obtain rfl := Option.some.inj h
            have hx46 := hd46
            rw [← show _ = ex46 from hT] at hx46
            refine j_sub [0, 1] rfl ?_
            exact J_105 M hx46
          · have h := zt c13 h
            refine j_aload_n hC 0 dX3_build_61 rfl rfl ?_
            refine j_getz hC dX3_build_62 f_X3_79 (zFx_kd hF 11 rfl) rfl 15 rfl (fun hg14 => ?_)
            refine j_if_ne hC dX3_build_65 rfl (w_id (inR_b hg14)) (fun c15 => ?_) (fun c15 => ?_)
            · have h := zf c15 h
              obtain rfl := Option.some.inj h
              have hx46 := hd46
              rw [← show _ = ex46 from hT] at hx46
              refine j_sub [0, 1] rfl ?_
              exact J_105 M hx46
            · have h := zt c15 h
              refine j_aload_n hC 0 dX3_build_68 rfl rfl ?_
              refine j_aload_n hC 1 dX3_build_69 rfl rfl ?_
              refine j_aload_n hC 0 dX3_build_70 rfl rfl ?_
              refine j_iload_n hC 2 dX3_build_71 rfl rfl ?_
              obtain ⟨r16, hy, h⟩ := zb1_ex h
              refine j_callVi (ci := 3) hC hE lk_X3_83 dX3_build_72 (c_X3_wordAt l hlt g v2 hv2 M S hF hy) [.int (zi v2)] [zr g 5, zr g 11] (zFx_kd hF 11 rfl) ⟨_, rfl, by decide, rfl⟩ rfl rfl rfl (zcat (Nat.le_of_ble_eq_true rfl)) (Nat.le_of_ble_eq_true rfl) (Nat.le_of_ble_eq_true rfl) (Nat.le_of_ble_eq_true rfl) (Nat.le_of_ble_eq_true rfl) (fun hp17 => ?_)
              have hr16 := hp17
              refine j_aload_n hC 0 dX3_build_75 rfl rfl ?_
              refine j_getq (q := 16) hC dX3_build_76 f_X3_27 (zFx_kd hF 11 rfl) rfl 4 rfl (zFx_rf hF 11 4 rfl) ?_
              obtain ⟨r18, M19, hy, h⟩ := zb2_ex h
              refine j_callVi (ci := 2) hC hE lk_X3_86 dX3_build_79 (c_X2_findInsertions l hlt g r16 16 hr16 M S hF hy) [.int (zi r16), zr g 16] [zr g 11] (zFx_kd hF 5 rfl) ⟨_, rfl, by decide, rfl⟩ rfl rfl rfl (zcat (Nat.le_of_ble_eq_true rfl)) (Nat.le_of_ble_eq_true rfl) (Nat.le_of_ble_eq_true rfl) (Nat.le_of_ble_eq_true rfl) (Nat.le_of_ble_eq_true rfl) (fun hp20 => ?_)
              have hr18 := hp20
              obtain ⟨M21, hy, h⟩ := zb1_ex h
              refine j_callVv (ci := 3) hC hE lk_X3_90 dX3_build_82 (c_X3_addResults l hlt g r18 hr18 M19 S hF hy) [.int (zi r18)] [] (zFx_kd hF 11 rfl) ⟨_, rfl, by decide, rfl⟩ rfl rfl rfl (zcat (Nat.le_of_ble_eq_true rfl)) (Nat.le_of_ble_eq_true rfl) (Nat.le_of_ble_eq_true rfl) (Nat.le_of_ble_eq_true rfl) (Nat.le_of_ble_eq_true rfl) (fun hp22 => ?_)
              refine j_aload_n hC 0 dX3_build_85 rfl rfl ?_
              refine j_getq (q := 15) hC dX3_build_86 f_X3_24 (zFx_kd hF 11 rfl) rfl 3 rfl (zFx_rf hF 11 3 rfl) ?_
              refine j_iload_n hC 2 dX3_build_89 rfl rfl ?_
              refine j_iconst hC dX3_build_90 ?_
              refine j_iadd hC dX3_build_91 ?_
              refine j_aload_n hC 0 dX3_build_92 rfl rfl ?_
              refine j_get hC dX3_build_93 f_X3_93 (zFx_kd hF 11 rfl) rfl 14 rfl (fun hg23 => ?_)
              obtain ⟨M24, hy, h⟩ := zb1_ex h
              refine j_callSv hC hE lk_X3_96 dX3_build_96 (c_X6_put l hlt g 15 (w (v2 + 1)) (M21 11 14) (inR_w _) hg23 M21 S hF hy) [zr g 15, .int (zi (v2 + 1)), .int (zi (M21 11 14))] [] rfl (by simp only [zi_w, zl_wl]) rfl (zcat (Nat.le_of_ble_eq_true rfl)) (Nat.le_of_ble_eq_true rfl) (Nat.le_of_ble_eq_true rfl) (Nat.le_of_ble_eq_true rfl) (Nat.le_of_ble_eq_true rfl) (fun hp25 => ?_)
              obtain ⟨x26, ex26, h⟩ := zlet_ex h
              have hx26 : inR x26 := by rw [ex26]; exact inR_w _
              refine j_iinc hC 2 dX3_build_99 rfl ex26 (Nat.le_of_ble_eq_true rfl) rfl ?_
              refine j_goto hC dX3_build_102 rfl ?_
              obtain rfl := Option.some.inj h
              refine j_sub [1, 2, 0] rfl ?_
              exact ih46 x26 hx26 M24 hT
    exact main zN v2 hv2 M hl
  have J_44 : ∀ (M : zM) (_ : F_X3_build_J44 M S = some M'), zJ K g 0 0 44 3 [(0, zr g 11), (1, zr g 5)] [] M S := by
    intro M h
    unfold F_X3_build_J44 at h
    refine j_iconst hC dX3_build_44 ?_
    refine j_istore_n hC dX3_build_45 rfl (Nat.le_of_ble_eq_true rfl) rfl ?_
    refine j_sub [1, 2, 0] rfl ?_
    exact L_46 0 kR_0 M h
  have L_6 : ∀ (v2 : Int) (hv2 : inR v2) (M : zM) (_ : F_X3_build_L6 v2 M S = some M'), zJ K g 0 0 6 3 [(0, zr g 11), (1, zr g 5), (2, .int (zi v2))] [] M S := by
    intro v2 hv2 M h
    unfold F_X3_build_L6 at h
    obtain ⟨ex6, hl, hd6⟩ := zb1_ex h
    obtain ⟨bd6, ebd⟩ : ∃ f, f = (fun (s : Int × zM) => F_X3_build_B6 s.1 s.2 S) := ⟨_, rfl⟩
    rw [← ebd] at hl
    have main : ∀ (n6 : Nat) (v2 : Int) (hv2 : inR v2) (M : zM) (_ : zloop bd6 n6 (v2, M) = some ex6), zJ K g 0 0 6 3 [(0, zr g 11), (1, zr g 5), (2, .int (zi v2))] [] M S := by
      intro n6
      induction n6 with
      | zero => intro v2 hv2 M hl; exact zloop_0 hl
      | succ n6 ih6 =>
        have J_38 : ∀ (v2 : Int) (hv2 : inR v2) (M : zM) (o : _) (_ : F_X3_build_J38 v2 M S = some o), zAft (bd6) n6 ex6 o → zJ K g 0 0 38 3 [(0, zr g 11), (1, zr g 5), (2, .int (zi v2))] [] M S := by
          intro v2 hv2 M o h hT
          unfold F_X3_build_J38 at h
          obtain ⟨x27, ex27, h⟩ := zlet_ex h
          have hx27 : inR x27 := by rw [ex27]; exact inR_w _
          refine j_iinc hC 2 dX3_build_38 rfl ex27 (Nat.le_of_ble_eq_true rfl) rfl ?_
          refine j_goto hC dX3_build_41 rfl ?_
          obtain rfl := Option.some.inj h
          refine j_sub [1, 2, 0] rfl ?_
          exact ih6 x27 hx27 M hT
        intro v2 hv2 M hl
        obtain ⟨o, h, hT⟩ := zloop_ex hl
        have h : F_X3_build_B6 v2 M S = some o := by rw [ebd] at h; exact h
        unfold F_X3_build_B6 at h
        refine j_iload_n hC 2 dX3_build_6 rfl rfl ?_
        refine j_aload_n hC 1 dX3_build_7 rfl rfl ?_
        refine j_get hC dX3_build_8 f_X3_58 (zFx_kd hF 5 rfl) rfl 2 rfl (fun hg28 => ?_)
        refine j_icmp_ge hC dX3_build_11 rfl (w_id hv2) (w_id hg28) (fun c29 => ?_) (fun c29 => ?_)
        · have h := zf c29 h
          obtain rfl := Option.some.inj h
          have hx6 := hd6
          rw [← show _ = ex6 from hT] at hx6
          refine j_sub [0, 1] rfl ?_
          exact J_44 M hx6
        · have h := zt c29 h
          refine j_aload_n hC 1 dX3_build_14 rfl rfl ?_
          refine j_iload_n hC 2 dX3_build_15 rfl rfl ?_
          obtain ⟨r30, hy, h⟩ := zb1_ex h
          refine j_callVi (ci := 2) hC hE lk_X3_62 dX3_build_16 (c_X2_axiom l hlt g v2 hv2 M S hF hy) [.int (zi v2)] [] (zFx_kd hF 5 rfl) ⟨_, rfl, by decide, rfl⟩ rfl rfl rfl (zcat (Nat.le_of_ble_eq_true rfl)) (Nat.le_of_ble_eq_true rfl) (Nat.le_of_ble_eq_true rfl) (Nat.le_of_ble_eq_true rfl) (Nat.le_of_ble_eq_true rfl) (fun hp31 => ?_)
          have hr30 := hp31
          obtain ⟨r32, hy, h⟩ := zb1_ex h
          refine j_callSi hC hE lk_X3_66 dX3_build_19 (c_X9_length l hlt g r30 hr30 M S hy) [.int (zi r30)] [] rfl rfl rfl (zcat (Nat.le_of_ble_eq_true rfl)) (Nat.le_of_ble_eq_true rfl) (Nat.le_of_ble_eq_true rfl) (Nat.le_of_ble_eq_true rfl) (Nat.le_of_ble_eq_true rfl) (fun hp33 => ?_)
          have hr32 := hp33
          refine j_aload_n hC 1 dX3_build_22 rfl rfl ?_
          refine j_get hC dX3_build_23 f_X3_69 (zFx_kd hF 5 rfl) rfl 5 rfl (fun hg34 => ?_)
          refine j_icmp_gt hC dX3_build_26 rfl (w_id hr32) (w_id hg34) (fun c35 => ?_) (fun c35 => ?_)
          · have h := zt c35 h
            exact J_38 v2 hv2 M _ h hT
          · have h := zf c35 h
            refine j_aload_n hC 0 dX3_build_29 rfl rfl ?_
            refine j_aload_n hC 1 dX3_build_30 rfl rfl ?_
            refine j_iload_n hC 2 dX3_build_31 rfl rfl ?_
            obtain ⟨r36, hy, h⟩ := zb1_ex h
            refine j_callVi (ci := 2) hC hE lk_X3_62 dX3_build_32 (c_X2_axiom l hlt g v2 hv2 M S hF hy) [.int (zi v2)] [zr g 11] (zFx_kd hF 5 rfl) ⟨_, rfl, by decide, rfl⟩ rfl rfl rfl (zcat (Nat.le_of_ble_eq_true rfl)) (Nat.le_of_ble_eq_true rfl) (Nat.le_of_ble_eq_true rfl) (Nat.le_of_ble_eq_true rfl) (Nat.le_of_ble_eq_true rfl) (fun hp37 => ?_)
            have hr36 := hp37
            obtain ⟨M38, hy, h⟩ := zb1_ex h
            refine j_callVv (ci := 3) hC hE lk_X3_72 dX3_build_35 (c_X3_addWord l hlt g r36 hr36 M S hF hy) [.int (zi r36)] [] (zFx_kd hF 11 rfl) ⟨_, rfl, by decide, rfl⟩ rfl rfl rfl (zcat (Nat.le_of_ble_eq_true rfl)) (Nat.le_of_ble_eq_true rfl) (Nat.le_of_ble_eq_true rfl) (Nat.le_of_ble_eq_true rfl) (Nat.le_of_ble_eq_true rfl) (fun hp39 => ?_)
            exact J_38 v2 hv2 M38 _ h hT
    exact main zN v2 hv2 M hl
  refine j_aload_n hC 0 dX3_build_0 rfl rfl ?_
  obtain ⟨M40, hy, h⟩ := zb1_ex h
  refine j_callVv (ci := 3) hC hE lk_X3_55 dX3_build_1 (c_X3_forget l hlt g M S hF hy) [] [] (zFx_kd hF 11 rfl) ⟨_, rfl, by decide, rfl⟩ rfl rfl rfl (zcat (Nat.le_of_ble_eq_true rfl)) (Nat.le_of_ble_eq_true rfl) (Nat.le_of_ble_eq_true rfl) (Nat.le_of_ble_eq_true rfl) (Nat.le_of_ble_eq_true rfl) (fun hp41 => ?_)
  refine j_iconst hC dX3_build_4 ?_
  refine j_istore_n hC dX3_build_5 rfl (Nat.le_of_ble_eq_true rfl) rfl ?_
  refine j_sub [1, 2, 0] rfl ?_
  exact L_6 0 kR_0 M40 h
set_option maxHeartbeats 4000000 in
set_option maxRecDepth 100000 in
theorem c_X3_wordsOfLength (l : Launch) (hlt : l.stackTraces = false) (g : zG) (v1 : Int) (hv1 : inR v1) (M : zM) (S : zS) (hF : zFx S) {r : Int} (h : F_X3_wordsOfLength v1 M S = some r) : zMet l g yX3_wordsOfLength cX3_wordsOfLength 4 (some .int) 3 0 0 [zr g 11, .int (zi v1)] M S (.inl (some (.int (zi r)))) M S (inR r) := by
  refine zMet_of (by decide) hlt [(0, zr g 11), (1, .int (zi v1))] rfl (Nat.le_of_ble_eq_true rfl) (fun K hC hE hN => ?_)
  unfold F_X3_wordsOfLength at h
  have J_33 : ∀ (v2 : Int) (hv2 : inR v2) (_ : F_X3_wordsOfLength_J33 v2 M S = some r), zJ K g 0 0 33 4 [(2, .int (zi v2))] [] M S := by
    intro v2 hv2 h
    unfold F_X3_wordsOfLength_J33 at h
    refine j_iload_n hC 0 dX3_wordsOfLength_33 rfl rfl ?_
    have e1 := Option.some.inj h
    exact j_iret hC hE dX3_wordsOfLength_34 (w_id hv2) (zn_i _) (by rw [← e1]) rfl rfl (by rw [← e1]; exact hv2) (Nat.le_of_ble_eq_true rfl) (Nat.le_of_ble_eq_true rfl)
  have L_4 : ∀ (v1 : Int) (v2 : Int) (v3 : Int) (hv1 : inR v1) (hv2 : inR v2) (hv3 : inR v3) (_ : F_X3_wordsOfLength_L4 v1 v2 v3 M S = some r), zJ K g 0 0 4 4 [(0, zr g 11), (1, .int (zi v1)), (2, .int (zi v2)), (3, .int (zi v3))] [] M S := by
    intro v1 v2 v3 hv1 hv2 hv3 h
    unfold F_X3_wordsOfLength_L4 at h
    obtain ⟨ex4, hl, hd4⟩ := zb1_ex h
    obtain ⟨bd4, ebd⟩ : ∃ f, f = (fun (s : Int × Int) => F_X3_wordsOfLength_B4 v1 s.1 s.2 M S) := ⟨_, rfl⟩
    rw [← ebd] at hl
    have main : ∀ (n4 : Nat) (v2 : Int) (v3 : Int) (hv2 : inR v2) (hv3 : inR v3) (_ : zloop bd4 n4 (v2, v3) = some ex4), zJ K g 0 0 4 4 [(0, zr g 11), (1, .int (zi v1)), (2, .int (zi v2)), (3, .int (zi v3))] [] M S := by
      intro n4
      induction n4 with
      | zero => intro v2 v3 hv2 hv3 hl; exact zloop_0 hl
      | succ n4 ih4 =>
        have J_27 : ∀ (v2 : Int) (v3 : Int) (hv2 : inR v2) (hv3 : inR v3) (o : _) (_ : F_X3_wordsOfLength_J27 v1 v2 v3 M S = some o), zAft (bd4) n4 ex4 o → zJ K g 0 0 27 4 [(0, zr g 11), (1, .int (zi v1)), (2, .int (zi v2)), (3, .int (zi v3))] [] M S := by
          intro v2 v3 hv2 hv3 o h hT
          unfold F_X3_wordsOfLength_J27 at h
          obtain ⟨x1, ex1, h⟩ := zlet_ex h
          have hx1 : inR x1 := by rw [ex1]; exact inR_w _
          refine j_iinc hC 3 dX3_wordsOfLength_27 rfl ex1 (Nat.le_of_ble_eq_true rfl) rfl ?_
          refine j_goto hC dX3_wordsOfLength_30 rfl ?_
          obtain rfl := Option.some.inj h
          refine j_sub [1, 2, 3, 0] rfl ?_
          exact ih4 v2 x1 hv2 hx1 hT
        intro v2 v3 hv2 hv3 hl
        obtain ⟨o, h, hT⟩ := zloop_ex hl
        have h : F_X3_wordsOfLength_B4 v1 v2 v3 M S = some o := by rw [ebd] at h; exact h
        unfold F_X3_wordsOfLength_B4 at h
        refine j_iload_n hC 3 dX3_wordsOfLength_4 rfl rfl ?_
        refine j_aload_n hC 0 dX3_wordsOfLength_5 rfl rfl ?_
        refine j_get hC dX3_wordsOfLength_6 f_X3_76 (zFx_kd hF 11 rfl) rfl 13 rfl (fun hg2 => ?_)
        refine j_icmp_ge hC dX3_wordsOfLength_9 rfl (w_id hv3) (w_id hg2) (fun c3 => ?_) (fun c3 => ?_)
        · have h := zf c3 h
          obtain rfl := Option.some.inj h
          have hx4 := hd4
          rw [← show _ = ex4 from hT] at hx4
          refine j_sub [2] rfl ?_
          exact J_33 v2 hv2 hx4
        · have h := zt c3 h
          refine j_aload_n hC 0 dX3_wordsOfLength_12 rfl rfl ?_
          refine j_iload_n hC 3 dX3_wordsOfLength_13 rfl rfl ?_
          obtain ⟨r4, hy, h⟩ := zb1_ex h
          refine j_callVi (ci := 3) hC hE lk_X3_83 dX3_wordsOfLength_14 (c_X3_wordAt l hlt g v3 hv3 M S hF hy) [.int (zi v3)] [] (zFx_kd hF 11 rfl) ⟨_, rfl, by decide, rfl⟩ rfl rfl rfl (zcat (Nat.le_of_ble_eq_true rfl)) (Nat.le_of_ble_eq_true rfl) (Nat.le_of_ble_eq_true rfl) (Nat.le_of_ble_eq_true rfl) (Nat.le_of_ble_eq_true rfl) (fun hp5 => ?_)
          have hr4 := hp5
          obtain ⟨r6, hy, h⟩ := zb1_ex h
          refine j_callSi hC hE lk_X3_66 dX3_wordsOfLength_17 (c_X9_length l hlt g r4 hr4 M S hy) [.int (zi r4)] [] rfl rfl rfl (zcat (Nat.le_of_ble_eq_true rfl)) (Nat.le_of_ble_eq_true rfl) (Nat.le_of_ble_eq_true rfl) (Nat.le_of_ble_eq_true rfl) (Nat.le_of_ble_eq_true rfl) (fun hp7 => ?_)
          have hr6 := hp7
          refine j_iload_n hC 1 dX3_wordsOfLength_20 rfl rfl ?_
          refine j_icmp_ne hC dX3_wordsOfLength_21 rfl (w_id hr6) (w_id hv1) (fun c8 => ?_) (fun c8 => ?_)
          · have h := zf c8 h
            exact J_27 v2 v3 hv2 hv3 _ h hT
          · have h := zt c8 h
            obtain ⟨x9, ex9, h⟩ := zlet_ex h
            have hx9 : inR x9 := by rw [ex9]; exact inR_w _
            refine j_iinc hC 2 dX3_wordsOfLength_24 rfl ex9 (Nat.le_of_ble_eq_true rfl) rfl ?_
            refine j_sub [1, 2, 0, 3] rfl ?_
            exact J_27 x9 v3 hx9 hv3 _ h hT
    exact main zN v2 v3 hv2 hv3 hl
  refine j_iconst hC dX3_wordsOfLength_0 ?_
  refine j_istore_n hC dX3_wordsOfLength_1 rfl (Nat.le_of_ble_eq_true rfl) rfl ?_
  refine j_iconst hC dX3_wordsOfLength_2 ?_
  refine j_istore_n hC dX3_wordsOfLength_3 rfl (Nat.le_of_ble_eq_true rfl) rfl ?_
  refine j_sub [2, 3, 1, 0] rfl ?_
  exact L_4 v1 0 0 hv1 kR_0 kR_0 h
set_option maxHeartbeats 4000000 in
set_option maxRecDepth 100000 in
theorem c_X3_isGeneratedBy (l : Launch) (hlt : l.stackTraces = false) (g : zG) (v1 : Int) (hv1 : inR v1) (M : zM) (S : zS) (hF : zFx S) {r : Int} {M' : zM} (h : F_X3_isGeneratedBy v1 M S = some (r, M')) : zMet l g yX3_isGeneratedBy cX3_isGeneratedBy 5 (some .boolean) 3 0 0 [zr g 11, .int (zi v1)] M S (.inl (some (.int (zi r)))) M' S (inR r) := by
  refine zMet_of (by decide) hlt [(0, zr g 11), (1, .int (zi v1))] rfl (Nat.le_of_ble_eq_true rfl) (fun K hC hE hN => ?_)
  unfold F_X3_isGeneratedBy at h
  have J_109 : ∀ (M : zM) (_ : F_X3_isGeneratedBy_J109 M S = some (r, M')), zJ K g 0 0 109 5 [] [] M S := by
    intro M h
    unfold F_X3_isGeneratedBy_J109 at h
    refine j_iconst hC dX3_isGeneratedBy_109 ?_
    obtain ⟨e1, e2⟩ := zpr2 (Option.some.inj h)
    exact j_iret hC hE dX3_isGeneratedBy_110 (w_id kR_1) (zn_z zb01_1) (by rw [← e1]) e2 rfl (by rw [← e1]; exact kR_1) (Nat.le_of_ble_eq_true rfl) (Nat.le_of_ble_eq_true rfl)
  have J_37 : ∀ (M : zM) (_ : F_X3_isGeneratedBy_J37 M S = some (r, M')), zJ K g 0 0 37 5 [] [] M S := by
    intro M h
    unfold F_X3_isGeneratedBy_J37 at h
    refine j_iconst hC dX3_isGeneratedBy_37 ?_
    obtain ⟨e1, e2⟩ := zpr2 (Option.some.inj h)
    exact j_iret hC hE dX3_isGeneratedBy_38 (w_id kR_0) (zn_z zb01_0) (by rw [← e1]) e2 rfl (by rw [← e1]; exact kR_0) (Nat.le_of_ble_eq_true rfl) (Nat.le_of_ble_eq_true rfl)
  have L_18 : ∀ (v1 : Int) (v2 : Int) (hv1 : inR v1) (hv2 : inR v2) (M : zM) (_ : F_X3_isGeneratedBy_L18 v1 v2 M S = some (r, M')), zJ K g 0 0 18 5 [(0, zr g 11), (1, .int (zi v1)), (2, .int (zi v2))] [] M S := by
    intro v1 v2 hv1 hv2 M h
    unfold F_X3_isGeneratedBy_L18 at h
    obtain ⟨ex18, hl, hd18⟩ := zb1_ex h
    obtain ⟨bd18, ebd⟩ : ∃ f, f = (fun (s : Int × zM) => F_X3_isGeneratedBy_B18 v1 s.1 s.2 S) := ⟨_, rfl⟩
    rw [← ebd] at hl
    have main : ∀ (n18 : Nat) (v2 : Int) (hv2 : inR v2) (M : zM) (_ : zloop bd18 n18 (v2, M) = some ex18), zJ K g 0 0 18 5 [(0, zr g 11), (1, .int (zi v1)), (2, .int (zi v2))] [] M S := by
      intro n18
      induction n18 with
      | zero => intro v2 hv2 M hl; exact zloop_0 hl
      | succ n18 ih18 =>
        have J_103 : ∀ (v2 : Int) (hv2 : inR v2) (M : zM) (o : _) (_ : F_X3_isGeneratedBy_J103 v1 v2 M S = some o), zAft (bd18) n18 ex18 o → zJ K g 0 0 103 5 [(0, zr g 11), (1, .int (zi v1)), (2, .int (zi v2))] [] M S := by
          intro v2 hv2 M o h hT
          unfold F_X3_isGeneratedBy_J103 at h
          obtain ⟨x1, ex1, h⟩ := zlet_ex h
          have hx1 : inR x1 := by rw [ex1]; exact inR_w _
          refine j_iinc hC 2 dX3_isGeneratedBy_103 rfl ex1 (Nat.le_of_ble_eq_true rfl) rfl ?_
          refine j_goto hC dX3_isGeneratedBy_106 rfl ?_
          obtain rfl := Option.some.inj h
          refine j_sub [1, 2, 0] rfl ?_
          exact ih18 x1 hx1 M hT
        have L_48 : ∀ (v2 : Int) (v3 : Int) (hv2 : inR v2) (hv3 : inR v3) (M : zM) (o : _) (_ : F_X3_isGeneratedBy_L48 v1 v2 v3 M S = some o), zAft (bd18) n18 ex18 o → zJ K g 0 0 48 5 [(0, zr g 11), (1, .int (zi v1)), (2, .int (zi v2)), (3, .int (zi v3))] [] M S := by
          intro v2 v3 hv2 hv3 M oh48 h hT48
          unfold F_X3_isGeneratedBy_L48 at h
          obtain ⟨ex48, hl, hd48⟩ := zb1_ex h
          obtain ⟨bd48, ebd⟩ : ∃ f, f = (fun (s : Int × zM) => F_X3_isGeneratedBy_B48 v1 v2 s.1 s.2 S) := ⟨_, rfl⟩
          rw [← ebd] at hl
          have main : ∀ (n48 : Nat) (v3 : Int) (hv3 : inR v3) (M : zM) (_ : zloop bd48 n48 (v3, M) = some ex48), zJ K g 0 0 48 5 [(0, zr g 11), (1, .int (zi v1)), (2, .int (zi v2)), (3, .int (zi v3))] [] M S := by
            intro n48
            induction n48 with
            | zero => intro v3 hv3 M hl; exact zloop_0 hl
            | succ n48 ih48 =>
              have J_97 : ∀ (v3 : Int) (hv3 : inR v3) (M : zM) (o : _) (_ : F_X3_isGeneratedBy_J97 v1 v2 v3 M S = some o), zAft (bd48) n48 ex48 o → zJ K g 0 0 97 5 [(0, zr g 11), (1, .int (zi v1)), (2, .int (zi v2)), (3, .int (zi v3))] [] M S := by
                intro v3 hv3 M o h hT
                unfold F_X3_isGeneratedBy_J97 at h
                obtain ⟨x2, ex2, h⟩ := zlet_ex h
                have hx2 : inR x2 := by rw [ex2]; exact inR_w _
                refine j_iinc hC 3 dX3_isGeneratedBy_97 rfl ex2 (Nat.le_of_ble_eq_true rfl) rfl ?_
                refine j_goto hC dX3_isGeneratedBy_100 rfl ?_
                obtain rfl := Option.some.inj h
                refine j_sub [1, 2, 3, 0] rfl ?_
                exact ih48 x2 hx2 M hT
              intro v3 hv3 M hl
              obtain ⟨o, h, hT⟩ := zloop_ex hl
              have h : F_X3_isGeneratedBy_B48 v1 v2 v3 M S = some o := by rw [ebd] at h; exact h
              unfold F_X3_isGeneratedBy_B48 at h
              refine j_iload_n hC 3 dX3_isGeneratedBy_48 rfl rfl ?_
              refine j_aload_n hC 0 dX3_isGeneratedBy_49 rfl rfl ?_
              refine j_getq (q := 15) hC dX3_isGeneratedBy_50 f_X3_24 (zFx_kd hF 11 rfl) rfl 3 rfl (zFx_rf hF 11 3 rfl) ?_
              refine j_iload_n hC 2 dX3_isGeneratedBy_53 rfl rfl ?_
              refine j_iconst hC dX3_isGeneratedBy_54 ?_
              refine j_iadd hC dX3_isGeneratedBy_55 ?_
              obtain ⟨r3, hy, h⟩ := zb1_ex h
              refine j_callSi hC hE lk_X3_127 dX3_isGeneratedBy_56 (c_X6_at l hlt g 15 (w (v2 + 1)) (inR_w _) M S hF hy) [zr g 15, .int (zi (v2 + 1))] [.int (zi v3)] rfl (by simp only [zi_w, zl_wl]) rfl (zcat (Nat.le_of_ble_eq_true rfl)) (Nat.le_of_ble_eq_true rfl) (Nat.le_of_ble_eq_true rfl) (Nat.le_of_ble_eq_true rfl) (Nat.le_of_ble_eq_true rfl) (fun hp4 => ?_)
              have hr3 := hp4
              refine j_icmp_ge hC dX3_isGeneratedBy_59 rfl (w_id hv3) (w_id hr3) (fun c5 => ?_) (fun c5 => ?_)
              · have h := zf c5 h
                obtain rfl := Option.some.inj h
                have hx48 := hd48
                rw [← show _ = ex48 from hT] at hx48
                refine j_sub [0, 1, 2] rfl ?_
                exact J_103 v2 hv2 M _ hx48 hT48
              · have h := zt c5 h
                refine j_aload_n hC 0 dX3_isGeneratedBy_62 rfl rfl ?_
                refine j_getq (q := 14) hC dX3_isGeneratedBy_63 f_X3_21 (zFx_kd hF 11 rfl) rfl 2 rfl (zFx_rf hF 11 2 rfl) ?_
                refine j_iload_n hC 3 dX3_isGeneratedBy_66 rfl rfl ?_
                obtain ⟨r6, hy, h⟩ := zb1_ex h
                refine j_callSi hC hE lk_X3_127 dX3_isGeneratedBy_67 (c_X6_at l hlt g 14 v3 hv3 M S hF hy) [zr g 14, .int (zi v3)] [] rfl rfl rfl (zcat (Nat.le_of_ble_eq_true rfl)) (Nat.le_of_ble_eq_true rfl) (Nat.le_of_ble_eq_true rfl) (Nat.le_of_ble_eq_true rfl) (Nat.le_of_ble_eq_true rfl) (fun hp7 => ?_)
                have hr6 := hp7
                refine j_istore hC dX3_isGeneratedBy_70 (Nat.le_of_ble_eq_true rfl) rfl ?_
                refine j_iload_n hC 2 dX3_isGeneratedBy_72 rfl rfl ?_
                refine j_iconst hC dX3_isGeneratedBy_73 ?_
                refine j_iload hC 0 dX3_isGeneratedBy_74 rfl ?_
                obtain ⟨r8, hy, h⟩ := zb1_ex h
                refine j_callSi hC hE lk_X3_152 dX3_isGeneratedBy_76 (c_X4_context l hlt g r6 hr6 M S hy) [.int (zi r6)] [.int (zi 1), .int (zi v1)] rfl rfl rfl (zcat (Nat.le_of_ble_eq_true rfl)) (Nat.le_of_ble_eq_true rfl) (Nat.le_of_ble_eq_true rfl) (Nat.le_of_ble_eq_true rfl) (Nat.le_of_ble_eq_true rfl) (fun hp9 => ?_)
                have hr8 := hp9
                refine j_ishl hC dX3_isGeneratedBy_79 ?_
                refine j_iand hC dX3_isGeneratedBy_80 ?_
                refine j_if_eq hC dX3_isGeneratedBy_81 rfl (w_id (cR_zand _ _)) (fun c10 => ?_) (fun c10 => ?_)
                · have h := zt c10 h
                  refine j_sub [1, 2, 3, 4] rfl ?_
                  exact J_97 v3 hv3 M _ h hT
                · have h := zf c10 h
                  refine j_aload_n hC 1 dX3_isGeneratedBy_84 rfl rfl ?_
                  refine j_getq (q := 18) hC dX3_isGeneratedBy_85 f_X3_33 (zFx_kd hF 11 rfl) rfl 6 rfl (zFx_rf hF 11 6 rfl) ?_
                  refine j_iload hC 0 dX3_isGeneratedBy_88 rfl ?_
                  obtain ⟨r11, hy, h⟩ := zb1_ex h
                  refine j_callSi hC hE lk_X3_134 dX3_isGeneratedBy_90 (c_X4_word l hlt g r6 hr6 M S hy) [.int (zi r6)] [zr g 18] rfl rfl rfl (zcat (Nat.le_of_ble_eq_true rfl)) (Nat.le_of_ble_eq_true rfl) (Nat.le_of_ble_eq_true rfl) (Nat.le_of_ble_eq_true rfl) (Nat.le_of_ble_eq_true rfl) (fun hp12 => ?_)
                  have hr11 := hp12
                  refine j_iconst hC dX3_isGeneratedBy_93 ?_
                  obtain ⟨M13, hy, h⟩ := zb1_ex h
                  refine j_callSv hC hE lk_X3_96 dX3_isGeneratedBy_94 (c_X6_put l hlt g 18 r11 1 hr11 kR_1 M S hF hy) [zr g 18, .int (zi r11), .int (zi 1)] [] rfl rfl rfl (zcat (Nat.le_of_ble_eq_true rfl)) (Nat.le_of_ble_eq_true rfl) (Nat.le_of_ble_eq_true rfl) (Nat.le_of_ble_eq_true rfl) (Nat.le_of_ble_eq_true rfl) (fun hp14 => ?_)
                  refine j_sub [1, 2, 3, 4] rfl ?_
                  exact J_97 v3 hv3 M13 _ h hT
          exact main zN v3 hv3 M hl
        intro v2 hv2 M hl
        obtain ⟨o, h, hT⟩ := zloop_ex hl
        have h : F_X3_isGeneratedBy_B18 v1 v2 M S = some o := by rw [ebd] at h; exact h
        unfold F_X3_isGeneratedBy_B18 at h
        refine j_iload_n hC 2 dX3_isGeneratedBy_18 rfl rfl ?_
        refine j_aload_n hC 0 dX3_isGeneratedBy_19 rfl rfl ?_
        refine j_get hC dX3_isGeneratedBy_20 f_X3_76 (zFx_kd hF 11 rfl) rfl 13 rfl (fun hg15 => ?_)
        refine j_icmp_ge hC dX3_isGeneratedBy_23 rfl (w_id hv2) (w_id hg15) (fun c16 => ?_) (fun c16 => ?_)
        · have h := zf c16 h
          obtain rfl := Option.some.inj h
          have hx18 := hd18
          rw [← show _ = ex18 from hT] at hx18
          dsimp only [Sum.elim] at hx18
          refine j_sub [] rfl ?_
          exact J_109 M hx18
        · have h := zt c16 h
          refine j_aload_n hC 0 dX3_isGeneratedBy_26 rfl rfl ?_
          refine j_getq (q := 18) hC dX3_isGeneratedBy_27 f_X3_33 (zFx_kd hF 11 rfl) rfl 6 rfl (zFx_rf hF 11 6 rfl) ?_
          refine j_iload_n hC 2 dX3_isGeneratedBy_30 rfl rfl ?_
          obtain ⟨r17, hy, h⟩ := zb1_ex h
          refine j_callSi hC hE lk_X3_127 dX3_isGeneratedBy_31 (c_X6_at l hlt g 18 v2 hv2 M S hF hy) [zr g 18, .int (zi v2)] [] rfl rfl rfl (zcat (Nat.le_of_ble_eq_true rfl)) (Nat.le_of_ble_eq_true rfl) (Nat.le_of_ble_eq_true rfl) (Nat.le_of_ble_eq_true rfl) (Nat.le_of_ble_eq_true rfl) (fun hp18 => ?_)
          have hr17 := hp18
          refine j_if_ne hC dX3_isGeneratedBy_34 rfl (w_id hr17) (fun c19 => ?_) (fun c19 => ?_)
          · have h := zf c19 h
            refine j_aload_n hC 0 dX3_isGeneratedBy_39 rfl rfl ?_
            refine j_getq (q := 15) hC dX3_isGeneratedBy_40 f_X3_24 (zFx_kd hF 11 rfl) rfl 3 rfl (zFx_rf hF 11 3 rfl) ?_
            refine j_iload_n hC 2 dX3_isGeneratedBy_43 rfl rfl ?_
            obtain ⟨r20, hy, h⟩ := zb1_ex h
            refine j_callSi hC hE lk_X3_127 dX3_isGeneratedBy_44 (c_X6_at l hlt g 15 v2 hv2 M S hF hy) [zr g 15, .int (zi v2)] [] rfl rfl rfl (zcat (Nat.le_of_ble_eq_true rfl)) (Nat.le_of_ble_eq_true rfl) (Nat.le_of_ble_eq_true rfl) (Nat.le_of_ble_eq_true rfl) (Nat.le_of_ble_eq_true rfl) (fun hp21 => ?_)
            have hr20 := hp21
            refine j_istore_n hC dX3_isGeneratedBy_47 rfl (Nat.le_of_ble_eq_true rfl) rfl ?_
            refine j_sub [1, 2, 3, 0] rfl ?_
            exact L_48 v2 r20 hv2 hr20 M _ h hT
          · have h := zt c19 h
            obtain rfl := Option.some.inj h
            have hx18 := hd18
            rw [← show _ = ex18 from hT] at hx18
            dsimp only [Sum.elim] at hx18
            refine j_sub [] rfl ?_
            exact J_37 M hx18
    exact main zN v2 hv2 M hl
  refine j_aload_n hC 0 dX3_isGeneratedBy_0 rfl rfl ?_
  refine j_getq (q := 17) hC dX3_isGeneratedBy_1 f_X3_30 (zFx_kd hF 11 rfl) rfl 5 rfl (zFx_rf hF 11 5 rfl) ?_
  refine j_iconst hC dX3_isGeneratedBy_4 ?_
  refine j_aload_n hC 0 dX3_isGeneratedBy_5 rfl rfl ?_
  refine j_getq (q := 18) hC dX3_isGeneratedBy_6 f_X3_33 (zFx_kd hF 11 rfl) rfl 6 rfl (zFx_rf hF 11 6 rfl) ?_
  refine j_iconst hC dX3_isGeneratedBy_9 ?_
  refine j_sipush hC dX3_isGeneratedBy_10 rfl ?_
  obtain ⟨c22, h⟩ := zchk_ex h
  obtain ⟨M23, eM23, h⟩ := zlet_ex h
  refine j_copy (l1 := 300) (l2 := 300) hC hE lk_X3_155 dX3_isGeneratedBy_13 (zFx_kd hF 17 rfl) (zFx_kd hF 18 rfl) (zFx_ln hF 17 rfl) (zFx_ln hF 18 rfl) (w_id kR_0) (w_id kR_0) (w_id kR_300) c22 eM23 (Nat.le_of_ble_eq_true rfl) (Nat.le_of_ble_eq_true rfl) ?_
  refine j_iconst hC dX3_isGeneratedBy_16 ?_
  refine j_istore_n hC dX3_isGeneratedBy_17 rfl (Nat.le_of_ble_eq_true rfl) rfl ?_
  refine j_sub [1, 2, 0] rfl ?_
  exact L_18 v1 0 hv1 kR_0 M23 h
set_option maxHeartbeats 4000000 in
set_option maxRecDepth 100000 in
theorem c_J6_bitCount_0f7a4 (l : Launch) (hlt : l.stackTraces = false) (g : zG) (v0 : Int) (hv0 : inR v0) (M : zM) (S : zS) {r : Int} (h : F_J6_bitCount_0f7a4 v0 = some r) : zMet l g yJ6_bitCount_0f7a4 cJ6_bitCount_0f7a4 1 (some .int) 1 0 0 [.int (zi v0)] M S (.inl (some (.int (zi r)))) M S (inR r) := by
  refine zMet_of (by decide) hlt [(0, .int (zi v0))] rfl (Nat.le_of_ble_eq_true rfl) (fun K hC hE hN => ?_)
  unfold F_J6_bitCount_0f7a4 at h
  refine j_iload_n hC 0 dJ6_bitCount_0f7a4_0 rfl rfl ?_
  refine j_iload_n hC 0 dJ6_bitCount_0f7a4_1 rfl rfl ?_
  refine j_iconst hC dJ6_bitCount_0f7a4_2 ?_
  refine j_iushr hC dJ6_bitCount_0f7a4_3 ?_
  refine j_ldcw (n := 1431655765) hC dJ6_bitCount_0f7a4_4 k555 rfl ?_
  refine j_iand hC dJ6_bitCount_0f7a4_7 ?_
  refine j_isub hC dJ6_bitCount_0f7a4_8 ?_
  obtain ⟨x1, ex1, h⟩ := zlet_ex h
  have hx1 : inR x1 := by rw [ex1]; exact inR_w _
  refine j_namei ex1 ?_
  refine j_istore_n hC dJ6_bitCount_0f7a4_9 rfl (Nat.le_of_ble_eq_true rfl) rfl ?_
  refine j_iload_n hC 0 dJ6_bitCount_0f7a4_10 rfl rfl ?_
  refine j_ldcw (n := 858993459) hC dJ6_bitCount_0f7a4_11 k556 rfl ?_
  refine j_iand hC dJ6_bitCount_0f7a4_14 ?_
  refine j_iload_n hC 0 dJ6_bitCount_0f7a4_15 rfl rfl ?_
  refine j_iconst hC dJ6_bitCount_0f7a4_16 ?_
  refine j_iushr hC dJ6_bitCount_0f7a4_17 ?_
  refine j_ldcw (n := 858993459) hC dJ6_bitCount_0f7a4_18 k556 rfl ?_
  refine j_iand hC dJ6_bitCount_0f7a4_21 ?_
  refine j_iadd hC dJ6_bitCount_0f7a4_22 ?_
  obtain ⟨x2, ex2, h⟩ := zlet_ex h
  have hx2 : inR x2 := by rw [ex2]; exact inR_w _
  refine j_namei ex2 ?_
  refine j_istore_n hC dJ6_bitCount_0f7a4_23 rfl (Nat.le_of_ble_eq_true rfl) rfl ?_
  refine j_iload_n hC 0 dJ6_bitCount_0f7a4_24 rfl rfl ?_
  refine j_iload_n hC 0 dJ6_bitCount_0f7a4_25 rfl rfl ?_
  refine j_iconst hC dJ6_bitCount_0f7a4_26 ?_
  refine j_iushr hC dJ6_bitCount_0f7a4_27 ?_
  refine j_iadd hC dJ6_bitCount_0f7a4_28 ?_
  refine j_ldcw (n := 252645135) hC dJ6_bitCount_0f7a4_29 k557 rfl ?_
  refine j_iand hC dJ6_bitCount_0f7a4_32 ?_
  obtain ⟨x3, ex3, h⟩ := zlet_ex h
  have hx3 : inR x3 := by rw [ex3]; exact (cR_zand _ _)
  refine j_names ex3 ?_
  refine j_istore_n hC dJ6_bitCount_0f7a4_33 rfl (Nat.le_of_ble_eq_true rfl) rfl ?_
  refine j_iload_n hC 0 dJ6_bitCount_0f7a4_34 rfl rfl ?_
  refine j_iload_n hC 0 dJ6_bitCount_0f7a4_35 rfl rfl ?_
  refine j_bipush hC dJ6_bitCount_0f7a4_36 rfl ?_
  refine j_iushr hC dJ6_bitCount_0f7a4_38 ?_
  refine j_iadd hC dJ6_bitCount_0f7a4_39 ?_
  obtain ⟨x4, ex4, h⟩ := zlet_ex h
  have hx4 : inR x4 := by rw [ex4]; exact inR_w _
  refine j_namei ex4 ?_
  refine j_istore_n hC dJ6_bitCount_0f7a4_40 rfl (Nat.le_of_ble_eq_true rfl) rfl ?_
  refine j_iload_n hC 0 dJ6_bitCount_0f7a4_41 rfl rfl ?_
  refine j_iload_n hC 0 dJ6_bitCount_0f7a4_42 rfl rfl ?_
  refine j_bipush hC dJ6_bitCount_0f7a4_43 rfl ?_
  refine j_iushr hC dJ6_bitCount_0f7a4_45 ?_
  refine j_iadd hC dJ6_bitCount_0f7a4_46 ?_
  obtain ⟨x5, ex5, h⟩ := zlet_ex h
  have hx5 : inR x5 := by rw [ex5]; exact inR_w _
  refine j_namei ex5 ?_
  refine j_istore_n hC dJ6_bitCount_0f7a4_47 rfl (Nat.le_of_ble_eq_true rfl) rfl ?_
  refine j_iload_n hC 0 dJ6_bitCount_0f7a4_48 rfl rfl ?_
  refine j_bipush hC dJ6_bitCount_0f7a4_49 rfl ?_
  refine j_iand hC dJ6_bitCount_0f7a4_51 ?_
  have e1 := Option.some.inj h
  exact j_iret hC hE dJ6_bitCount_0f7a4_52 (w_id (cR_zand _ _)) (zn_i _) (by rw [← e1]) rfl rfl (by rw [← e1]; exact (cR_zand _ _)) (Nat.le_of_ble_eq_true rfl) (Nat.le_of_ble_eq_true rfl)
set_option maxHeartbeats 4000000 in
set_option maxRecDepth 100000 in
theorem c_X3_smallestContextSet (l : Launch) (hlt : l.stackTraces = false) (g : zG) (v1 : Int) (hv1 : inR v1) (M : zM) (S : zS) (hF : zFx S) {r : Int} {M' : zM} (h : F_X3_smallestContextSet v1 M S = some (r, M')) : zMet l g yX3_smallestContextSet cX3_smallestContextSet 3 (some .int) 4 0 0 [zr g 11, .int (zi v1)] M S (.inl (some (.int (zi r)))) M' S (inR r) := by
  refine zMet_of (by decide) hlt [(0, zr g 11), (1, .int (zi v1))] rfl (Nat.le_of_ble_eq_true rfl) (fun K hC hE hN => ?_)
  unfold F_X3_smallestContextSet at h
  have J_57 : ∀ (M : zM) (_ : F_X3_smallestContextSet_J57 M S = some (r, M')), zJ K g 0 0 57 3 [(0, zr g 11)] [] M S := by
    intro M h
    unfold F_X3_smallestContextSet_J57 at h
    refine j_aload_n hC 0 dX3_smallestContextSet_57 rfl rfl ?_
    refine j_get hC dX3_smallestContextSet_58 f_X3_124 (zFx_kd hF 11 rfl) rfl 17 rfl (fun hg1 => ?_)
    obtain ⟨e1, e2⟩ := zpr2 (Option.some.inj h)
    exact j_iret hC hE dX3_smallestContextSet_61 (w_id hg1) (zn_i _) (by rw [← e1]) e2 rfl (by rw [← e1]; exact hg1) (Nat.le_of_ble_eq_true rfl) (Nat.le_of_ble_eq_true rfl)
  have L_19 : ∀ (v1 : Int) (v2 : Int) (hv1 : inR v1) (hv2 : inR v2) (M : zM) (_ : F_X3_smallestContextSet_L19 v1 v2 M S = some (r, M')), zJ K g 0 0 19 3 [(0, zr g 11), (1, .int (zi v1)), (2, .int (zi v2))] [] M S := by
    intro v1 v2 hv1 hv2 M h
    unfold F_X3_smallestContextSet_L19 at h
    obtain ⟨ex19, hl, hd19⟩ := zb1_ex h
    obtain ⟨bd19, ebd⟩ : ∃ f, f = (fun (s : Int × zM) => F_X3_smallestContextSet_B19 v1 s.1 s.2 S) := ⟨_, rfl⟩
    rw [← ebd] at hl
    have main : ∀ (n19 : Nat) (v2 : Int) (hv2 : inR v2) (M : zM) (_ : zloop bd19 n19 (v2, M) = some ex19), zJ K g 0 0 19 3 [(0, zr g 11), (1, .int (zi v1)), (2, .int (zi v2))] [] M S := by
      intro n19
      induction n19 with
      | zero => intro v2 hv2 M hl; exact zloop_0 hl
      | succ n19 ih19 =>
        have J_51 : ∀ (v2 : Int) (hv2 : inR v2) (M : zM) (o : _) (_ : F_X3_smallestContextSet_J51 v1 v2 M S = some o), zAft (bd19) n19 ex19 o → zJ K g 0 0 51 3 [(0, zr g 11), (1, .int (zi v1)), (2, .int (zi v2))] [] M S := by
          intro v2 hv2 M o h hT
          unfold F_X3_smallestContextSet_J51 at h
          obtain ⟨x2, ex2, h⟩ := zlet_ex h
          have hx2 : inR x2 := by rw [ex2]; exact inR_w _
          refine j_iinc hC 2 dX3_smallestContextSet_51 rfl ex2 (Nat.le_of_ble_eq_true rfl) rfl ?_
          refine j_goto hC dX3_smallestContextSet_54 rfl ?_
          obtain rfl := Option.some.inj h
          refine j_sub [1, 2, 0] rfl ?_
          exact ih19 x2 hx2 M hT
        intro v2 hv2 M hl
        obtain ⟨o, h, hT⟩ := zloop_ex hl
        have h : F_X3_smallestContextSet_B19 v1 v2 M S = some o := by rw [ebd] at h; exact h
        unfold F_X3_smallestContextSet_B19 at h
        refine j_iload_n hC 2 dX3_smallestContextSet_19 rfl rfl ?_
        refine j_iload_n hC 1 dX3_smallestContextSet_20 rfl rfl ?_
        refine j_icmp_ge hC dX3_smallestContextSet_21 rfl (w_id hv2) (w_id hv1) (fun c3 => ?_) (fun c3 => ?_)
        · have h := zf c3 h
          obtain rfl := Option.some.inj h
          have hx19 := hd19
          rw [← show _ = ex19 from hT] at hx19
          refine j_sub [0] rfl ?_
          exact J_57 M hx19
        · have h := zt c3 h
          refine j_iload_n hC 2 dX3_smallestContextSet_24 rfl rfl ?_
          obtain ⟨r4, hy, h⟩ := zb1_ex h
          refine j_callSi hC hE lk_X3_161 dX3_smallestContextSet_25 (c_J6_bitCount_0f7a4 l hlt g v2 hv2 M S hy) [.int (zi v2)] [] rfl rfl rfl (zcat (Nat.le_of_ble_eq_true rfl)) (Nat.le_of_ble_eq_true rfl) (Nat.le_of_ble_eq_true rfl) (Nat.le_of_ble_eq_true rfl) (Nat.le_of_ble_eq_true rfl) (fun hp5 => ?_)
          have hr4 := hp5
          refine j_aload_n hC 0 dX3_smallestContextSet_28 rfl rfl ?_
          refine j_get hC dX3_smallestContextSet_29 f_X3_124 (zFx_kd hF 11 rfl) rfl 17 rfl (fun hg6 => ?_)
          obtain ⟨r7, hy, h⟩ := zb1_ex h
          refine j_callSi hC hE lk_X3_161 dX3_smallestContextSet_32 (c_J6_bitCount_0f7a4 l hlt g (M 11 17) hg6 M S hy) [.int (zi (M 11 17))] [.int (zi r4)] rfl rfl rfl (zcat (Nat.le_of_ble_eq_true rfl)) (Nat.le_of_ble_eq_true rfl) (Nat.le_of_ble_eq_true rfl) (Nat.le_of_ble_eq_true rfl) (Nat.le_of_ble_eq_true rfl) (fun hp8 => ?_)
          have hr7 := hp8
          refine j_icmp_ge hC dX3_smallestContextSet_35 rfl (w_id hr4) (w_id hr7) (fun c9 => ?_) (fun c9 => ?_)
          · have h := zf c9 h
            exact J_51 v2 hv2 M _ h hT
          · have h := zt c9 h
            refine j_aload_n hC 0 dX3_smallestContextSet_38 rfl rfl ?_
            refine j_iload_n hC 2 dX3_smallestContextSet_39 rfl rfl ?_
            obtain ⟨r10, M11, hy, h⟩ := zb2_ex h
            refine j_callVi (ci := 3) hC hE lk_X3_166 dX3_smallestContextSet_40 (c_X3_isGeneratedBy l hlt g v2 hv2 M S hF hy) [.int (zi v2)] [] (zFx_kd hF 11 rfl) ⟨_, rfl, by decide, rfl⟩ rfl rfl rfl (zcat (Nat.le_of_ble_eq_true rfl)) (Nat.le_of_ble_eq_true rfl) (Nat.le_of_ble_eq_true rfl) (Nat.le_of_ble_eq_true rfl) (Nat.le_of_ble_eq_true rfl) (fun hp12 => ?_)
            have hr10 := hp12
            refine j_if_eq hC dX3_smallestContextSet_43 rfl (w_id hr10) (fun c13 => ?_) (fun c13 => ?_)
            · have h := zt c13 h
              exact J_51 v2 hv2 M11 _ h hT
            · have h := zf c13 h
              refine j_aload_n hC 0 dX3_smallestContextSet_46 rfl rfl ?_
              refine j_iload_n hC 2 dX3_smallestContextSet_47 rfl rfl ?_
              obtain ⟨M14, eM14, h⟩ := zlet_ex h
              refine j_put hC dX3_smallestContextSet_48 f_X3_124 pF_X3 (zFx_kd hF 11 rfl) (Or.inl rfl) rfl 17 rfl (w_id hv2) hv2 eM14 ?_
              exact J_51 v2 hv2 M14 _ h hT
    exact main zN v2 hv2 M hl
  refine j_aload_n hC 0 dX3_smallestContextSet_0 rfl rfl ?_
  refine j_get hC dX3_smallestContextSet_1 f_X3_124 (zFx_kd hF 11 rfl) rfl 17 rfl (fun hg15 => ?_)
  refine j_if_lt hC dX3_smallestContextSet_4 rfl (w_id hg15) (fun c16 => ?_) (fun c16 => ?_)
  · have h := zt c16 h
    refine j_aload_n hC 0 dX3_smallestContextSet_12 rfl rfl ?_
    refine j_iload_n hC 1 dX3_smallestContextSet_13 rfl rfl ?_
    obtain ⟨M17, eM17, h⟩ := zlet_ex h
    refine j_put hC dX3_smallestContextSet_14 f_X3_124 pF_X3 (zFx_kd hF 11 rfl) (Or.inl rfl) rfl 17 rfl (w_id hv1) hv1 eM17 ?_
    refine j_iconst hC dX3_smallestContextSet_17 ?_
    refine j_istore_n hC dX3_smallestContextSet_18 rfl (Nat.le_of_ble_eq_true rfl) rfl ?_
    refine j_sub [1, 2, 0] rfl ?_
    exact L_19 v1 0 hv1 kR_0 M17 h
  · have h := zf c16 h
    refine j_aload_n hC 0 dX3_smallestContextSet_7 rfl rfl ?_
    refine j_get hC dX3_smallestContextSet_8 f_X3_124 (zFx_kd hF 11 rfl) rfl 17 rfl (fun hg18 => ?_)
    obtain ⟨e1, e2⟩ := zpr2 (Option.some.inj h)
    exact j_iret hC hE dX3_smallestContextSet_11 (w_id hg18) (zn_i _) (by rw [← e1]) e2 rfl (by rw [← e1]; exact hg18) (Nat.le_of_ble_eq_true rfl) (Nat.le_of_ble_eq_true rfl)
set_option maxHeartbeats 4000000 in
set_option maxRecDepth 100000 in
theorem c_X3_followersOf (l : Launch) (hlt : l.stackTraces = false) (g : zG) (v1 : Int) (hv1 : inR v1) (M : zM) (S : zS) (hF : zFx S) {r : Int} (h : F_X3_followersOf v1 M S = some r) : zMet l g yX3_followersOf cX3_followersOf 2 (some .int) 2 0 0 [zr g 11, .int (zi v1)] M S (.inl (some (.int (zi r)))) M S (inR r) := by
  refine zMet_of (by decide) hlt [(0, zr g 11), (1, .int (zi v1))] rfl (Nat.le_of_ble_eq_true rfl) (fun K hC hE hN => ?_)
  unfold F_X3_followersOf at h
  refine j_aload_n hC 0 dX3_followersOf_0 rfl rfl ?_
  refine j_getq (q := 24) hC dX3_followersOf_1 f_X3_52 (zFx_kd hF 11 rfl) rfl 12 rfl (zFx_rf hF 11 12 rfl) ?_
  refine j_iload_n hC 1 dX3_followersOf_4 rfl rfl ?_
  obtain ⟨r1, hy, h⟩ := zb1_ex h
  refine j_callSi hC hE lk_X3_127 dX3_followersOf_5 (c_X6_at l hlt g 24 v1 hv1 M S hF hy) [zr g 24, .int (zi v1)] [] rfl rfl rfl (zcat (Nat.le_of_ble_eq_true rfl)) (Nat.le_of_ble_eq_true rfl) (Nat.le_of_ble_eq_true rfl) (Nat.le_of_ble_eq_true rfl) (Nat.le_of_ble_eq_true rfl) (fun hp2 => ?_)
  have hr1 := hp2
  have e1 := Option.some.inj h
  exact j_iret hC hE dX3_followersOf_8 (w_id hr1) (zn_i _) (by rw [← e1]) rfl rfl (by rw [← e1]; exact hr1) (Nat.le_of_ble_eq_true rfl) (Nat.le_of_ble_eq_true rfl)
set_option maxHeartbeats 4000000 in
set_option maxRecDepth 100000 in
theorem c_X5_init (l : Launch) (hlt : l.stackTraces = false) (g : zG) (v0 : Nat) (M : zM) (S : zS) {M' : zM} {S' : zS} (h : F_X5_init v0 M S = some (M', S')) : zMet l g yX5_init cX5_init 1 none 3 14 61820 [zr g v0] M S (.inl none) M' S' (True) := by
  refine zMet_of (by decide) hlt [(0, zr g v0)] (by simp only [lv_args, zr_cat, zc_i, zc_l, zc_d, zc_r] <;> rfl) (by rw [zsl_len]; simp only [List.map_cons, List.map_nil, zr_cat, zc_i, zc_l, zc_d, zc_r, List.sum_cons, List.sum_nil] <;> decide) (fun K hC hE hN => ?_)
  unfold F_X5_init at h
  refine j_aload_n hC 0 dX5_init_0 rfl rfl ?_
  obtain ⟨c1, h⟩ := zchk_ex h
  refine j_objI hC hE dX5_init_1 k228 k79 k80 c1 (Nat.le_of_ble_eq_true rfl) (Nat.le_of_ble_eq_true rfl) ?_
  refine j_aload_n hC 0 dX5_init_4 rfl rfl ?_
  refine j_sipush hC dX5_init_5 rfl ?_
  obtain ⟨q2, eq2, h⟩ := zlet_ex h
  obtain ⟨c3, h⟩ := zchk_ex h
  obtain ⟨S4, eS4, h⟩ := zlet_ex h
  refine j_newa20 (N := 512) (mx := 512) hC hE ka_20 dX5_init_8 (w_id kR_512) rfl (Nat.le_of_ble_eq_true rfl) (Nat.le_of_ble_eq_true rfl) eq2 eS4 (Or.inl c3) (Nat.le_of_ble_eq_true rfl) (Nat.le_of_ble_eq_true rfl) ?_
  obtain ⟨hk, h⟩ := zchk_ex h
  have hk5 := hk
  obtain ⟨S6, eS6, h⟩ := zlet_ex h
  refine j_putq hC hE dX5_init_10 f_X5_9 pF_X5 hk5 rfl rfl rfl 0 rfl eS6 ?_
  refine j_aload_n hC 0 dX5_init_13 rfl rfl ?_
  refine j_iconst hC dX5_init_14 ?_
  obtain ⟨hk, h⟩ := zchk_ex h
  have hk7 := hk
  obtain ⟨M8, eM8, h⟩ := zlet_ex h
  refine j_put hC dX5_init_15 f_X5_13 pF_X5 hk7 (Or.inl rfl) rfl 2 rfl (w_id kR_m1) kR_m1 eM8 ?_
  refine j_aload_n hC 0 dX5_init_18 rfl rfl ?_
  refine j_sipush hC dX5_init_19 rfl ?_
  obtain ⟨q9, eq9, h⟩ := zlet_ex h
  obtain ⟨c10, h⟩ := zchk_ex h
  obtain ⟨S11, eS11, h⟩ := zlet_ex h
  refine j_newa20 (N := 29524) (mx := 29524) hC hE ka_20 dX5_init_22 (w_id kR_29524) rfl (Nat.le_of_ble_eq_true rfl) (Nat.le_of_ble_eq_true rfl) eq9 eS11 (Or.inl c10) (Nat.le_of_ble_eq_true rfl) (Nat.le_of_ble_eq_true rfl) ?_
  obtain ⟨hk, h⟩ := zchk_ex h
  have hk12 := hk
  obtain ⟨S13, eS13, h⟩ := zlet_ex h
  refine j_putq hC hE dX5_init_24 f_X5_19 pF_X5 hk12 rfl rfl rfl 3 rfl eS13 ?_
  refine j_aload_n hC 0 dX5_init_27 rfl rfl ?_
  refine j_sipush hC dX5_init_28 rfl ?_
  obtain ⟨q14, eq14, h⟩ := zlet_ex h
  obtain ⟨c15, h⟩ := zchk_ex h
  obtain ⟨S16, eS16, h⟩ := zlet_ex h
  refine j_newa20 (N := 29524) (mx := 29524) hC hE ka_20 dX5_init_31 (w_id kR_29524) rfl (Nat.le_of_ble_eq_true rfl) (Nat.le_of_ble_eq_true rfl) eq14 eS16 (Or.inl c15) (Nat.le_of_ble_eq_true rfl) (Nat.le_of_ble_eq_true rfl) ?_
  obtain ⟨hk, h⟩ := zchk_ex h
  have hk17 := hk
  obtain ⟨S18, eS18, h⟩ := zlet_ex h
  refine j_putq hC hE dX5_init_33 f_X5_22 pF_X5 hk17 rfl rfl rfl 5 rfl eS18 ?_
  refine j_aload_n hC 0 dX5_init_36 rfl rfl ?_
  refine j_iconst hC dX5_init_37 ?_
  obtain ⟨hk, h⟩ := zchk_ex h
  have hk19 := hk
  obtain ⟨M20, eM20, h⟩ := zlet_ex h
  refine j_put hC dX5_init_38 f_X5_25 pF_X5 hk19 (Or.inl rfl) rfl 6 rfl (w_id kR_0) kR_0 eM20 ?_
  refine j_aload_n hC 0 dX5_init_41 rfl rfl ?_
  refine j_bipush hC dX5_init_42 rfl ?_
  refine j_sipush hC dX5_init_44 rfl ?_
  obtain ⟨q21, eq21, h⟩ := zlet_ex h
  obtain ⟨c22, h⟩ := zchk_ex h
  obtain ⟨S23, eS23, h⟩ := zlet_ex h
  refine j_multi (n1 := 10) (n2 := 225) hC hE mu_X5_30 dX5_init_47 (Nat.le_of_ble_eq_true rfl) (Nat.le_of_ble_eq_true rfl) eq21 eS23 c22 (Nat.le_of_ble_eq_true rfl) (Nat.le_of_ble_eq_true rfl) ?_
  obtain ⟨hk, h⟩ := zchk_ex h
  have hk24 := hk
  obtain ⟨S25, eS25, h⟩ := zlet_ex h
  refine j_putq hC hE dX5_init_51 f_X5_32 pF_X5 hk24 rfl rfl rfl 7 rfl eS25 ?_
  obtain ⟨e1, e2⟩ := zpr2 (Option.some.inj h)
  exact j_vret hC hE dX5_init_54 rfl e1 e2 trivial (Nat.le_of_ble_eq_true rfl) (Nat.le_of_ble_eq_true rfl)
set_option maxHeartbeats 4000000 in
set_option maxRecDepth 100000 in
theorem c_X5_forget (l : Launch) (hlt : l.stackTraces = false) (g : zG) (M : zM) (S : zS) (hF : zFx S) {M' : zM} (h : F_X5_forget M = some M') : zMet l g yX5_forget cX5_forget 1 none 1 0 0 [zr g 25] M S (.inl none) M' S (True) := by
  refine zMet_of (by decide) hlt [(0, zr g 25)] rfl (Nat.le_of_ble_eq_true rfl) (fun K hC hE hN => ?_)
  unfold F_X5_forget at h
  refine j_aload_n hC 0 dX5_forget_0 rfl rfl ?_
  refine j_iconst hC dX5_forget_1 ?_
  obtain ⟨M1, eM1, h⟩ := zlet_ex h
  refine j_put hC dX5_forget_2 f_X5_13 pF_X5 (zFx_kd hF 25 rfl) (Or.inl rfl) rfl 2 rfl (w_id kR_m1) kR_m1 eM1 ?_
  refine j_aload_n hC 0 dX5_forget_5 rfl rfl ?_
  refine j_iconst hC dX5_forget_6 ?_
  obtain ⟨M2, eM2, h⟩ := zlet_ex h
  refine j_put hC dX5_forget_7 f_X5_25 pF_X5 (zFx_kd hF 25 rfl) (Or.inl rfl) rfl 6 rfl (w_id kR_0) kR_0 eM2 ?_
  have e1 := Option.some.inj h
  exact j_vret hC hE dX5_forget_10 rfl e1 rfl trivial (Nat.le_of_ble_eq_true rfl) (Nat.le_of_ble_eq_true rfl)
set_option maxHeartbeats 8000000 in
set_option maxRecDepth 100000 in
theorem c_GO (l : Launch) (hlt : l.stackTraces = false) (g : zG) : ∀ n : Nat, (∀ (v2 : Int) (v3 : Int) (hv2 : inR v2) (hv3 : inR v3) (M : zM) (S : zS) (_ : zFx S) (r : Int) (M' : zM) (_ : F_GO n 0 v2 v3 M S = some (r, M')), zMet l g yX5_onlyForm cX5_onlyForm 10 (some .int) (8 + n) 0 0 [zr g 25, zr g 5, .int (zi v2), .int (zi v3)] M S (.inl (some (.int (zi r)))) M' S (inR r)) := by
  intro n
  induction n with
  | zero => intro v2 v3 hv2 hv3 M S hF r M' h; cases h
  | succ n ih =>
    have ihG0 := ih
    have erc : ∃ rc, rc = F_GO n := ⟨_, rfl⟩
    obtain ⟨rc, erc⟩ := erc
    intro v2 v3 hv2 hv3 M S hF r M' h
    have h : F_X5_onlyForm rc v2 v3 M S = some (r, M') := by rw [erc]; exact h
    rw [← erc] at ihG0
    refine zMet_of (by decide) hlt [(0, zr g 25), (1, zr g 5), (2, .int (zi v2)), (3, .int (zi v3))] rfl (Nat.le_of_ble_eq_true rfl) (fun K hC hE hN => ?_)
    unfold F_X5_onlyForm at h
    have J_124 : ∀ (v2 : Int) (v7 : Int) (hv2 : inR v2) (hv7 : inR v7) (M : zM) (_ : F_X5_onlyForm_J124 rc v2 v7 M S = some (r, M')), zJ K g 0 0 124 10 [(0, zr g 25), (2, .int (zi v2)), (7, .int (zi v7))] [] M S := by
      intro v2 v7 hv2 hv7 M h
      unfold F_X5_onlyForm_J124 at h
      refine j_aload_n hC 0 dX5_onlyForm_124 rfl rfl ?_
      refine j_getq (q := 28) hC dX5_onlyForm_125 f_X5_22 (zFx_kd hF 25 rfl) rfl 5 rfl (zFx_rf hF 25 5 rfl) ?_
      refine j_iload_n hC 1 dX5_onlyForm_128 rfl rfl ?_
      refine j_iload hC 2 dX5_onlyForm_129 rfl ?_
      obtain ⟨M1, hy, h⟩ := zb1_ex h
      refine j_callSv hC hE lk_X5_51 dX5_onlyForm_131 (c_X6_put l hlt g 28 v2 v7 hv2 hv7 M S hF hy) [zr g 28, .int (zi v2), .int (zi v7)] [] rfl rfl rfl (zcat (Nat.le_of_ble_eq_true rfl)) (Nat.le_of_ble_eq_true rfl) (by omega) (Nat.le_of_ble_eq_true rfl) (Nat.le_of_ble_eq_true rfl) (fun hp2 => ?_)
      refine j_iload hC 2 dX5_onlyForm_134 rfl ?_
      obtain ⟨e1, e2⟩ := zpr2 (Option.some.inj h)
      exact j_iret hC hE dX5_onlyForm_136 (w_id hv7) (zn_i _) (by rw [← e1]) e2 rfl (by rw [← e1]; exact hv7) (Nat.le_of_ble_eq_true rfl) (Nat.le_of_ble_eq_true rfl)
    have L_65 : ∀ (v2 : Int) (v3 : Int) (v5 : Nat) (v6 : Int) (v7 : Int) (v8 : Int) (hv2 : inR v2) (hv3 : inR v3) (hv6 : inR v6) (hv7 : inR v7) (hv8 : inR v8) (M : zM) (_ : F_X5_onlyForm_L65 rc v2 v3 v5 v6 v7 v8 M S = some (r, M')), zJ K g 0 0 65 10 [(0, zr g 25), (1, zr g 5), (2, .int (zi v2)), (3, .int (zi v3)), (5, zr g v5), (6, .int (zi v6)), (7, .int (zi v7)), (8, .int (zi v8))] [] M S := by
      intro v2 v3 v5 v6 v7 v8 hv2 hv3 hv6 hv7 hv8 M h
      unfold F_X5_onlyForm_L65 at h
      obtain ⟨ex65, hl, hd65⟩ := zb1_ex h
      obtain ⟨bd65, ebd⟩ : ∃ f, f = (fun (s : Int × Int × zM) => F_X5_onlyForm_B65 rc v2 v3 v5 v6 s.1 s.2.1 s.2.2 S) := ⟨_, rfl⟩
      rw [← ebd] at hl
      have main : ∀ (n65 : Nat) (v7 : Int) (v8 : Int) (hv7 : inR v7) (hv8 : inR v8) (M : zM) (_ : zloop bd65 n65 (v7, v8, M) = some ex65), zJ K g 0 0 65 10 [(0, zr g 25), (1, zr g 5), (2, .int (zi v2)), (3, .int (zi v3)), (5, zr g v5), (6, .int (zi v6)), (7, .int (zi v7)), (8, .int (zi v8))] [] M S := by
        intro n65
        induction n65 with
        | zero => intro v7 v8 hv7 hv8 M hl; exact zloop_0 hl
        | succ n65 ih65 =>
          have J_116 : ∀ (v8 : Int) (t0 : Int) (hv8 : inR v8) (ht0 : inR t0) (M : zM) (o : _) (_ : F_X5_onlyForm_J116 rc v2 v3 v5 v6 v8 t0 M S = some o), zAft (bd65) n65 ex65 o → zJ K g 0 0 116 10 [(0, zr g 25), (1, zr g 5), (2, .int (zi v2)), (3, .int (zi v3)), (5, zr g v5), (6, .int (zi v6)), (8, .int (zi v8))] [.int (zi t0)] M S := by
            intro v8 t0 hv8 ht0 M o h hT
            unfold F_X5_onlyForm_J116 at h
            refine j_istore hC dX5_onlyForm_116 (Nat.le_of_ble_eq_true rfl) rfl ?_
            obtain ⟨x3, ex3, h⟩ := zlet_ex h
            have hx3 : inR x3 := by rw [ex3]; exact inR_w _
            refine j_iinc hC 7 dX5_onlyForm_118 rfl ex3 (Nat.le_of_ble_eq_true rfl) rfl ?_
            refine j_goto hC dX5_onlyForm_121 rfl ?_
            obtain rfl := Option.some.inj h
            refine j_sub [2, 3, 4, 5, 6, 7, 1, 0] rfl ?_
            exact ih65 t0 x3 ht0 hx3 M hT
          have J_110 : ∀ (v8 : Int) (v9 : Int) (hv8 : inR v8) (hv9 : inR v9) (M : zM) (o : _) (_ : F_X5_onlyForm_J110 rc v2 v3 v5 v6 v8 v9 M S = some o), zAft (bd65) n65 ex65 o → zJ K g 0 0 110 10 [(0, zr g 25), (1, zr g 5), (2, .int (zi v2)), (3, .int (zi v3)), (5, zr g v5), (6, .int (zi v6)), (8, .int (zi v8)), (9, .int (zi v9))] [] M S := by
            intro v8 v9 hv8 hv9 M o h hT
            unfold F_X5_onlyForm_J110 at h
            refine j_iload hC 7 dX5_onlyForm_110 rfl ?_
            refine j_goto hC dX5_onlyForm_112 rfl ?_
            refine j_sub [0, 1, 2, 3, 4, 5, 6] rfl ?_
            exact J_116 v8 v9 hv8 hv9 M _ h hT
          intro v7 v8 hv7 hv8 M hl
          obtain ⟨o, h, hT⟩ := zloop_ex hl
          have h : F_X5_onlyForm_B65 rc v2 v3 v5 v6 v7 v8 M S = some o := by rw [ebd] at h; exact h
          unfold F_X5_onlyForm_B65 at h
          refine j_iload hC 7 dX5_onlyForm_65 rfl ?_
          refine j_iload hC 5 dX5_onlyForm_67 rfl ?_
          refine j_icmp_ge hC dX5_onlyForm_69 rfl (w_id hv8) (w_id hv6) (fun c4 => ?_) (fun c4 => ?_)
          · have h := zf c4 h
            obtain rfl := Option.some.inj h
            have hx65 := hd65
            rw [← show _ = ex65 from hT] at hx65
            refine j_sub [0, 2, 6] rfl ?_
            exact J_124 v2 v7 hv2 hv7 M hx65
          · have h := zt c4 h
            refine j_iload hC 6 dX5_onlyForm_72 rfl ?_
            refine j_iconst hC dX5_onlyForm_74 ?_
            refine j_icmp_eq hC dX5_onlyForm_75 rfl (w_id hv7) (w_id kR_m1) (fun c5 => ?_) (fun c5 => ?_)
            · have h := zt c5 h
              obtain rfl := Option.some.inj h
              have hx65 := hd65
              rw [← show _ = ex65 from hT] at hx65
              refine j_sub [0, 2, 6] rfl ?_
              exact J_124 v2 v7 hv2 hv7 M hx65
            · have h := zf c5 h
              refine j_aload_n hC 0 dX5_onlyForm_78 rfl rfl ?_
              refine j_aload_n hC 1 dX5_onlyForm_79 rfl rfl ?_
              refine j_aload hC 4 dX5_onlyForm_80 rfl ?_
              refine j_iload hC 7 dX5_onlyForm_82 rfl ?_
              obtain ⟨r6, hy, h⟩ := zb1_ex h
              refine j_callSi hC hE lk_X5_45 dX5_onlyForm_84 (c_X6_at l hlt g v5 v8 hv8 M S hF hy) [zr g v5, .int (zi v8)] [zr g 5, zr g 25] rfl rfl rfl (zcat (Nat.le_of_ble_eq_true rfl)) (Nat.le_of_ble_eq_true rfl) (by omega) (Nat.le_of_ble_eq_true rfl) (Nat.le_of_ble_eq_true rfl) (fun hp7 => ?_)
              have hr6 := hp7
              obtain ⟨r8, hy, h⟩ := zb1_ex h
              refine j_callSi hC hE lk_X5_59 dX5_onlyForm_87 (c_X4_word l hlt g r6 hr6 M S hy) [.int (zi r6)] [zr g 5, zr g 25] rfl rfl rfl (zcat (Nat.le_of_ble_eq_true rfl)) (Nat.le_of_ble_eq_true rfl) (by omega) (Nat.le_of_ble_eq_true rfl) (Nat.le_of_ble_eq_true rfl) (fun hp9 => ?_)
              have hr8 := hp9
              refine j_iload_n hC 3 dX5_onlyForm_90 rfl rfl ?_
              refine j_iconst hC dX5_onlyForm_91 ?_
              refine j_iadd hC dX5_onlyForm_92 ?_
              obtain ⟨r10, M11, hy, h⟩ := zb2_ex h
              refine j_callVi (ci := 4) hC hE lk_X5_82 dX5_onlyForm_93 (ihG0 r8 (w (v3 + 1)) hr8 (inR_w _) M S hF _ _ hy) [zr g 5, .int (zi r8), .int (zi (v3 + 1))] [] (zFx_kd hF 25 rfl) ⟨_, rfl, by decide, rfl⟩ rfl (by simp only [zi_w, zl_wl]) rfl (zcat (Nat.le_of_ble_eq_true rfl)) (Nat.le_of_ble_eq_true rfl) (by omega) (Nat.le_of_ble_eq_true rfl) (Nat.le_of_ble_eq_true rfl) (fun hp12 => ?_)
              have hr10 := hp12
              refine j_istore hC dX5_onlyForm_96 (Nat.le_of_ble_eq_true rfl) rfl ?_
              refine j_iload hC 7 dX5_onlyForm_98 rfl ?_
              refine j_if_eq hC dX5_onlyForm_100 rfl (w_id hv7) (fun c13 => ?_) (fun c13 => ?_)
              · have h := zt c13 h
                refine j_sub [1, 2, 3, 4, 5, 6, 8, 0] rfl ?_
                exact J_110 v8 r10 hv8 hr10 M11 _ h hT
              · have h := zf c13 h
                refine j_iload hC 7 dX5_onlyForm_103 rfl ?_
                refine j_iload hC 0 dX5_onlyForm_105 rfl ?_
                refine j_icmp_ne hC dX5_onlyForm_107 rfl (w_id hv7) (w_id hr10) (fun c14 => ?_) (fun c14 => ?_)
                · have h := zf c14 h
                  refine j_iconst hC dX5_onlyForm_115 ?_
                  refine j_sub [1, 2, 3, 4, 5, 6, 8] rfl ?_
                  exact J_116 v8 (-1) hv8 kR_m1 M11 _ h hT
                · have h := zt c14 h
                  refine j_sub [1, 2, 3, 4, 5, 6, 8, 0] rfl ?_
                  exact J_110 v8 r10 hv8 hr10 M11 _ h hT
      exact main zN v7 v8 hv7 hv8 M hl
    have J_60 : ∀ (v2 : Int) (v3 : Int) (v5 : Nat) (v6 : Int) (t0 : Int) (hv2 : inR v2) (hv3 : inR v3) (hv6 : inR v6) (ht0 : inR t0) (M : zM) (_ : F_X5_onlyForm_J60 rc v2 v3 v5 v6 t0 M S = some (r, M')), zJ K g 0 0 60 10 [(0, zr g 25), (1, zr g 5), (2, .int (zi v2)), (3, .int (zi v3)), (5, zr g v5), (6, .int (zi v6))] [.int (zi t0)] M S := by
      intro v2 v3 v5 v6 t0 hv2 hv3 hv6 ht0 M h
      unfold F_X5_onlyForm_J60 at h
      refine j_istore hC dX5_onlyForm_60 (Nat.le_of_ble_eq_true rfl) rfl ?_
      refine j_iconst hC dX5_onlyForm_62 ?_
      refine j_istore hC dX5_onlyForm_63 (Nat.le_of_ble_eq_true rfl) rfl ?_
      refine j_sub [2, 3, 4, 5, 6, 7, 1, 0] rfl ?_
      exact L_65 v2 v3 v5 v6 t0 0 hv2 hv3 hv6 ht0 kR_0 M h
    refine j_aload_n hC 0 dX5_onlyForm_0 rfl rfl ?_
    refine j_getq (q := 28) hC dX5_onlyForm_1 f_X5_22 (zFx_kd hF 25 rfl) rfl 5 rfl (zFx_rf hF 25 5 rfl) ?_
    refine j_iload_n hC 2 dX5_onlyForm_4 rfl rfl ?_
    obtain ⟨r15, hy, h⟩ := zb1_ex h
    refine j_callSi hC hE lk_X5_45 dX5_onlyForm_5 (c_X6_at l hlt g 28 v2 hv2 M S hF hy) [zr g 28, .int (zi v2)] [] rfl rfl rfl (zcat (Nat.le_of_ble_eq_true rfl)) (Nat.le_of_ble_eq_true rfl) (by omega) (Nat.le_of_ble_eq_true rfl) (Nat.le_of_ble_eq_true rfl) (fun hp16 => ?_)
    have hr15 := hp16
    refine j_istore hC dX5_onlyForm_8 (Nat.le_of_ble_eq_true rfl) rfl ?_
    refine j_iload hC 0 dX5_onlyForm_10 rfl ?_
    refine j_if_ne hC dX5_onlyForm_12 rfl (w_id hr15) (fun c17 => ?_) (fun c17 => ?_)
    · have h := zf c17 h
      refine j_iload hC 0 dX5_onlyForm_28 rfl ?_
      obtain ⟨e1, e2⟩ := zpr2 (Option.some.inj h)
      exact j_iret hC hE dX5_onlyForm_30 (w_id hr15) (zn_i _) (by rw [← e1]) e2 rfl (by rw [← e1]; exact hr15) (Nat.le_of_ble_eq_true rfl) (Nat.le_of_ble_eq_true rfl)
    · have h := zt c17 h
      refine j_iload_n hC 4 dX5_onlyForm_15 rfl rfl ?_
      refine j_if_lt hC dX5_onlyForm_16 rfl (w_id hv3) (fun c18 => ?_) (fun c18 => ?_)
      · have h := zt c18 h
        refine j_iload hC 0 dX5_onlyForm_28 rfl ?_
        obtain ⟨e1, e2⟩ := zpr2 (Option.some.inj h)
        exact j_iret hC hE dX5_onlyForm_30 (w_id hr15) (zn_i _) (by rw [← e1]) e2 rfl (by rw [← e1]; exact hr15) (Nat.le_of_ble_eq_true rfl) (Nat.le_of_ble_eq_true rfl)
      · have h := zf c18 h
        refine j_iload_n hC 4 dX5_onlyForm_19 rfl rfl ?_
        refine j_aload_n hC 1 dX5_onlyForm_20 rfl rfl ?_
        refine j_getq (q := 29) hC dX5_onlyForm_21 f_X5_32 (zFx_kd hF 25 rfl) rfl 7 rfl (zFx_rf hF 25 7 rfl) ?_
        refine j_alen (k := 27) (n := 10) hC dX5_onlyForm_24 (zFx_kd hF 29 rfl) (Nat.le_of_ble_eq_true rfl) (Nat.le_of_ble_eq_true rfl) (zFx_ln hF 29 rfl) (fun _ => ?_)
        refine j_icmp_lt hC dX5_onlyForm_25 rfl (w_id hv3) (w_id kR_10) (fun c19 => ?_) (fun c19 => ?_)
        · have h := zt c19 h
          refine j_aload_n hC 1 dX5_onlyForm_31 rfl rfl ?_
          refine j_getq (q := 29) hC dX5_onlyForm_32 f_X5_32 (zFx_kd hF 25 rfl) rfl 7 rfl (zFx_rf hF 25 7 rfl) ?_
          refine j_iload_n hC 4 dX5_onlyForm_35 rfl rfl ?_
          obtain ⟨c20, h⟩ := zchk_ex h
          refine j_aald (k := 27) (n := 10) hC dX5_onlyForm_36 (w_id hv3) (zFx_kd hF 29 rfl) (Nat.le_of_ble_eq_true rfl) (Nat.le_of_ble_eq_true rfl) (zFx_ln hF 29 rfl) c20.1 c20.2 ?_
          obtain ⟨q21, eq21, h⟩ := zlet_ex h
          refine j_nameq eq21 ?_
          refine j_astore hC dX5_onlyForm_37 (Nat.le_of_ble_eq_true rfl) rfl ?_
          refine j_aload_n hC 3 dX5_onlyForm_39 rfl rfl ?_
          refine j_iload_n hC 4 dX5_onlyForm_40 rfl rfl ?_
          refine j_aload hC 0 dX5_onlyForm_41 rfl ?_
          obtain ⟨r22, M23, hy, h⟩ := zb2_ex h
          refine j_callVi (ci := 2) hC hE lk_X5_55 dX5_onlyForm_43 (c_X2_findReductions l hlt g v2 q21 hv2 M S hF hy) [.int (zi v2), zr g q21] [] (zFx_kd hF 5 rfl) ⟨_, rfl, by decide, rfl⟩ rfl rfl rfl (zcat (Nat.le_of_ble_eq_true rfl)) (Nat.le_of_ble_eq_true rfl) (by omega) (Nat.le_of_ble_eq_true rfl) (Nat.le_of_ble_eq_true rfl) (fun hp24 => ?_)
          have hr22 := hp24
          refine j_istore (lv1 := [(6, .int (zi r22)), (5, zr g q21), (4, .int (zi r15)), (0, zr g 25), (1, zr g 5), (2, .int (zi v2)), (3, .int (zi v3))]) hC dX5_onlyForm_46 (Nat.le_of_ble_eq_true rfl) (by simp only [List.filter_cons, List.filter_nil, zr_cat, zc_i, zc_l, zc_d, zc_r] <;> first | rfl | simp [zr_cat]) ?_
          refine j_iload hC 0 dX5_onlyForm_48 rfl ?_
          refine j_if_ne hC dX5_onlyForm_50 rfl (w_id hr22) (fun c25 => ?_) (fun c25 => ?_)
          · have h := zf c25 h
            refine j_iconst hC dX5_onlyForm_59 ?_
            refine j_sub [3, 4, 5, 6, 1, 0] rfl ?_
            exact J_60 v2 v3 q21 r22 0 hv2 hv3 hr22 kR_0 M23 h
          · have h := zt c25 h
            refine j_iload_n hC 5 dX5_onlyForm_53 rfl rfl ?_
            refine j_iconst hC dX5_onlyForm_54 ?_
            refine j_iadd hC dX5_onlyForm_55 ?_
            refine j_goto hC dX5_onlyForm_56 rfl ?_
            refine j_sub [3, 4, 5, 6, 1, 0] rfl ?_
            refine j_stk (st2 := [.int (zi (w (v2 + 1)))]) (by simp only [zi_w, zl_wl]) ?_
            exact J_60 v2 v3 q21 r22 (w (v2 + 1)) hv2 hv3 hr22 (inR_w _) M23 h
        · have h := zf c19 h
          refine j_iload hC 0 dX5_onlyForm_28 rfl ?_
          obtain ⟨e1, e2⟩ := zpr2 (Option.some.inj h)
          exact j_iret hC hE dX5_onlyForm_30 (w_id hr15) (zn_i _) (by rw [← e1]) e2 rfl (by rw [← e1]; exact hr15) (Nat.le_of_ble_eq_true rfl) (Nat.le_of_ble_eq_true rfl)
theorem c_GO_0 (l : Launch) (hlt : l.stackTraces = false) (g : zG) (n : Nat) (v2 : Int) (v3 : Int) (hv2 : inR v2) (hv3 : inR v3) (M : zM) (S : zS) (hF : zFx S) {r : Int} {M' : zM} (h : F_GO n 0 v2 v3 M S = some (r, M')) : zMet l g yX5_onlyForm cX5_onlyForm 10 (some .int) (8 + n) 0 0 [zr g 25, zr g 5, .int (zi v2), .int (zi v3)] M S (.inl (some (.int (zi r)))) M' S (inR r) := (c_GO l hlt g n) v2 v3 hv2 hv3 M S hF _ _ h
set_option maxHeartbeats 4000000 in
set_option maxRecDepth 100000 in
theorem c_X5_areSingle (l : Launch) (hlt : l.stackTraces = false) (g : zG) (M : zM) (S : zS) (hF : zFx S) {r : Int} {M' : zM} (h : F_X5_areSingle M S = some (r, M')) : zMet l g yX5_areSingle cX5_areSingle 4 (some .boolean) 49 0 0 [zr g 25, zr g 5, zr g 11] M S (.inl (some (.int (zi r)))) M' S (inR r) := by
  refine zMet_of (by decide) hlt [(0, zr g 25), (1, zr g 5), (2, zr g 11)] rfl (Nat.le_of_ble_eq_true rfl) (fun K hC hE hN => ?_)
  unfold F_X5_areSingle at h
  have J_64 : ∀ (M : zM) (_ : F_X5_areSingle_J64 M S = some (r, M')), zJ K g 0 0 64 4 [(0, zr g 25)] [] M S := by
    intro M h
    unfold F_X5_areSingle_J64 at h
    refine j_aload_n hC 0 dX5_areSingle_64 rfl rfl ?_
    refine j_get hC dX5_areSingle_65 f_X5_25 (zFx_kd hF 25 rfl) rfl 6 rfl (fun hg1 => ?_)
    refine j_iconst hC dX5_areSingle_68 ?_
    refine j_icmp_ne hC dX5_areSingle_69 rfl (w_id hg1) (w_id kR_1) (fun c2 => ?_) (fun c2 => ?_)
    · have h := zf c2 h
      refine j_iconst hC dX5_areSingle_76 ?_
      obtain ⟨e1, e2⟩ := zpr2 (Option.some.inj h)
      exact j_iret hC hE dX5_areSingle_77 (w_id kR_0) (zn_z zb01_0) (by rw [← e1]) e2 rfl (by rw [← e1]; exact kR_0) (Nat.le_of_ble_eq_true rfl) (Nat.le_of_ble_eq_true rfl)
    · have h := zt c2 h
      refine j_iconst hC dX5_areSingle_72 ?_
      refine j_goto hC dX5_areSingle_73 rfl ?_
      obtain ⟨e1, e2⟩ := zpr2 (Option.some.inj h)
      exact j_iret hC hE dX5_areSingle_77 (w_id kR_1) (zn_z zb01_1) (by rw [← e1]) e2 rfl (by rw [← e1]; exact kR_1) (Nat.le_of_ble_eq_true rfl) (Nat.le_of_ble_eq_true rfl)
  have L_22 : ∀ (v3 : Int) (hv3 : inR v3) (M : zM) (_ : F_X5_areSingle_L22 v3 M S = some (r, M')), zJ K g 0 0 22 4 [(0, zr g 25), (1, zr g 5), (2, zr g 11), (3, .int (zi v3))] [] M S := by
    intro v3 hv3 M h
    unfold F_X5_areSingle_L22 at h
    obtain ⟨ex22, hl, hd22⟩ := zb1_ex h
    obtain ⟨bd22, ebd⟩ : ∃ f, f = (fun (s : Int × zM) => F_X5_areSingle_B22 s.1 s.2 S) := ⟨_, rfl⟩
    rw [← ebd] at hl
    have main : ∀ (n22 : Nat) (v3 : Int) (hv3 : inR v3) (M : zM) (_ : zloop bd22 n22 (v3, M) = some ex22), zJ K g 0 0 22 4 [(0, zr g 25), (1, zr g 5), (2, zr g 11), (3, .int (zi v3))] [] M S := by
      intro n22
      induction n22 with
      | zero => intro v3 hv3 M hl; exact zloop_0 hl
      | succ n22 ih22 =>
        have J_58 : ∀ (v3 : Int) (hv3 : inR v3) (M : zM) (o : _) (_ : F_X5_areSingle_J58 v3 M S = some o), zAft (bd22) n22 ex22 o → zJ K g 0 0 58 4 [(0, zr g 25), (1, zr g 5), (2, zr g 11), (3, .int (zi v3))] [] M S := by
          intro v3 hv3 M o h hT
          unfold F_X5_areSingle_J58 at h
          obtain ⟨x3, ex3, h⟩ := zlet_ex h
          have hx3 : inR x3 := by rw [ex3]; exact inR_w _
          refine j_iinc hC 3 dX5_areSingle_58 rfl ex3 (Nat.le_of_ble_eq_true rfl) rfl ?_
          refine j_goto hC dX5_areSingle_61 rfl ?_
          obtain rfl := Option.some.inj h
          refine j_sub [1, 2, 3, 0] rfl ?_
          exact ih22 x3 hx3 M hT
        intro v3 hv3 M hl
        obtain ⟨o, h, hT⟩ := zloop_ex hl
        have h : F_X5_areSingle_B22 v3 M S = some o := by rw [ebd] at h; exact h
        unfold F_X5_areSingle_B22 at h
        refine j_iload_n hC 3 dX5_areSingle_22 rfl rfl ?_
        refine j_aload_n hC 2 dX5_areSingle_23 rfl rfl ?_
        refine j_get hC dX5_areSingle_24 f_X5_74 (zFx_kd hF 11 rfl) rfl 13 rfl (fun hg4 => ?_)
        refine j_icmp_ge hC dX5_areSingle_27 rfl (w_id hv3) (w_id hg4) (fun c5 => ?_) (fun c5 => ?_)
        · have h := zf c5 h
          obtain rfl := Option.some.inj h
          have hx22 := hd22
          rw [← show _ = ex22 from hT] at hx22
          refine j_sub [0] rfl ?_
          exact J_64 M hx22
        · have h := zt c5 h
          refine j_aload_n hC 0 dX5_areSingle_30 rfl rfl ?_
          refine j_get hC dX5_areSingle_31 f_X5_25 (zFx_kd hF 25 rfl) rfl 6 rfl (fun hg6 => ?_)
          refine j_iconst hC dX5_areSingle_34 ?_
          refine j_icmp_ne hC dX5_areSingle_35 rfl (w_id hg6) (w_id kR_1) (fun c7 => ?_) (fun c7 => ?_)
          · have h := zf c7 h
            obtain rfl := Option.some.inj h
            have hx22 := hd22
            rw [← show _ = ex22 from hT] at hx22
            refine j_sub [0] rfl ?_
            exact J_64 M hx22
          · have h := zt c7 h
            refine j_aload_n hC 0 dX5_areSingle_38 rfl rfl ?_
            refine j_aload_n hC 1 dX5_areSingle_39 rfl rfl ?_
            refine j_aload_n hC 2 dX5_areSingle_40 rfl rfl ?_
            refine j_iload_n hC 3 dX5_areSingle_41 rfl rfl ?_
            obtain ⟨r8, hy, h⟩ := zb1_ex h
            refine j_callVi (ci := 3) hC hE lk_X5_79 dX5_areSingle_42 (c_X3_wordAt l hlt g v3 hv3 M S hF hy) [.int (zi v3)] [zr g 5, zr g 25] (zFx_kd hF 11 rfl) ⟨_, rfl, by decide, rfl⟩ rfl rfl rfl (zcat (Nat.le_of_ble_eq_true rfl)) (Nat.le_of_ble_eq_true rfl) (Nat.le_of_ble_eq_true rfl) (Nat.le_of_ble_eq_true rfl) (Nat.le_of_ble_eq_true rfl) (fun hp9 => ?_)
            have hr8 := hp9
            refine j_iconst hC dX5_areSingle_45 ?_
            obtain ⟨r10, M11, hy, h⟩ := zb2_ex h
            refine j_callVi (ci := 4) hC hE lk_X5_82 dX5_areSingle_46 (c_GO_0 l hlt g 40 r8 0 hr8 kR_0 M S hF hy) [zr g 5, .int (zi r8), .int (zi 0)] [] (zFx_kd hF 25 rfl) ⟨_, rfl, by decide, rfl⟩ rfl rfl rfl (zcat (Nat.le_of_ble_eq_true rfl)) (Nat.le_of_ble_eq_true rfl) (Nat.le_of_ble_eq_true rfl) (Nat.le_of_ble_eq_true rfl) (Nat.le_of_ble_eq_true rfl) (fun hp12 => ?_)
            have hr10 := hp12
            refine j_iconst hC dX5_areSingle_49 ?_
            refine j_icmp_ne hC dX5_areSingle_50 rfl (w_id hr10) (w_id kR_m1) (fun c13 => ?_) (fun c13 => ?_)
            · have h := zf c13 h
              exact J_58 v3 hv3 M11 _ h hT
            · have h := zt c13 h
              refine j_aload_n hC 0 dX5_areSingle_53 rfl rfl ?_
              refine j_iconst hC dX5_areSingle_54 ?_
              obtain ⟨M14, eM14, h⟩ := zlet_ex h
              refine j_put hC dX5_areSingle_55 f_X5_25 pF_X5 (zFx_kd hF 25 rfl) (Or.inl rfl) rfl 6 rfl (w_id kR_2) kR_2 eM14 ?_
              exact J_58 v3 hv3 M14 _ h hT
    exact main zN v3 hv3 M hl
  refine j_aload_n hC 0 dX5_areSingle_0 rfl rfl ?_
  refine j_get hC dX5_areSingle_1 f_X5_25 (zFx_kd hF 25 rfl) rfl 6 rfl (fun hg15 => ?_)
  refine j_if_ne hC dX5_areSingle_4 rfl (w_id hg15) (fun c16 => ?_) (fun c16 => ?_)
  · have h := zf c16 h
    refine j_sub [0] rfl ?_
    exact J_64 M h
  · have h := zt c16 h
    refine j_aload_n hC 0 dX5_areSingle_7 rfl rfl ?_
    refine j_getq (q := 28) hC dX5_areSingle_8 f_X5_22 (zFx_kd hF 25 rfl) rfl 5 rfl (zFx_rf hF 25 5 rfl) ?_
    refine j_iconst hC dX5_areSingle_11 ?_
    obtain ⟨M17, hy, h⟩ := zb1_ex h
    refine j_callSv hC hE lk_X5_68 dX5_areSingle_12 (c_J7_fill_53178 l hlt g 28 0 kR_0 M S hF hy) [zr g 28, .int (zi 0)] [] rfl rfl rfl (zcat (Nat.le_of_ble_eq_true rfl)) (Nat.le_of_ble_eq_true rfl) (Nat.le_of_ble_eq_true rfl) (Nat.le_of_ble_eq_true rfl) (Nat.le_of_ble_eq_true rfl) (fun hp18 => ?_)
    refine j_aload_n hC 0 dX5_areSingle_15 rfl rfl ?_
    refine j_iconst hC dX5_areSingle_16 ?_
    obtain ⟨M19, eM19, h⟩ := zlet_ex h
    refine j_put hC dX5_areSingle_17 f_X5_25 pF_X5 (zFx_kd hF 25 rfl) (Or.inl rfl) rfl 6 rfl (w_id kR_1) kR_1 eM19 ?_
    refine j_iconst hC dX5_areSingle_20 ?_
    refine j_istore_n hC dX5_areSingle_21 rfl (Nat.le_of_ble_eq_true rfl) rfl ?_
    refine j_sub [1, 2, 3, 0] rfl ?_
    exact L_22 0 kR_0 M19 h
set_option maxHeartbeats 4000000 in
set_option maxRecDepth 100000 in
theorem c_X7_init (l : Launch) (hlt : l.stackTraces = false) (g : zG) (v0 : Nat) (v1 : Nat) (M : zM) (S : zS) {S' : zS} (h : F_X7_init v0 v1 S = some S') : zMet l g yX7_init cX7_init 2 none 3 2 924 [zr g v0, zr g v1] M S (.inl none) M S' ((zFx S → 89 < v0 → zFx S')) := by
  refine zMet_of (by decide) hlt [(0, zr g v0), (1, zr g v1)] (by simp only [lv_args, zr_cat, zc_i, zc_l, zc_d, zc_r] <;> rfl) (by rw [zsl_len]; simp only [List.map_cons, List.map_nil, zr_cat, zc_i, zc_l, zc_d, zc_r, List.sum_cons, List.sum_nil] <;> decide) (fun K hC hE hN => ?_)
  unfold F_X7_init at h
  refine j_aload_n hC 0 dX7_init_0 rfl rfl ?_
  obtain ⟨c1, h⟩ := zchk_ex h
  refine j_objI hC hE dX7_init_1 k1096 k79 k80 c1 (Nat.le_of_ble_eq_true rfl) (Nat.le_of_ble_eq_true rfl) ?_
  refine j_aload_n hC 0 dX7_init_4 rfl rfl ?_
  refine j_sipush hC dX7_init_5 rfl ?_
  obtain ⟨q2, eq2, h⟩ := zlet_ex h
  obtain ⟨c3, h⟩ := zchk_ex h
  obtain ⟨S4, eS4, h⟩ := zlet_ex h
  refine j_newa21 (N := 462) (mx := 462) hC hE ka_21 dX7_init_8 (w_id kR_462) rfl (Nat.le_of_ble_eq_true rfl) (Nat.le_of_ble_eq_true rfl) eq2 eS4 (Or.inr ⟨c3, (Nat.le_of_ble_eq_true rfl)⟩) (Nat.le_of_ble_eq_true rfl) (Nat.le_of_ble_eq_true rfl) ?_
  obtain ⟨hk, h⟩ := zchk_ex h
  have hk5 := hk
  obtain ⟨S6, eS6, h⟩ := zlet_ex h
  refine j_putq hC hE dX7_init_10 f_X7_9 pF_X7 hk5 rfl rfl rfl 1 rfl eS6 ?_
  refine j_aload_n hC 0 dX7_init_13 rfl rfl ?_
  refine j_sipush hC dX7_init_14 rfl ?_
  obtain ⟨q7, eq7, h⟩ := zlet_ex h
  obtain ⟨c8, h⟩ := zchk_ex h
  obtain ⟨S9, eS9, h⟩ := zlet_ex h
  refine j_newa21 (N := 462) (mx := 462) hC hE ka_21 dX7_init_17 (w_id kR_462) rfl (Nat.le_of_ble_eq_true rfl) (Nat.le_of_ble_eq_true rfl) eq7 eS9 (Or.inr ⟨c8, (Nat.le_of_ble_eq_true rfl)⟩) (Nat.le_of_ble_eq_true rfl) (Nat.le_of_ble_eq_true rfl) ?_
  obtain ⟨hk, h⟩ := zchk_ex h
  have hk10 := hk
  obtain ⟨S11, eS11, h⟩ := zlet_ex h
  refine j_putq hC hE dX7_init_19 f_X7_15 pF_X7 hk10 rfl rfl rfl 2 rfl eS11 ?_
  refine j_aload_n hC 0 dX7_init_22 rfl rfl ?_
  refine j_aload_n hC 1 dX7_init_23 rfl rfl ?_
  obtain ⟨hk, h⟩ := zchk_ex h
  have hk12 := hk
  obtain ⟨S13, eS13, h⟩ := zlet_ex h
  refine j_putq hC hE dX7_init_24 f_X7_18 pF_X7 hk12 rfl rfl rfl 0 rfl eS13 ?_
  have e1 := Option.some.inj h
  exact j_vret hC hE dX7_init_27 rfl rfl e1 (by rw [← e1]; exact (zFx_pq (zFx_pq (zFx_pn (zFx_pq (zFx_pn (zFx_id (S := S)) eS4) eS6) eS9) eS11) eS13)) (Nat.le_of_ble_eq_true rfl) (Nat.le_of_ble_eq_true rfl)
set_option maxHeartbeats 4000000 in
set_option maxRecDepth 100000 in
theorem c_X8_init (l : Launch) (hlt : l.stackTraces = false) (g : zG) (v0 : Nat) (M : zM) (S : zS) {M' : zM} {S' : zS} (h : F_X8_init v0 M S = some (M', S')) : zMet l g yX8_init cX8_init 1 none 3 1 20 [zr g v0] M S (.inl none) M' S' (True) := by
  refine zMet_of (by decide) hlt [(0, zr g v0)] (by simp only [lv_args, zr_cat, zc_i, zc_l, zc_d, zc_r] <;> rfl) (by rw [zsl_len]; simp only [List.map_cons, List.map_nil, zr_cat, zc_i, zc_l, zc_d, zc_r, List.sum_cons, List.sum_nil] <;> decide) (fun K hC hE hN => ?_)
  unfold F_X8_init at h
  refine j_aload_n hC 0 dX8_init_0 rfl rfl ?_
  obtain ⟨c1, h⟩ := zchk_ex h
  refine j_objI hC hE dX8_init_1 k260 k79 k80 c1 (Nat.le_of_ble_eq_true rfl) (Nat.le_of_ble_eq_true rfl) ?_
  refine j_aload_n hC 0 dX8_init_4 rfl rfl ?_
  refine j_bipush hC dX8_init_5 rfl ?_
  obtain ⟨q2, eq2, h⟩ := zlet_ex h
  obtain ⟨c3, h⟩ := zchk_ex h
  obtain ⟨S4, eS4, h⟩ := zlet_ex h
  refine j_newa20 (N := 20) (mx := 20) hC hE ka_20 dX8_init_7 (w_id kR_20) rfl (Nat.le_of_ble_eq_true rfl) (Nat.le_of_ble_eq_true rfl) eq2 eS4 (Or.inl c3) (Nat.le_of_ble_eq_true rfl) (Nat.le_of_ble_eq_true rfl) ?_
  obtain ⟨hk, h⟩ := zchk_ex h
  have hk5 := hk
  obtain ⟨S6, eS6, h⟩ := zlet_ex h
  refine j_putq hC hE dX8_init_9 f_X8_9 pF_X8 hk5 rfl rfl rfl 0 rfl eS6 ?_
  refine j_aload_n hC 0 dX8_init_12 rfl rfl ?_
  refine j_iconst hC dX8_init_13 ?_
  obtain ⟨hk, h⟩ := zchk_ex h
  have hk7 := hk
  obtain ⟨M8, eM8, h⟩ := zlet_ex h
  refine j_put hC dX8_init_14 f_X8_13 pF_X8 hk7 (Or.inl rfl) rfl 1 rfl (w_id kR_m1) kR_m1 eM8 ?_
  obtain ⟨e1, e2⟩ := zpr2 (Option.some.inj h)
  exact j_vret hC hE dX8_init_17 rfl e1 e2 trivial (Nat.le_of_ble_eq_true rfl) (Nat.le_of_ble_eq_true rfl)
set_option maxHeartbeats 4000000 in
set_option maxRecDepth 100000 in
theorem c_X8_renew (l : Launch) (hlt : l.stackTraces = false) (g : zG) (v0 : Nat) (v1 : Int) (v2 : Int) (hv1 : inR v1) (hv2 : inR v2) (M : zM) (S : zS) (hF : zFx S) {M' : zM} (h : F_X8_renew v0 v1 v2 M S = some M') : zMet l g yX8_renew cX8_renew 3 none 2 0 0 [zr g v0, .int (zi v1), .int (zi v2)] M S (.inl none) M' S (True) := by
  refine zMet_of (by decide) hlt [(0, zr g v0), (1, .int (zi v1)), (2, .int (zi v2))] (by simp only [lv_args, zr_cat, zc_i, zc_l, zc_d, zc_r] <;> rfl) (by rw [zsl_len]; simp only [List.map_cons, List.map_nil, zr_cat, zc_i, zc_l, zc_d, zc_r, List.sum_cons, List.sum_nil] <;> decide) (fun K hC hE hN => ?_)
  unfold F_X8_renew at h
  refine j_aload_n hC 0 dX8_renew_0 rfl rfl ?_
  refine j_iload_n hC 1 dX8_renew_1 rfl rfl ?_
  obtain ⟨hk, h⟩ := zchk_ex h
  have hk1 := hk
  obtain ⟨M2, eM2, h⟩ := zlet_ex h
  refine j_put hC dX8_renew_2 f_X8_13 pF_X8 hk1 (Or.inl rfl) rfl 1 rfl (w_id hv1) hv1 eM2 ?_
  refine j_aload_n hC 0 dX8_renew_5 rfl rfl ?_
  refine j_iload_n hC 2 dX8_renew_6 rfl rfl ?_
  obtain ⟨hk, h⟩ := zchk_ex h
  have hk3 := hk
  obtain ⟨M4, eM4, h⟩ := zlet_ex h
  refine j_put hC dX8_renew_7 f_X8_17 pF_X8 hk3 (Or.inl rfl) rfl 2 rfl (w_id hv2) hv2 eM4 ?_
  refine j_aload_n hC 0 dX8_renew_10 rfl rfl ?_
  obtain ⟨hk, h⟩ := zchk_ex h
  have hk5 := hk
  refine j_getq hC dX8_renew_11 f_X8_9 hk5 rfl 0 rfl rfl ?_
  refine j_iconst hC dX8_renew_14 ?_
  obtain ⟨M6, hy, h⟩ := zb1_ex h
  refine j_callSv hC hE lk_X8_20 dX8_renew_15 (c_J7_fill_53178 l hlt g (zrf S v0 0) 0 kR_0 M4 S hF hy) [zr g (zrf S v0 0), .int (zi 0)] [] rfl rfl rfl (zcat (Nat.le_of_ble_eq_true rfl)) (Nat.le_of_ble_eq_true rfl) (Nat.le_of_ble_eq_true rfl) (Nat.le_of_ble_eq_true rfl) (Nat.le_of_ble_eq_true rfl) (fun hp7 => ?_)
  have e1 := Option.some.inj h
  exact j_vret hC hE dX8_renew_18 rfl e1 rfl trivial (Nat.le_of_ble_eq_true rfl) (Nat.le_of_ble_eq_true rfl)
set_option maxHeartbeats 4000000 in
set_option maxRecDepth 100000 in
theorem c_X8_setNarrowed (l : Launch) (hlt : l.stackTraces = false) (g : zG) (v0 : Nat) (v1 : Int) (v2 : Int) (hv1 : inR v1) (hv2 : inR v2) (M : zM) (S : zS) (hF : zFx S) {M' : zM} (h : F_X8_setNarrowed v0 v1 v2 M S = some M') : zMet l g yX8_setNarrowed cX8_setNarrowed 4 none 2 0 0 [zr g v0, .int (zi v1), .int (zi v2)] M S (.inl none) M' S (True) := by
  refine zMet_of (by decide) hlt [(0, zr g v0), (1, .int (zi v1)), (2, .int (zi v2))] (by simp only [lv_args, zr_cat, zc_i, zc_l, zc_d, zc_r] <;> rfl) (by rw [zsl_len]; simp only [List.map_cons, List.map_nil, zr_cat, zc_i, zc_l, zc_d, zc_r, List.sum_cons, List.sum_nil] <;> decide) (fun K hC hE hN => ?_)
  unfold F_X8_setNarrowed at h
  have J_26 : ∀ (v0 : Nat) (v1 : Int) (v3 : Int) (hv1 : inR v1) (hv3 : inR v3) (M : zM) (_ : F_X8_setNarrowed_J26 v0 v1 v3 M S = some M'), zJ K g 0 0 26 4 [(0, zr g v0), (1, .int (zi v1)), (3, .int (zi v3))] [] M S := by
    intro v0 v1 v3 hv1 hv3 M h
    unfold F_X8_setNarrowed_J26 at h
    refine j_aload_n hC 0 dX8_setNarrowed_26 rfl rfl ?_
    obtain ⟨hk, h⟩ := zchk_ex h
    have hk1 := hk
    refine j_getq hC dX8_setNarrowed_27 f_X8_9 hk1 rfl 0 rfl rfl ?_
    refine j_iload_n hC 1 dX8_setNarrowed_30 rfl rfl ?_
    refine j_iload_n hC 2 dX8_setNarrowed_31 rfl rfl ?_
    obtain ⟨M2, hy, h⟩ := zb1_ex h
    refine j_callSv hC hE lk_X8_26 dX8_setNarrowed_32 (c_X6_put l hlt g (zrf S v0 0) v1 v3 hv1 hv3 M S hF hy) [zr g (zrf S v0 0), .int (zi v1), .int (zi v3)] [] rfl rfl rfl (zcat (Nat.le_of_ble_eq_true rfl)) (Nat.le_of_ble_eq_true rfl) (Nat.le_of_ble_eq_true rfl) (Nat.le_of_ble_eq_true rfl) (Nat.le_of_ble_eq_true rfl) (fun hp3 => ?_)
    have e1 := Option.some.inj h
    exact j_vret hC hE dX8_setNarrowed_35 rfl e1 rfl trivial (Nat.le_of_ble_eq_true rfl) (Nat.le_of_ble_eq_true rfl)
  refine j_iload_n hC 2 dX8_setNarrowed_0 rfl rfl ?_
  refine j_istore_n hC dX8_setNarrowed_1 rfl (Nat.le_of_ble_eq_true rfl) rfl ?_
  refine j_aload_n hC 1 dX8_setNarrowed_2 rfl rfl ?_
  obtain ⟨hk, h⟩ := zchk_ex h
  have hk4 := hk
  refine j_get hC dX8_setNarrowed_3 f_X8_13 hk4 rfl 1 rfl (fun hg5 => ?_)
  refine j_if_ne hC dX8_setNarrowed_6 rfl (w_id hg5) (fun c6 => ?_) (fun c6 => ?_)
  · have h := zf c6 h
    refine j_aload_n hC 1 dX8_setNarrowed_15 rfl rfl ?_
    obtain ⟨hk, h⟩ := zchk_ex h
    have hk7 := hk
    refine j_get hC dX8_setNarrowed_16 f_X8_13 hk7 rfl 1 rfl (fun hg8 => ?_)
    refine j_iconst hC dX8_setNarrowed_19 ?_
    refine j_icmp_eq hC dX8_setNarrowed_20 rfl (w_id hg8) (w_id kR_2) (fun c9 => ?_) (fun c9 => ?_)
    · have h := zt c9 h
      refine j_sub [1, 2, 0] rfl ?_
      exact J_26 v0 v1 v2 hv1 hv2 M h
    · have h := zf c9 h
      refine j_iload_n hC 3 dX8_setNarrowed_23 rfl rfl ?_
      refine j_i2s hC dX8_setNarrowed_24 ?_
      obtain ⟨x10, ex10, h⟩ := zlet_ex h
      have hx10 : inR x10 := by rw [ex10]; exact (cR_zi2s _)
      refine j_names ex10 ?_
      refine j_istore_n hC dX8_setNarrowed_25 rfl (Nat.le_of_ble_eq_true rfl) rfl ?_
      refine j_sub [1, 2, 0] rfl ?_
      exact J_26 v0 v1 x10 hv1 hx10 M h
  · have h := zt c6 h
    refine j_iload_n hC 3 dX8_setNarrowed_9 rfl rfl ?_
    refine j_i2b hC dX8_setNarrowed_10 ?_
    obtain ⟨x11, ex11, h⟩ := zlet_ex h
    have hx11 : inR x11 := by rw [ex11]; exact (cR_zi2b _)
    refine j_names ex11 ?_
    refine j_istore_n hC dX8_setNarrowed_11 rfl (Nat.le_of_ble_eq_true rfl) rfl ?_
    refine j_goto hC dX8_setNarrowed_12 rfl ?_
    refine j_sub [1, 2, 0] rfl ?_
    exact J_26 v0 v1 x11 hv1 hx11 M h
set_option maxHeartbeats 4000000 in
set_option maxRecDepth 100000 in
theorem c_X10_init (l : Launch) (hlt : l.stackTraces = false) (g : zG) (v0 : Nat) (M : zM) (S : zS) {M' : zM} {S' : zS} (h : F_X10_init v0 M S = some (M', S')) : zMet l g yX10_init cX10_init 1 none 4 46 162261 [zr g v0] M S (.inl none) M' S' (True) := by
  refine zMet_of (by decide) hlt [(0, zr g v0)] (by simp only [lv_args, zr_cat, zc_i, zc_l, zc_d, zc_r] <;> rfl) (by rw [zsl_len]; simp only [List.map_cons, List.map_nil, zr_cat, zc_i, zc_l, zc_d, zc_r, List.sum_cons, List.sum_nil] <;> decide) (fun K hC hE hN => ?_)
  unfold F_X10_init at h
  refine j_aload_n hC 0 dX10_init_0 rfl rfl ?_
  obtain ⟨c1, h⟩ := zchk_ex h
  refine j_objI hC hE dX10_init_1 k78 k79 k80 c1 (Nat.le_of_ble_eq_true rfl) (Nat.le_of_ble_eq_true rfl) ?_
  refine j_aload_n hC 0 dX10_init_4 rfl rfl ?_
  obtain ⟨q2, eq2, h⟩ := zlet_ex h
  obtain ⟨c3, h⟩ := zchk_ex h
  obtain ⟨S4, eS4, h⟩ := zlet_ex h
  refine j_new hC hE n_X10_7 pF_X1 dX10_init_5 eq2 eS4 (Or.inl c3) (Nat.le_of_ble_eq_true rfl) (Nat.le_of_ble_eq_true rfl) ?_
  refine j_dup hC dX10_init_8 (zr_cat _ _) ?_
  obtain ⟨S5, hy, h⟩ := zb1_ex h
  refine j_callINv hC hE lk_X10_9 dX10_init_9 (c_X1_init l hlt g q2 M S4 hy) [] [zr g q2, zr g v0] (by rw [eq2]; exact Nat.succ_ne_zero _) rfl rfl rfl (zcat (Nat.le_of_ble_eq_true rfl)) (Nat.le_of_ble_eq_true rfl) (Nat.le_of_ble_eq_true rfl) (Nat.le_of_ble_eq_true rfl) (Nat.le_of_ble_eq_true rfl) (fun hp6 => ?_)
  obtain ⟨hk, h⟩ := zchk_ex h
  have hk7 := hk
  obtain ⟨S8, eS8, h⟩ := zlet_ex h
  refine j_putq hC hE dX10_init_12 f_X10_10 pF_X10 hk7 rfl rfl rfl 0 rfl eS8 ?_
  refine j_aload_n hC 0 dX10_init_15 rfl rfl ?_
  obtain ⟨q9, eq9, h⟩ := zlet_ex h
  obtain ⟨c10, h⟩ := zchk_ex h
  obtain ⟨S11, eS11, h⟩ := zlet_ex h
  refine j_new hC hE n_X10_16 pF_X2 dX10_init_16 eq9 eS11 (Or.inl c10) (Nat.le_of_ble_eq_true rfl) (Nat.le_of_ble_eq_true rfl) ?_
  refine j_dup hC dX10_init_19 (zr_cat _ _) ?_
  obtain ⟨M12, S13, hy, h⟩ := zb2_ex h
  refine j_callINv hC hE lk_X10_18 dX10_init_20 (c_X2_init l hlt g q9 M S11 hy) [] [zr g q9, zr g v0] (by rw [eq9]; exact Nat.succ_ne_zero _) rfl rfl rfl (zcat (Nat.le_of_ble_eq_true rfl)) (Nat.le_of_ble_eq_true rfl) (Nat.le_of_ble_eq_true rfl) (Nat.le_of_ble_eq_true rfl) (Nat.le_of_ble_eq_true rfl) (fun hp14 => ?_)
  obtain ⟨hk, h⟩ := zchk_ex h
  have hk15 := hk
  obtain ⟨S16, eS16, h⟩ := zlet_ex h
  refine j_putq hC hE dX10_init_23 f_X10_19 pF_X10 hk15 rfl rfl rfl 1 rfl eS16 ?_
  refine j_aload_n hC 0 dX10_init_26 rfl rfl ?_
  obtain ⟨q17, eq17, h⟩ := zlet_ex h
  obtain ⟨c18, h⟩ := zchk_ex h
  obtain ⟨S19, eS19, h⟩ := zlet_ex h
  refine j_new hC hE n_X10_16 pF_X2 dX10_init_27 eq17 eS19 (Or.inl c18) (Nat.le_of_ble_eq_true rfl) (Nat.le_of_ble_eq_true rfl) ?_
  refine j_dup hC dX10_init_30 (zr_cat _ _) ?_
  obtain ⟨M20, S21, hy, h⟩ := zb2_ex h
  refine j_callINv hC hE lk_X10_18 dX10_init_31 (c_X2_init l hlt g q17 M12 S19 hy) [] [zr g q17, zr g v0] (by rw [eq17]; exact Nat.succ_ne_zero _) rfl rfl rfl (zcat (Nat.le_of_ble_eq_true rfl)) (Nat.le_of_ble_eq_true rfl) (Nat.le_of_ble_eq_true rfl) (Nat.le_of_ble_eq_true rfl) (Nat.le_of_ble_eq_true rfl) (fun hp22 => ?_)
  obtain ⟨hk, h⟩ := zchk_ex h
  have hk23 := hk
  obtain ⟨S24, eS24, h⟩ := zlet_ex h
  refine j_putq hC hE dX10_init_34 f_X10_23 pF_X10 hk23 rfl rfl rfl 2 rfl eS24 ?_
  refine j_aload_n hC 0 dX10_init_37 rfl rfl ?_
  obtain ⟨q25, eq25, h⟩ := zlet_ex h
  obtain ⟨c26, h⟩ := zchk_ex h
  obtain ⟨S27, eS27, h⟩ := zlet_ex h
  refine j_new hC hE n_X10_26 pF_X3 dX10_init_38 eq25 eS27 (Or.inl c26) (Nat.le_of_ble_eq_true rfl) (Nat.le_of_ble_eq_true rfl) ?_
  refine j_dup hC dX10_init_41 (zr_cat _ _) ?_
  obtain ⟨S28, hy, h⟩ := zb1_ex h
  refine j_callINv hC hE lk_X10_28 dX10_init_42 (c_X3_init l hlt g q25 M20 S27 hy) [] [zr g q25, zr g v0] (by rw [eq25]; exact Nat.succ_ne_zero _) rfl rfl rfl (zcat (Nat.le_of_ble_eq_true rfl)) (Nat.le_of_ble_eq_true rfl) (Nat.le_of_ble_eq_true rfl) (Nat.le_of_ble_eq_true rfl) (Nat.le_of_ble_eq_true rfl) (fun hp29 => ?_)
  obtain ⟨hk, h⟩ := zchk_ex h
  have hk30 := hk
  obtain ⟨S31, eS31, h⟩ := zlet_ex h
  refine j_putq hC hE dX10_init_45 f_X10_29 pF_X10 hk30 rfl rfl rfl 3 rfl eS31 ?_
  refine j_aload_n hC 0 dX10_init_48 rfl rfl ?_
  obtain ⟨q32, eq32, h⟩ := zlet_ex h
  obtain ⟨c33, h⟩ := zchk_ex h
  obtain ⟨S34, eS34, h⟩ := zlet_ex h
  refine j_new hC hE n_X10_33 pF_X5 dX10_init_49 eq32 eS34 (Or.inl c33) (Nat.le_of_ble_eq_true rfl) (Nat.le_of_ble_eq_true rfl) ?_
  refine j_dup hC dX10_init_52 (zr_cat _ _) ?_
  obtain ⟨M35, S36, hy, h⟩ := zb2_ex h
  refine j_callINv hC hE lk_X10_35 dX10_init_53 (c_X5_init l hlt g q32 M20 S34 hy) [] [zr g q32, zr g v0] (by rw [eq32]; exact Nat.succ_ne_zero _) rfl rfl rfl (zcat (Nat.le_of_ble_eq_true rfl)) (Nat.le_of_ble_eq_true rfl) (Nat.le_of_ble_eq_true rfl) (Nat.le_of_ble_eq_true rfl) (Nat.le_of_ble_eq_true rfl) (fun hp37 => ?_)
  obtain ⟨hk, h⟩ := zchk_ex h
  have hk38 := hk
  obtain ⟨S39, eS39, h⟩ := zlet_ex h
  refine j_putq hC hE dX10_init_56 f_X10_36 pF_X10 hk38 rfl rfl rfl 4 rfl eS39 ?_
  refine j_aload_n hC 0 dX10_init_59 rfl rfl ?_
  refine j_sipush hC dX10_init_60 rfl ?_
  obtain ⟨q40, eq40, h⟩ := zlet_ex h
  obtain ⟨c41, h⟩ := zchk_ex h
  obtain ⟨S42, eS42, h⟩ := zlet_ex h
  refine j_newa20 (N := 225) (mx := 225) hC hE ka_20 dX10_init_63 (w_id kR_225) rfl (Nat.le_of_ble_eq_true rfl) (Nat.le_of_ble_eq_true rfl) eq40 eS42 (Or.inl c41) (Nat.le_of_ble_eq_true rfl) (Nat.le_of_ble_eq_true rfl) ?_
  obtain ⟨hk, h⟩ := zchk_ex h
  have hk43 := hk
  obtain ⟨S44, eS44, h⟩ := zlet_ex h
  refine j_putq hC hE dX10_init_65 f_X10_40 pF_X10 hk43 rfl rfl rfl 5 rfl eS44 ?_
  refine j_aload_n hC 0 dX10_init_68 rfl rfl ?_
  refine j_iconst hC dX10_init_69 ?_
  obtain ⟨q45, eq45, h⟩ := zlet_ex h
  obtain ⟨c46, h⟩ := zchk_ex h
  obtain ⟨S47, eS47, h⟩ := zlet_ex h
  refine j_newa26 (N := 3) (mx := 3) hC hE an_X10_44 dX10_init_70 (w_id kR_3) rfl (Nat.le_of_ble_eq_true rfl) (Nat.le_of_ble_eq_true rfl) eq45 eS47 (Or.inl c46) (Nat.le_of_ble_eq_true rfl) (Nat.le_of_ble_eq_true rfl) ?_
  refine j_dup hC dX10_init_73 (zr_cat _ _) ?_
  refine j_iconst hC dX10_init_74 ?_
  obtain ⟨q48, eq48, h⟩ := zlet_ex h
  obtain ⟨c49, h⟩ := zchk_ex h
  obtain ⟨S50, eS50, h⟩ := zlet_ex h
  refine j_new hC hE n_X10_44 pF_X8 dX10_init_75 eq48 eS50 (Or.inl c49) (Nat.le_of_ble_eq_true rfl) (Nat.le_of_ble_eq_true rfl) ?_
  refine j_dup hC dX10_init_78 (zr_cat _ _) ?_
  obtain ⟨M51, S52, hy, h⟩ := zb2_ex h
  refine j_callINv hC hE lk_X10_46 dX10_init_79 (c_X8_init l hlt g q48 M35 S50 hy) [] [zr g q48, .int (zi 0), zr g q45, zr g q45, zr g v0] (by rw [eq48]; exact Nat.succ_ne_zero _) rfl rfl rfl (by simp only [List.map_cons, List.map_nil, zr_cat, zc_i, zc_l, zc_d, zc_r, List.sum_cons, List.sum_nil] <;> decide) (Nat.le_of_ble_eq_true rfl) (Nat.le_of_ble_eq_true rfl) (Nat.le_of_ble_eq_true rfl) (Nat.le_of_ble_eq_true rfl) (fun hp53 => ?_)
  obtain ⟨hk, h⟩ := zchk_ex h
  have hk54 := hk
  obtain ⟨c55, h⟩ := zchk_ex h
  obtain ⟨c56, h⟩ := zchk_ex h
  obtain ⟨S57, eS57, h⟩ := zlet_ex h
  refine j_aast26 (n := (zlen S52 q45)) hC hE dX10_init_82 (w_id kR_0) hk54 rfl c55.1 c55.2 c56 eS57 ?_
  refine j_dup hC dX10_init_83 (zr_cat _ _) ?_
  refine j_iconst hC dX10_init_84 ?_
  obtain ⟨q58, eq58, h⟩ := zlet_ex h
  obtain ⟨c59, h⟩ := zchk_ex h
  obtain ⟨S60, eS60, h⟩ := zlet_ex h
  refine j_new hC hE n_X10_44 pF_X8 dX10_init_85 eq58 eS60 (Or.inl c59) (Nat.le_of_ble_eq_true rfl) (Nat.le_of_ble_eq_true rfl) ?_
  refine j_dup hC dX10_init_88 (zr_cat _ _) ?_
  obtain ⟨M61, S62, hy, h⟩ := zb2_ex h
  refine j_callINv hC hE lk_X10_46 dX10_init_89 (c_X8_init l hlt g q58 M51 S60 hy) [] [zr g q58, .int (zi 1), zr g q45, zr g q45, zr g v0] (by rw [eq58]; exact Nat.succ_ne_zero _) rfl rfl rfl (by simp only [List.map_cons, List.map_nil, zr_cat, zc_i, zc_l, zc_d, zc_r, List.sum_cons, List.sum_nil] <;> decide) (Nat.le_of_ble_eq_true rfl) (Nat.le_of_ble_eq_true rfl) (Nat.le_of_ble_eq_true rfl) (Nat.le_of_ble_eq_true rfl) (fun hp63 => ?_)
  obtain ⟨hk, h⟩ := zchk_ex h
  have hk64 := hk
  obtain ⟨c65, h⟩ := zchk_ex h
  obtain ⟨c66, h⟩ := zchk_ex h
  obtain ⟨S67, eS67, h⟩ := zlet_ex h
  refine j_aast26 (n := (zlen S62 q45)) hC hE dX10_init_92 (w_id kR_1) hk64 rfl c65.1 c65.2 c66 eS67 ?_
  refine j_dup hC dX10_init_93 (zr_cat _ _) ?_
  refine j_iconst hC dX10_init_94 ?_
  obtain ⟨q68, eq68, h⟩ := zlet_ex h
  obtain ⟨c69, h⟩ := zchk_ex h
  obtain ⟨S70, eS70, h⟩ := zlet_ex h
  refine j_new hC hE n_X10_44 pF_X8 dX10_init_95 eq68 eS70 (Or.inl c69) (Nat.le_of_ble_eq_true rfl) (Nat.le_of_ble_eq_true rfl) ?_
  refine j_dup hC dX10_init_98 (zr_cat _ _) ?_
  obtain ⟨M71, S72, hy, h⟩ := zb2_ex h
  refine j_callINv hC hE lk_X10_46 dX10_init_99 (c_X8_init l hlt g q68 M61 S70 hy) [] [zr g q68, .int (zi 2), zr g q45, zr g q45, zr g v0] (by rw [eq68]; exact Nat.succ_ne_zero _) rfl rfl rfl (by simp only [List.map_cons, List.map_nil, zr_cat, zc_i, zc_l, zc_d, zc_r, List.sum_cons, List.sum_nil] <;> decide) (Nat.le_of_ble_eq_true rfl) (Nat.le_of_ble_eq_true rfl) (Nat.le_of_ble_eq_true rfl) (Nat.le_of_ble_eq_true rfl) (fun hp73 => ?_)
  obtain ⟨hk, h⟩ := zchk_ex h
  have hk74 := hk
  obtain ⟨c75, h⟩ := zchk_ex h
  obtain ⟨c76, h⟩ := zchk_ex h
  obtain ⟨S77, eS77, h⟩ := zlet_ex h
  refine j_aast26 (n := (zlen S72 q45)) hC hE dX10_init_102 (w_id kR_2) hk74 rfl c75.1 c75.2 c76 eS77 ?_
  obtain ⟨hk, h⟩ := zchk_ex h
  have hk78 := hk
  obtain ⟨S79, eS79, h⟩ := zlet_ex h
  refine j_putq hC hE dX10_init_103 f_X10_47 pF_X10 hk78 rfl rfl rfl 6 rfl eS79 ?_
  refine j_aload_n hC 0 dX10_init_106 rfl rfl ?_
  refine j_iconst hC dX10_init_107 ?_
  obtain ⟨hk, h⟩ := zchk_ex h
  have hk80 := hk
  obtain ⟨M81, eM81, h⟩ := zlet_ex h
  refine j_put hC dX10_init_108 f_X10_51 pF_X10 hk80 (Or.inl rfl) rfl 7 rfl (w_id kR_m1) kR_m1 eM81 ?_
  refine j_aload_n hC 0 dX10_init_111 rfl rfl ?_
  refine j_iconst hC dX10_init_112 ?_
  obtain ⟨hk, h⟩ := zchk_ex h
  have hk82 := hk
  obtain ⟨M83, eM83, h⟩ := zlet_ex h
  refine j_put hC dX10_init_113 f_X10_55 pF_X10 hk82 (Or.inr (Or.inl rfl)) rfl 11 rfl (w_id kR_1) zb01_1 eM83 ?_
  obtain ⟨e1, e2⟩ := zpr2 (Option.some.inj h)
  exact j_vret hC hE dX10_init_116 rfl e1 e2 trivial (Nat.le_of_ble_eq_true rfl) (Nat.le_of_ble_eq_true rfl)
set_option maxHeartbeats 4000000 in
set_option maxRecDepth 100000 in
theorem c_X10_append (l : Launch) (hlt : l.stackTraces = false) (g : zG) (v1 : Int) (hv1 : inR v1) (M : zM) (S : zS) (hF : zFx S) {r : Nat ⊕ Unit} {M' : zM} {S' : zS} (h : F_X10_append v1 M S = some (r, M', S')) : zMet l g yX10_append cX10_append 2 none 2 1 6 [zr g 1, .int (zi v1)] M S (zOX zkv r) M' S' (zFx S') := by
  refine zMet_of (by decide) hlt [(0, zr g 1), (1, .int (zi v1))] rfl (Nat.le_of_ble_eq_true rfl) (fun K hC hE hN => ?_)
  unfold F_X10_append at h
  refine j_aload_n hC 0 dX10_append_0 rfl rfl ?_
  refine j_getq (q := 2) hC dX10_append_1 f_X10_10 (zFx_kd hF 1 rfl) rfl 0 rfl (zFx_rf hF 1 0 rfl) ?_
  refine j_iload_n hC 1 dX10_append_4 rfl rfl ?_
  obtain ⟨r1, M2, hy, h⟩ := zb2_ex h
  refine j_callVi (ci := 1) hC hE lk_X10_59 dX10_append_5 (c_X1_accept l hlt g v1 hv1 M S hF hy) [.int (zi v1)] [] (zFx_kd hF 2 rfl) ⟨_, rfl, by decide, rfl⟩ rfl rfl rfl (zcat (Nat.le_of_ble_eq_true rfl)) (Nat.le_of_ble_eq_true rfl) (Nat.le_of_ble_eq_true rfl) (Nat.le_of_ble_eq_true rfl) (Nat.le_of_ble_eq_true rfl) (fun hp3 => ?_)
  have hr1 := hp3
  refine j_if_ne hC dX10_append_8 rfl (w_id hr1) (fun c4 => ?_) (fun c4 => ?_)
  · have h := zf c4 h
    obtain ⟨e1, e2, e3⟩ := zpr3 (Option.some.inj h)
    exact j_vret hC hE dX10_append_21 (by rw [← e1]; rfl) e2 e3 (by rw [← e3]; exact hF) (Nat.le_of_ble_eq_true rfl) (Nat.le_of_ble_eq_true rfl)
  · have h := zt c4 h
    obtain ⟨e1, e2, e3⟩ := zpr3 (Option.some.inj h)
    exact j_throw hC hE hN thr_X10_0 0 rfl zs_X10_65 dX10_append_11 dX10_append_14 dX10_append_15 dX10_append_17 dX10_append_20 (by rw [← e1]; rfl) e2 e3 (by rw [← e3]; exact (zFx_zn hF rfl)) (Nat.le_of_ble_eq_true rfl) (Or.inr ⟨zFx_cnt hF, (Nat.le_of_ble_eq_true rfl)⟩) (Nat.le_of_ble_eq_true rfl) (Nat.le_of_ble_eq_true rfl) (Nat.le_of_ble_eq_true rfl)
set_option maxHeartbeats 4000000 in
set_option maxRecDepth 100000 in
theorem c_X10_grammarChanged (l : Launch) (hlt : l.stackTraces = false) (g : zG) (M : zM) (S : zS) (hF : zFx S) {M' : zM} (h : F_X10_grammarChanged M = some M') : zMet l g yX10_grammarChanged cX10_grammarChanged 1 none 2 0 0 [zr g 1] M S (.inl none) M' S (True) := by
  refine zMet_of (by decide) hlt [(0, zr g 1)] rfl (Nat.le_of_ble_eq_true rfl) (fun K hC hE hN => ?_)
  unfold F_X10_grammarChanged at h
  refine j_aload_n hC 0 dX10_grammarChanged_0 rfl rfl ?_
  refine j_iconst hC dX10_grammarChanged_1 ?_
  obtain ⟨M1, eM1, h⟩ := zlet_ex h
  refine j_put hC dX10_grammarChanged_2 f_X10_55 pF_X10 (zFx_kd hF 1 rfl) (Or.inr (Or.inl rfl)) rfl 11 rfl (w_id kR_1) zb01_1 eM1 ?_
  refine j_aload_n hC 0 dX10_grammarChanged_5 rfl rfl ?_
  refine j_getq (q := 25) hC dX10_grammarChanged_6 f_X10_36 (zFx_kd hF 1 rfl) rfl 4 rfl (zFx_rf hF 1 4 rfl) ?_
  obtain ⟨M2, hy, h⟩ := zb1_ex h
  refine j_callVv (ci := 4) hC hE lk_X10_153 dX10_grammarChanged_9 (c_X5_forget l hlt g M1 S hF hy) [] [] (zFx_kd hF 25 rfl) ⟨_, rfl, by decide, rfl⟩ rfl rfl rfl (zcat (Nat.le_of_ble_eq_true rfl)) (Nat.le_of_ble_eq_true rfl) (Nat.le_of_ble_eq_true rfl) (Nat.le_of_ble_eq_true rfl) (Nat.le_of_ble_eq_true rfl) (fun hp3 => ?_)
  have e1 := Option.some.inj h
  exact j_vret hC hE dX10_grammarChanged_12 rfl e1 rfl trivial (Nat.le_of_ble_eq_true rfl) (Nat.le_of_ble_eq_true rfl)
set_option maxHeartbeats 4000000 in
set_option maxRecDepth 100000 in
theorem c_X10_defineAxiom (l : Launch) (hlt : l.stackTraces = false) (g : zG) (v1 : Int) (hv1 : inR v1) (M : zM) (S : zS) (hF : zFx S) {r : Nat ⊕ Int} {M' : zM} {S' : zS} (h : F_X10_defineAxiom v1 M S = some (r, M', S')) : zMet l g yX10_defineAxiom cX10_defineAxiom 2 (some .int) 4 1 6 [zr g 1, .int (zi v1)] M S (zOX zki r) M' S' (zRXi r ∧ zFx S') := by
  refine zMet_of (by decide) hlt [(0, zr g 1), (1, .int (zi v1))] rfl (Nat.le_of_ble_eq_true rfl) (fun K hC hE hN => ?_)
  unfold F_X10_defineAxiom at h
  have J_23 : ∀ (M : zM) (S : zS) (hF : zFx S) (_ : F_X10_defineAxiom_J23 M S = some (r, M', S')), zJ K g 0 0 23 2 [] [] M S := by
    intro M S hF h
    unfold F_X10_defineAxiom_J23 at h
    obtain ⟨e1, e2, e3⟩ := zpr3 (Option.some.inj h)
    exact j_throw hC hE hN thr_X10_0 0 rfl zs_X10_109 dX10_defineAxiom_23 dX10_defineAxiom_26 dX10_defineAxiom_27 dX10_defineAxiom_29 dX10_defineAxiom_32 (by rw [← e1]; rfl) e2 e3 ⟨(by rw [← e1]; trivial), (by rw [← e3]; exact (zFx_zn hF rfl))⟩ (Nat.le_of_ble_eq_true rfl) (Or.inr ⟨zFx_cnt hF, (Nat.le_of_ble_eq_true rfl)⟩) (Nat.le_of_ble_eq_true rfl) (Nat.le_of_ble_eq_true rfl) (Nat.le_of_ble_eq_true rfl)
  refine j_aload_n hC 0 dX10_defineAxiom_0 rfl rfl ?_
  refine j_getq (q := 5) hC dX10_defineAxiom_1 f_X10_19 (zFx_kd hF 1 rfl) rfl 1 rfl (zFx_rf hF 1 1 rfl) ?_
  refine j_get hC dX10_defineAxiom_4 f_X10_102 (zFx_kd hF 5 rfl) rfl 2 rfl (fun hg1 => ?_)
  refine j_bipush hC dX10_defineAxiom_7 rfl ?_
  refine j_icmp_ge hC dX10_defineAxiom_9 rfl (w_id hg1) (w_id kR_6) (fun c2 => ?_) (fun c2 => ?_)
  · have h := zf c2 h
    refine j_sub [] rfl ?_
    exact J_23 M S hF h
  · have h := zt c2 h
    refine j_aload_n hC 0 dX10_defineAxiom_12 rfl rfl ?_
    refine j_getq (q := 5) hC dX10_defineAxiom_13 f_X10_19 (zFx_kd hF 1 rfl) rfl 1 rfl (zFx_rf hF 1 1 rfl) ?_
    refine j_iload_n hC 1 dX10_defineAxiom_16 rfl rfl ?_
    obtain ⟨r3, hy, h⟩ := zb1_ex h
    refine j_callVi (ci := 2) hC hE lk_X10_105 dX10_defineAxiom_17 (c_X2_hasAxiom l hlt g v1 hv1 M S hF hy) [.int (zi v1)] [] (zFx_kd hF 5 rfl) ⟨_, rfl, by decide, rfl⟩ rfl rfl rfl (zcat (Nat.le_of_ble_eq_true rfl)) (Nat.le_of_ble_eq_true rfl) (Nat.le_of_ble_eq_true rfl) (Nat.le_of_ble_eq_true rfl) (Nat.le_of_ble_eq_true rfl) (fun hp4 => ?_)
    have hr3 := hp4
    refine j_if_eq hC dX10_defineAxiom_20 rfl (w_id hr3) (fun c5 => ?_) (fun c5 => ?_)
    · have h := zt c5 h
      refine j_aload_n hC 0 dX10_defineAxiom_33 rfl rfl ?_
      refine j_getq (q := 5) hC dX10_defineAxiom_34 f_X10_19 (zFx_kd hF 1 rfl) rfl 1 rfl (zFx_rf hF 1 1 rfl) ?_
      refine j_iload_n hC 1 dX10_defineAxiom_37 rfl rfl ?_
      obtain ⟨M6, hy, h⟩ := zb1_ex h
      refine j_callVv (ci := 2) hC hE lk_X10_111 dX10_defineAxiom_38 (c_X2_putAxiom l hlt g v1 hv1 M S hF hy) [.int (zi v1)] [] (zFx_kd hF 5 rfl) ⟨_, rfl, by decide, rfl⟩ rfl rfl rfl (zcat (Nat.le_of_ble_eq_true rfl)) (Nat.le_of_ble_eq_true rfl) (Nat.le_of_ble_eq_true rfl) (Nat.le_of_ble_eq_true rfl) (Nat.le_of_ble_eq_true rfl) (fun hp7 => ?_)
      refine j_aload_n hC 0 dX10_defineAxiom_41 rfl rfl ?_
      obtain ⟨M8, hy, h⟩ := zb1_ex h
      refine j_callVv (ci := 7) hC hE lk_X10_115 dX10_defineAxiom_42 (c_X10_grammarChanged l hlt g M6 S hF hy) [] [] (zFx_kd hF 1 rfl) ⟨_, rfl, by decide, rfl⟩ rfl rfl rfl (zcat (Nat.le_of_ble_eq_true rfl)) (Nat.le_of_ble_eq_true rfl) (Nat.le_of_ble_eq_true rfl) (Nat.le_of_ble_eq_true rfl) (Nat.le_of_ble_eq_true rfl) (fun hp9 => ?_)
      refine j_aload_n hC 0 dX10_defineAxiom_45 rfl rfl ?_
      refine j_getq (q := 5) hC dX10_defineAxiom_46 f_X10_19 (zFx_kd hF 1 rfl) rfl 1 rfl (zFx_rf hF 1 1 rfl) ?_
      refine j_get hC dX10_defineAxiom_49 f_X10_102 (zFx_kd hF 5 rfl) rfl 2 rfl (fun hg10 => ?_)
      refine j_iconst hC dX10_defineAxiom_52 ?_
      refine j_isub hC dX10_defineAxiom_53 ?_
      obtain ⟨e1, e2, e3⟩ := zpr3 (Option.some.inj h)
      exact j_iret hC hE dX10_defineAxiom_54 rfl (zn_i _) (by rw [← e1]; rfl) e2 e3 ⟨(by rw [← e1]; exact (inR_w _)), (by rw [← e3]; exact hF)⟩ (Nat.le_of_ble_eq_true rfl) (Nat.le_of_ble_eq_true rfl)
    · have h := zf c5 h
      refine j_sub [] rfl ?_
      exact J_23 M S hF h
set_option maxHeartbeats 4000000 in
set_option maxRecDepth 100000 in
theorem c_X10_defineContext (l : Launch) (hlt : l.stackTraces = false) (g : zG) (M : zM) (S : zS) (hF : zFx S) {r : Nat ⊕ Int} {M' : zM} {S' : zS} (h : F_X10_defineContext M S = some (r, M', S')) : zMet l g yX10_defineContext cX10_defineContext 1 (some .int) 5 5 1032 [zr g 1] M S (zOX zki r) M' S' (zRXi r ∧ zFx S') := by
  refine zMet_of (by decide) hlt [(0, zr g 1)] rfl (Nat.le_of_ble_eq_true rfl) (fun K hC hE hN => ?_)
  unfold F_X10_defineContext at h
  refine j_aload_n hC 0 dX10_defineContext_0 rfl rfl ?_
  refine j_getq (q := 5) hC dX10_defineContext_1 f_X10_19 (zFx_kd hF 1 rfl) rfl 1 rfl (zFx_rf hF 1 1 rfl) ?_
  refine j_get hC dX10_defineContext_4 f_X10_118 (zFx_kd hF 5 rfl) rfl 3 rfl (fun hg1 => ?_)
  refine j_iconst hC dX10_defineContext_7 ?_
  refine j_icmp_lt hC dX10_defineContext_8 rfl (w_id hg1) (w_id kR_5) (fun c2 => ?_) (fun c2 => ?_)
  · have h := zt c2 h
    refine j_aload_n hC 0 dX10_defineContext_21 rfl rfl ?_
    refine j_getq (q := 5) hC dX10_defineContext_22 f_X10_19 (zFx_kd hF 1 rfl) rfl 1 rfl (zFx_rf hF 1 1 rfl) ?_
    obtain ⟨q3, eq3, h⟩ := zlet_ex h
    obtain ⟨S4, eS4, h⟩ := zlet_ex h
    refine j_new hC hE n_X10_123 pF_X0 dX10_defineContext_25 eq3 eS4 (Or.inr ⟨zFx_cnt hF, (Nat.le_of_ble_eq_true rfl)⟩) (Nat.le_of_ble_eq_true rfl) (Nat.le_of_ble_eq_true rfl) ?_
    have hF5 : zFx S4 := zFx_zn hF eS4
    refine j_dup hC dX10_defineContext_28 (zr_cat _ _) ?_
    refine j_aload_n hC 0 dX10_defineContext_29 rfl rfl ?_
    refine j_getq (q := 2) hC dX10_defineContext_30 f_X10_10 (zFx_kd hF5 1 rfl) rfl 0 rfl (zFx_rf hF5 1 0 rfl) ?_
    refine j_get hC dX10_defineContext_33 f_X10_125 (zFx_kd hF5 2 rfl) rfl 6 rfl (fun hg6 => ?_)
    refine j_aload_n hC 0 dX10_defineContext_36 rfl rfl ?_
    refine j_getq (q := 2) hC dX10_defineContext_37 f_X10_10 (zFx_kd hF5 1 rfl) rfl 0 rfl (zFx_rf hF5 1 0 rfl) ?_
    refine j_get hC dX10_defineContext_40 f_X10_128 (zFx_kd hF5 2 rfl) rfl 7 rfl (fun hg7 => ?_)
    obtain ⟨q8, eq8, h⟩ := zlet_ex h
    obtain ⟨S9, eS9, h⟩ := zlet_ex h
    refine j_new hC hE n_X10_131 pF_X7 dX10_defineContext_43 eq8 eS9 (Or.inr ⟨zFx_cnt hF5, (Nat.le_of_ble_eq_true rfl)⟩) (Nat.le_of_ble_eq_true rfl) (Nat.le_of_ble_eq_true rfl) ?_
    have hF10 : zFx S9 := zFx_zn hF5 eS9
    refine j_dup hC dX10_defineContext_46 (zr_cat _ _) ?_
    refine j_aload_n hC 0 dX10_defineContext_47 rfl rfl ?_
    refine j_getq (q := 2) hC dX10_defineContext_48 f_X10_10 (zFx_kd hF10 1 rfl) rfl 0 rfl (zFx_rf hF10 1 0 rfl) ?_
    obtain ⟨r11, M12, S13, hy, h⟩ := zb3_ex h
    refine j_callVr (ci := 1) hC hE lk_X10_133 dX10_defineContext_51 (c_X1_selectorProgram l hlt g M S9 hF10 hy) [] [zr g q8, zr g q8, .int (zi (M 2 7)), .int (zi (M 2 6)), zr g q3, zr g q3, zr g 5] (zFx_kd hF10 2 rfl) ⟨_, rfl, by decide, rfl⟩ rfl rfl rfl (by simp only [List.map_cons, List.map_nil, zr_cat, zc_i, zc_l, zc_d, zc_r, List.sum_cons, List.sum_nil] <;> decide) (Nat.le_of_ble_eq_true rfl) (Nat.le_of_ble_eq_true rfl) (Nat.le_of_ble_eq_true rfl) (Nat.le_of_ble_eq_true rfl) (fun hp14 => ?_)
    have hF15 := hp14
    obtain ⟨M14, eM14, h⟩ := zlet_ex h
    refine j_fresh2 eM14 ?_
    obtain ⟨S16, hy, h⟩ := zb1_ex h
    refine j_callIv hC hE lk_X10_137 dX10_defineContext_54 (c_X7_init l hlt g q8 r11 M14 S13 hy) [zr g r11] [zr g q8, .int (zi (M 2 7)), .int (zi (M 2 6)), zr g q3, zr g q3, zr g 5] (by rw [eq8]; exact Nat.succ_ne_zero _) rfl rfl rfl (by simp only [List.map_cons, List.map_nil, zr_cat, zc_i, zc_l, zc_d, zc_r, List.sum_cons, List.sum_nil] <;> decide) (Nat.le_of_ble_eq_true rfl) (Nat.le_of_ble_eq_true rfl) (Nat.le_of_ble_eq_true rfl) (Nat.le_of_ble_eq_true rfl) (fun hp17 => ?_)
    have hF18 : zFx S16 := hp17 hF15 (zFx_big hF5 eq8)
    obtain ⟨M19, S20, hy, h⟩ := zb2_ex h
    refine j_callIv hC hE lk_X10_140 dX10_defineContext_57 (c_X0_init l hlt g q3 (M 2 6) (M 2 7) q8 hg6 hg7 M14 S16 hy) [.int (zi (M 2 6)), .int (zi (M 2 7)), zr g q8] [zr g q3, zr g 5] (by rw [eq3]; exact Nat.succ_ne_zero _) rfl rfl rfl (zcat (Nat.le_of_ble_eq_true rfl)) (Nat.le_of_ble_eq_true rfl) (Nat.le_of_ble_eq_true rfl) (Nat.le_of_ble_eq_true rfl) (Nat.le_of_ble_eq_true rfl) (fun hp21 => ?_)
    have hF22 : zFx S20 := hp21 hF18 (zFx_big hF eq3)
    obtain ⟨M23, S24, hy, h⟩ := zb2_ex h
    refine j_callVv (ci := 2) hC hE lk_X10_143 dX10_defineContext_60 (c_X2_putContext l hlt g q3 M19 S20 hF22 hy) [zr g q3] [] (zFx_kd hF22 5 rfl) ⟨_, rfl, by decide, rfl⟩ rfl rfl rfl (zcat (Nat.le_of_ble_eq_true rfl)) (Nat.le_of_ble_eq_true rfl) (Nat.le_of_ble_eq_true rfl) (Nat.le_of_ble_eq_true rfl) (Nat.le_of_ble_eq_true rfl) (fun hp25 => ?_)
    have hF26 := hp25
    refine j_aload_n hC 0 dX10_defineContext_63 rfl rfl ?_
    obtain ⟨M27, hy, h⟩ := zb1_ex h
    refine j_callVv (ci := 7) hC hE lk_X10_115 dX10_defineContext_64 (c_X10_grammarChanged l hlt g M23 S24 hF26 hy) [] [] (zFx_kd hF26 1 rfl) ⟨_, rfl, by decide, rfl⟩ rfl rfl rfl (zcat (Nat.le_of_ble_eq_true rfl)) (Nat.le_of_ble_eq_true rfl) (Nat.le_of_ble_eq_true rfl) (Nat.le_of_ble_eq_true rfl) (Nat.le_of_ble_eq_true rfl) (fun hp28 => ?_)
    refine j_aload_n hC 0 dX10_defineContext_67 rfl rfl ?_
    refine j_getq (q := 5) hC dX10_defineContext_68 f_X10_19 (zFx_kd hF26 1 rfl) rfl 1 rfl (zFx_rf hF26 1 1 rfl) ?_
    refine j_get hC dX10_defineContext_71 f_X10_118 (zFx_kd hF26 5 rfl) rfl 3 rfl (fun hg29 => ?_)
    refine j_iconst hC dX10_defineContext_74 ?_
    refine j_isub hC dX10_defineContext_75 ?_
    obtain ⟨e1, e2, e3⟩ := zpr3 (Option.some.inj h)
    exact j_iret hC hE dX10_defineContext_76 rfl (zn_i _) (by rw [← e1]; rfl) e2 e3 ⟨(by rw [← e1]; exact (inR_w _)), (by rw [← e3]; exact hF26)⟩ (Nat.le_of_ble_eq_true rfl) (Nat.le_of_ble_eq_true rfl)
  · have h := zf c2 h
    obtain ⟨e1, e2, e3⟩ := zpr3 (Option.some.inj h)
    exact j_throw hC hE hN thr_X10_0 0 rfl zs_X10_121 dX10_defineContext_11 dX10_defineContext_14 dX10_defineContext_15 dX10_defineContext_17 dX10_defineContext_20 (by rw [← e1]; rfl) e2 e3 ⟨(by rw [← e1]; trivial), (by rw [← e3]; exact (zFx_zn hF rfl))⟩ (Nat.le_of_ble_eq_true rfl) (Or.inr ⟨zFx_cnt hF, (Nat.le_of_ble_eq_true rfl)⟩) (Nat.le_of_ble_eq_true rfl) (Nat.le_of_ble_eq_true rfl) (Nat.le_of_ble_eq_true rfl)
set_option maxHeartbeats 4000000 in
set_option maxRecDepth 100000 in
theorem c_X10_replaceNumber (l : Launch) (hlt : l.stackTraces = false) (g : zG) (v1 : Int) (v2 : Int) (hv1 : inR v1) (hv2 : inR v2) (M : zM) (S : zS) (hF : zFx S) {r : Int} {M' : zM} (h : F_X10_replaceNumber v1 v2 M = some (r, M')) : zMet l g yX10_replaceNumber cX10_replaceNumber 4 (some .int) 3 0 0 [zr g 1, .int (zi v1), .int (zi v2)] M S (.inl (some (.int (zi r)))) M' S (inR r) := by
  refine zMet_of (by decide) hlt [(0, zr g 1), (1, .int (zi v1)), (2, .int (zi v2))] rfl (Nat.le_of_ble_eq_true rfl) (fun K hC hE hN => ?_)
  unfold F_X10_replaceNumber at h
  have J_40 : ∀ (v3 : Int) (hv3 : inR v3) (M : zM) (_ : F_X10_replaceNumber_J40 v3 M = some (r, M')), zJ K g 0 0 40 4 [(0, zr g 1), (3, .int (zi v3))] [] M S := by
    intro v3 hv3 M h
    unfold F_X10_replaceNumber_J40 at h
    refine j_aload_n hC 0 dX10_replaceNumber_40 rfl rfl ?_
    obtain ⟨M1, hy, h⟩ := zb1_ex h
    refine j_callVv (ci := 7) hC hE lk_X10_115 dX10_replaceNumber_41 (c_X10_grammarChanged l hlt g M S hF hy) [] [] (zFx_kd hF 1 rfl) ⟨_, rfl, by decide, rfl⟩ rfl rfl rfl (zcat (Nat.le_of_ble_eq_true rfl)) (Nat.le_of_ble_eq_true rfl) (Nat.le_of_ble_eq_true rfl) (Nat.le_of_ble_eq_true rfl) (Nat.le_of_ble_eq_true rfl) (fun hp2 => ?_)
    refine j_iload_n hC 1 dX10_replaceNumber_44 rfl rfl ?_
    obtain ⟨e1, e2⟩ := zpr2 (Option.some.inj h)
    exact j_iret hC hE dX10_replaceNumber_45 (w_id hv3) (zn_i _) (by rw [← e1]) e2 rfl (by rw [← e1]; exact hv3) (Nat.le_of_ble_eq_true rfl) (Nat.le_of_ble_eq_true rfl)
  refine j_iload_n hC 1 dX10_replaceNumber_0 rfl rfl ?_
  refine j_iconst hC dX10_replaceNumber_1 ?_
  refine j_icmp_ne hC dX10_replaceNumber_2 rfl (w_id hv1) (w_id kR_2) (fun c3 => ?_) (fun c3 => ?_)
  · have h := zf c3 h
    refine j_aload_n hC 0 dX10_replaceNumber_24 rfl rfl ?_
    refine j_getq (q := 5) hC dX10_replaceNumber_25 f_X10_19 (zFx_kd hF 1 rfl) rfl 1 rfl (zFx_rf hF 1 1 rfl) ?_
    refine j_get hC dX10_replaceNumber_28 f_X10_150 (zFx_kd hF 5 rfl) rfl 5 rfl (fun hg4 => ?_)
    obtain ⟨x5, ex5, h⟩ := zlet_ex h
    have hx5 : inR x5 := by rw [ex5]; exact hg4
    refine j_names ex5 ?_
    refine j_istore_n hC dX10_replaceNumber_31 rfl (Nat.le_of_ble_eq_true rfl) rfl ?_
    refine j_aload_n hC 1 dX10_replaceNumber_32 rfl rfl ?_
    refine j_getq (q := 5) hC dX10_replaceNumber_33 f_X10_19 (zFx_kd hF 1 rfl) rfl 1 rfl (zFx_rf hF 1 1 rfl) ?_
    refine j_iload_n hC 3 dX10_replaceNumber_36 rfl rfl ?_
    obtain ⟨M6, eM6, h⟩ := zlet_ex h
    refine j_put hC dX10_replaceNumber_37 f_X10_150 pF_X2 (zFx_kd hF 5 rfl) (Or.inl rfl) rfl 5 rfl (w_id hv2) hv2 eM6 ?_
    refine j_sub [1, 0] rfl ?_
    exact J_40 x5 hx5 M6 h
  · have h := zt c3 h
    refine j_aload_n hC 0 dX10_replaceNumber_5 rfl rfl ?_
    refine j_getq (q := 5) hC dX10_replaceNumber_6 f_X10_19 (zFx_kd hF 1 rfl) rfl 1 rfl (zFx_rf hF 1 1 rfl) ?_
    refine j_get hC dX10_replaceNumber_9 f_X10_147 (zFx_kd hF 5 rfl) rfl 4 rfl (fun hg7 => ?_)
    obtain ⟨x8, ex8, h⟩ := zlet_ex h
    have hx8 : inR x8 := by rw [ex8]; exact hg7
    refine j_names ex8 ?_
    refine j_istore_n hC dX10_replaceNumber_12 rfl (Nat.le_of_ble_eq_true rfl) rfl ?_
    refine j_aload_n hC 1 dX10_replaceNumber_13 rfl rfl ?_
    refine j_getq (q := 5) hC dX10_replaceNumber_14 f_X10_19 (zFx_kd hF 1 rfl) rfl 1 rfl (zFx_rf hF 1 1 rfl) ?_
    refine j_iload_n hC 3 dX10_replaceNumber_17 rfl rfl ?_
    obtain ⟨M9, eM9, h⟩ := zlet_ex h
    refine j_put hC dX10_replaceNumber_18 f_X10_147 pF_X2 (zFx_kd hF 5 rfl) (Or.inl rfl) rfl 4 rfl (w_id hv2) hv2 eM9 ?_
    refine j_goto hC dX10_replaceNumber_21 rfl ?_
    refine j_sub [1, 0] rfl ?_
    exact J_40 x8 hx8 M9 h
set_option maxHeartbeats 4000000 in
set_option maxRecDepth 100000 in
theorem c_X10_define (l : Launch) (hlt : l.stackTraces = false) (g : zG) (M : zM) (S : zS) (hF : zFx S) {r : Nat ⊕ Int} {M' : zM} {S' : zS} (h : F_X10_define M S = some (r, M', S')) : zMet l g yX10_define cX10_define 2 (some .int) 46 5 1032 [zr g 1] M S (zOX zki r) M' S' (zRXi r ∧ zFx S') := by
  refine zMet_of (by decide) hlt [(0, zr g 1)] rfl (Nat.le_of_ble_eq_true rfl) (fun K hC hE hN => ?_)
  unfold F_X10_define at h
  have J_25 : ∀ (v1 : Int) (t1 : Int) (hv1 : inR v1) (ht1 : inR t1) (M : zM) (S : zS) (hF : zFx S) (_ : F_X10_define_J25 v1 t1 M S = some (r, M', S')), zJ K g 0 0 25 2 [(0, zr g 1), (1, .int (zi v1))] [.int (zi t1), zr g 1] M S := by
    intro v1 t1 hv1 ht1 M S hF h
    unfold F_X10_define_J25 at h
    obtain ⟨M1, eM1, h⟩ := zlet_ex h
    refine j_put hC dX10_define_25 f_X10_51 pF_X10 (zFx_kd hF 1 rfl) (Or.inl rfl) rfl 7 rfl (w_id ht1) ht1 eM1 ?_
    refine j_aload_n hC 0 dX10_define_28 rfl rfl ?_
    refine j_getq (q := 2) hC dX10_define_29 f_X10_10 (zFx_kd hF 1 rfl) rfl 0 rfl (zFx_rf hF 1 0 rfl) ?_
    obtain ⟨M2, hy, h⟩ := zb1_ex h
    refine j_callVv (ci := 1) hC hE lk_X10_77 dX10_define_32 (c_X1_empty l hlt g M1 S hF hy) [] [] (zFx_kd hF 2 rfl) ⟨_, rfl, by decide, rfl⟩ rfl rfl rfl (zcat (Nat.le_of_ble_eq_true rfl)) (Nat.le_of_ble_eq_true rfl) (Nat.le_of_ble_eq_true rfl) (Nat.le_of_ble_eq_true rfl) (Nat.le_of_ble_eq_true rfl) (fun hp3 => ?_)
    refine j_iload_n hC 1 dX10_define_35 rfl rfl ?_
    refine j_iconst hC dX10_define_36 ?_
    refine j_icmp_ne hC dX10_define_37 rfl (w_id hv1) (w_id kR_m1) (fun c4 => ?_) (fun c4 => ?_)
    · have h := zf c4 h
      refine j_iload_n hC 1 dX10_define_50 rfl rfl ?_
      refine j_if_ne hC dX10_define_51 rfl (w_id hv1) (fun c5 => ?_) (fun c5 => ?_)
      · have h := zf c5 h
        refine j_iload_n hC 1 dX10_define_66 rfl rfl ?_
        refine j_iconst hC dX10_define_67 ?_
        refine j_icmp_ne hC dX10_define_68 rfl (w_id hv1) (w_id kR_1) (fun c6 => ?_) (fun c6 => ?_)
        · have h := zf c6 h
          refine j_aload_n hC 0 dX10_define_76 rfl rfl ?_
          refine j_iload_n hC 1 dX10_define_77 rfl rfl ?_
          refine j_aload_n hC 0 dX10_define_78 rfl rfl ?_
          refine j_getq (q := 2) hC dX10_define_79 f_X10_10 (zFx_kd hF 1 rfl) rfl 0 rfl (zFx_rf hF 1 0 rfl) ?_
          refine j_get hC dX10_define_82 f_X10_95 (zFx_kd hF 2 rfl) rfl 8 rfl (fun hg7 => ?_)
          obtain ⟨r8, M9, hy, h⟩ := zb2_ex h
          refine j_callVi (ci := 7) hC hE lk_X10_98 dX10_define_85 (c_X10_replaceNumber l hlt g v1 (M2 2 8) hv1 hg7 M2 S hF hy) [.int (zi v1), .int (zi (M2 2 8))] [] (zFx_kd hF 1 rfl) ⟨_, rfl, by decide, rfl⟩ rfl rfl rfl (zcat (Nat.le_of_ble_eq_true rfl)) (Nat.le_of_ble_eq_true rfl) (Nat.le_of_ble_eq_true rfl) (Nat.le_of_ble_eq_true rfl) (Nat.le_of_ble_eq_true rfl) (fun hp10 => ?_)
          have hr8 := hp10
          obtain ⟨e1, e2, e3⟩ := zpr3 (Option.some.inj h)
          exact j_iret hC hE dX10_define_88 (w_id hr8) (zn_i _) (by rw [← e1]; rfl) e2 e3 ⟨(by rw [← e1]; exact hr8), (by rw [← e3]; exact hF)⟩ (Nat.le_of_ble_eq_true rfl) (Nat.le_of_ble_eq_true rfl)
        · have h := zt c6 h
          refine j_aload_n hC 0 dX10_define_71 rfl rfl ?_
          obtain ⟨r14, M12, S13, hy, hx15, hk16⟩ := zbx_ex h
          refine j_callXVi (ci := 7) hC hE hN lk_X10_92 dX10_define_72 (c_X10_defineContext l hlt g M2 S hF hy) [] [] (zFx_kd hF 1 rfl) ⟨_, rfl, by decide, rfl⟩ rfl rfl rfl (zcat (Nat.le_of_ble_eq_true rfl)) (Nat.le_of_ble_eq_true rfl) (Nat.le_of_ble_eq_true rfl) (Nat.le_of_ble_eq_true rfl) (Nat.le_of_ble_eq_true rfl) (fun e he hp17 => ?_) (fun r11 he hp17 => ?_)
          · have hX := hx15 e he
            obtain ⟨e1, e2, e3⟩ := zpr3 (Option.some.inj hX)
            exact ⟨by rw [← e1]; rfl, e2, e3, ⟨(by rw [← e1]; trivial), (by rw [← e3]; exact hp17.2)⟩⟩
          · have h := hk16 r11 he
            subst he
            dsimp only [zRXi, zRXl] at hp17
            obtain ⟨hr11, hF18⟩ := hp17
            obtain ⟨e1, e2, e3⟩ := zpr3 (Option.some.inj h)
            exact j_iret hC hE dX10_define_75 (w_id hr11) (zn_i _) (by rw [← e1]; rfl) e2 e3 ⟨(by rw [← e1]; exact hr11), (by rw [← e3]; exact hF18)⟩ (Nat.le_of_ble_eq_true rfl) (Nat.le_of_ble_eq_true rfl)
      · have h := zt c5 h
        refine j_aload_n hC 0 dX10_define_54 rfl rfl ?_
        refine j_aload_n hC 0 dX10_define_55 rfl rfl ?_
        refine j_getq (q := 2) hC dX10_define_56 f_X10_10 (zFx_kd hF 1 rfl) rfl 0 rfl (zFx_rf hF 1 0 rfl) ?_
        refine j_get hC dX10_define_59 f_X10_85 (zFx_kd hF 2 rfl) rfl 5 rfl (fun hg19 => ?_)
        obtain ⟨r23, M21, S22, hy, hx24, hk25⟩ := zbx_ex h
        refine j_callXVi (ci := 7) hC hE hN lk_X10_88 dX10_define_62 (c_X10_defineAxiom l hlt g (M2 2 5) hg19 M2 S hF hy) [.int (zi (M2 2 5))] [] (zFx_kd hF 1 rfl) ⟨_, rfl, by decide, rfl⟩ rfl rfl rfl (zcat (Nat.le_of_ble_eq_true rfl)) (Nat.le_of_ble_eq_true rfl) (Nat.le_of_ble_eq_true rfl) (Nat.le_of_ble_eq_true rfl) (Nat.le_of_ble_eq_true rfl) (fun e he hp26 => ?_) (fun r20 he hp26 => ?_)
        · have hX := hx24 e he
          obtain ⟨e1, e2, e3⟩ := zpr3 (Option.some.inj hX)
          exact ⟨by rw [← e1]; rfl, e2, e3, ⟨(by rw [← e1]; trivial), (by rw [← e3]; exact hp26.2)⟩⟩
        · have h := hk25 r20 he
          subst he
          dsimp only [zRXi, zRXl] at hp26
          obtain ⟨hr20, hF27⟩ := hp26
          obtain ⟨e1, e2, e3⟩ := zpr3 (Option.some.inj h)
          exact j_iret hC hE dX10_define_65 (w_id hr20) (zn_i _) (by rw [← e1]; rfl) e2 e3 ⟨(by rw [← e1]; exact hr20), (by rw [← e3]; exact hF27)⟩ (Nat.le_of_ble_eq_true rfl) (Nat.le_of_ble_eq_true rfl)
    · have h := zt c4 h
      obtain ⟨e1, e2, e3⟩ := zpr3 (Option.some.inj h)
      exact j_throw hC hE hN thr_X10_1 1 rfl zs_X10_82 dX10_define_40 dX10_define_43 dX10_define_44 dX10_define_46 dX10_define_49 (by rw [← e1]; rfl) e2 e3 ⟨(by rw [← e1]; trivial), (by rw [← e3]; exact (zFx_zn hF rfl))⟩ (Nat.le_of_ble_eq_true rfl) (Or.inr ⟨zFx_cnt hF, (Nat.le_of_ble_eq_true rfl)⟩) (Nat.le_of_ble_eq_true rfl) (Nat.le_of_ble_eq_true rfl) (Nat.le_of_ble_eq_true rfl)
  refine j_aload_n hC 0 dX10_define_0 rfl rfl ?_
  refine j_getq (q := 2) hC dX10_define_1 f_X10_10 (zFx_kd hF 1 rfl) rfl 0 rfl (zFx_rf hF 1 0 rfl) ?_
  obtain ⟨r28, M29, hy, h⟩ := zb2_ex h
  refine j_callVi (ci := 1) hC hE lk_X10_70 dX10_define_4 (c_X1_read l hlt g M S hF hy) [] [] (zFx_kd hF 2 rfl) ⟨_, rfl, by decide, rfl⟩ rfl rfl rfl (zcat (Nat.le_of_ble_eq_true rfl)) (Nat.le_of_ble_eq_true rfl) (Nat.le_of_ble_eq_true rfl) (Nat.le_of_ble_eq_true rfl) (Nat.le_of_ble_eq_true rfl) (fun hp30 => ?_)
  have hr28 := hp30
  refine j_istore_n hC dX10_define_7 rfl (Nat.le_of_ble_eq_true rfl) rfl ?_
  refine j_aload_n hC 1 dX10_define_8 rfl rfl ?_
  refine j_iload_n hC 0 dX10_define_9 rfl rfl ?_
  refine j_iconst hC dX10_define_10 ?_
  refine j_icmp_ne hC dX10_define_11 rfl (w_id hr28) (w_id kR_m1) (fun c31 => ?_) (fun c31 => ?_)
  · have h := zf c31 h
    refine j_iconst hC dX10_define_24 ?_
    refine j_sub [1, 0] rfl ?_
    exact J_25 r28 (-1) hr28 kR_m1 M29 S hF h
  · have h := zt c31 h
    refine j_aload_n hC 1 dX10_define_14 rfl rfl ?_
    refine j_getq (q := 2) hC dX10_define_15 f_X10_10 (zFx_kd hF 1 rfl) rfl 0 rfl (zFx_rf hF 1 0 rfl) ?_
    refine j_get hC dX10_define_18 f_X10_74 (zFx_kd hF 2 rfl) rfl 4 rfl (fun hg32 => ?_)
    refine j_goto hC dX10_define_21 rfl ?_
    refine j_sub [1, 0] rfl ?_
    exact J_25 r28 (M29 2 4) hr28 hg32 M29 S hF h
set_option maxHeartbeats 4000000 in
set_option maxRecDepth 100000 in
theorem c_X10_requireIndex (l : Launch) (hlt : l.stackTraces = false) (g : zG) (v1 : Int) (v2 : Int) (hv1 : inR v1) (hv2 : inR v2) (M : zM) (S : zS) (hF : zFx S) {r : Nat ⊕ Unit} {M' : zM} {S' : zS} (h : F_X10_requireIndex v1 v2 M S = some (r, M', S')) : zMet l g yX10_requireIndex cX10_requireIndex 3 none 1 1 6 [zr g 1, .int (zi v1), .int (zi v2)] M S (zOX zkv r) M' S' (zFx S') := by
  refine zMet_of (by decide) hlt [(0, zr g 1), (1, .int (zi v1)), (2, .int (zi v2))] rfl (Nat.le_of_ble_eq_true rfl) (fun K hC hE hN => ?_)
  unfold F_X10_requireIndex at h
  have J_9 : ∀ (M : zM) (S : zS) (hF : zFx S) (_ : F_X10_requireIndex_J9 M S = some (r, M', S')), zJ K g 0 0 9 3 [] [] M S := by
    intro M S hF h
    unfold F_X10_requireIndex_J9 at h
    obtain ⟨e1, e2, e3⟩ := zpr3 (Option.some.inj h)
    exact j_throwW hC hE hN thr_X10_2 2 rfl zs_X10_341 dX10_requireIndex_9 dX10_requireIndex_12 dX10_requireIndex_13 dX10_requireIndex_16 dX10_requireIndex_19 (by rw [← e1]; rfl) e2 e3 (by rw [← e3]; exact (zFx_zn hF rfl)) (Nat.le_of_ble_eq_true rfl) (Or.inr ⟨zFx_cnt hF, (Nat.le_of_ble_eq_true rfl)⟩) (Nat.le_of_ble_eq_true rfl) (Nat.le_of_ble_eq_true rfl) (Nat.le_of_ble_eq_true rfl)
  refine j_iload_n hC 1 dX10_requireIndex_0 rfl rfl ?_
  refine j_if_lt hC dX10_requireIndex_1 rfl (w_id hv1) (fun c1 => ?_) (fun c1 => ?_)
  · have h := zt c1 h
    refine j_sub [] rfl ?_
    exact J_9 M S hF h
  · have h := zf c1 h
    refine j_iload_n hC 1 dX10_requireIndex_4 rfl rfl ?_
    refine j_iload_n hC 2 dX10_requireIndex_5 rfl rfl ?_
    refine j_icmp_lt hC dX10_requireIndex_6 rfl (w_id hv1) (w_id hv2) (fun c2 => ?_) (fun c2 => ?_)
    · have h := zt c2 h
      obtain ⟨e1, e2, e3⟩ := zpr3 (Option.some.inj h)
      exact j_vret hC hE dX10_requireIndex_20 (by rw [← e1]; rfl) e2 e3 (by rw [← e3]; exact hF) (Nat.le_of_ble_eq_true rfl) (Nat.le_of_ble_eq_true rfl)
    · have h := zf c2 h
      refine j_sub [] rfl ?_
      exact J_9 M S hF h
set_option maxHeartbeats 4000000 in
set_option maxRecDepth 100000 in
theorem cN_X10_requireIndex (l : Launch) (hlt : l.stackTraces = false) (g : zG) (v1 : Int) (v2 : Int) (hv1 : inR v1) (hv2 : inR v2) (M : zM) (S : zS) (hF : zFx S) {M' : zM} {S' : zS} (h : F_X10_requireIndex v1 v2 M S = some (.inr (), M', S')) : zMet l g yX10_requireIndex cX10_requireIndex 3 none 1 0 0 [zr g 1, .int (zi v1), .int (zi v2)] M S (.inl none) M' S' (zFx S') := by
  refine zMet_of (by decide) hlt [(0, zr g 1), (1, .int (zi v1)), (2, .int (zi v2))] rfl (Nat.le_of_ble_eq_true rfl) (fun K hC hE hN => ?_)
  unfold F_X10_requireIndex at h
  have J_9 : ∀ (M : zM) (S : zS) (hF : zFx S) (_ : F_X10_requireIndex_J9 M S = some (.inr (), M', S')), zJ K g 0 0 9 3 [] [] M S := by
    intro M S hF h
    unfold F_X10_requireIndex_J9 at h
    obtain ⟨e1, e2, e3⟩ := zpr3 (Option.some.inj h)
    cases e1
  refine j_iload_n hC 1 dX10_requireIndex_0 rfl rfl ?_
  refine j_if_lt hC dX10_requireIndex_1 rfl (w_id hv1) (fun c1 => ?_) (fun c1 => ?_)
  · have h := zt c1 h
    refine j_sub [] rfl ?_
    exact J_9 M S hF h
  · have h := zf c1 h
    refine j_iload_n hC 1 dX10_requireIndex_4 rfl rfl ?_
    refine j_iload_n hC 2 dX10_requireIndex_5 rfl rfl ?_
    refine j_icmp_lt hC dX10_requireIndex_6 rfl (w_id hv1) (w_id hv2) (fun c2 => ?_) (fun c2 => ?_)
    · have h := zt c2 h
      obtain ⟨e1, e2, e3⟩ := zpr3 (Option.some.inj h)
      exact j_vret hC hE dX10_requireIndex_20 rfl e2 e3 (by rw [← e3]; exact hF) (Nat.le_of_ble_eq_true rfl) (Nat.le_of_ble_eq_true rfl)
    · have h := zf c2 h
      refine j_sub [] rfl ?_
      exact J_9 M S hF h
set_option maxHeartbeats 4000000 in
set_option maxRecDepth 100000 in
theorem c_X10_requireAxiom (l : Launch) (hlt : l.stackTraces = false) (g : zG) (v1 : Int) (hv1 : inR v1) (M : zM) (S : zS) (hF : zFx S) {r : Nat ⊕ Unit} {M' : zM} {S' : zS} (h : F_X10_requireAxiom v1 M S = some (r, M', S')) : zMet l g yX10_requireAxiom cX10_requireAxiom 2 none 2 1 6 [zr g 1, .int (zi v1)] M S (zOX zkv r) M' S' (zFx S') := by
  refine zMet_of (by decide) hlt [(0, zr g 1), (1, .int (zi v1))] rfl (Nat.le_of_ble_eq_true rfl) (fun K hC hE hN => ?_)
  unfold F_X10_requireAxiom at h
  refine j_aload_n hC 0 dX10_requireAxiom_0 rfl rfl ?_
  refine j_iload_n hC 1 dX10_requireAxiom_1 rfl rfl ?_
  refine j_aload_n hC 0 dX10_requireAxiom_2 rfl rfl ?_
  refine j_getq (q := 5) hC dX10_requireAxiom_3 f_X10_19 (zFx_kd hF 1 rfl) rfl 1 rfl (zFx_rf hF 1 1 rfl) ?_
  refine j_get hC dX10_requireAxiom_6 f_X10_102 (zFx_kd hF 5 rfl) rfl 2 rfl (fun hg1 => ?_)
  obtain ⟨r4, M2, S3, hy, hx6, hk7⟩ := zbx_ex h
  refine j_callXVv (ci := 7) hC hE hN lk_X10_230 dX10_requireAxiom_9 (c_X10_requireIndex l hlt g v1 (M 5 2) hv1 hg1 M S hF hy) [.int (zi v1), .int (zi (M 5 2))] [] (zFx_kd hF 1 rfl) ⟨_, rfl, by decide, rfl⟩ rfl rfl rfl (zcat (Nat.le_of_ble_eq_true rfl)) (Nat.le_of_ble_eq_true rfl) (Nat.le_of_ble_eq_true rfl) (Nat.le_of_ble_eq_true rfl) (Nat.le_of_ble_eq_true rfl) (fun e he hp8 => ?_) (fun u5 he hp8 => ?_)
  · have hX := hx6 e he
    obtain ⟨e1, e2, e3⟩ := zpr3 (Option.some.inj hX)
    exact ⟨by rw [← e1]; rfl, e2, e3, (by rw [← e3]; exact hp8)⟩
  · have h := hk7 u5 he
    subst he
    have hF9 := hp8
    obtain ⟨e1, e2, e3⟩ := zpr3 (Option.some.inj h)
    exact j_vret hC hE dX10_requireAxiom_12 (by rw [← e1]; rfl) e2 e3 (by rw [← e3]; exact hF9) (Nat.le_of_ble_eq_true rfl) (Nat.le_of_ble_eq_true rfl)
set_option maxHeartbeats 4000000 in
set_option maxRecDepth 100000 in
theorem c_X10_removeAxiom (l : Launch) (hlt : l.stackTraces = false) (g : zG) (v1 : Int) (hv1 : inR v1) (M : zM) (S : zS) (hF : zFx S) {r : Nat ⊕ Unit} {M' : zM} {S' : zS} (h : F_X10_removeAxiom v1 M S = some (r, M', S')) : zMet l g yX10_removeAxiom cX10_removeAxiom 2 none 4 1 6 [zr g 1, .int (zi v1)] M S (zOX zkv r) M' S' (zFx S') := by
  refine zMet_of (by decide) hlt [(0, zr g 1), (1, .int (zi v1))] rfl (Nat.le_of_ble_eq_true rfl) (fun K hC hE hN => ?_)
  unfold F_X10_removeAxiom at h
  refine j_aload_n hC 0 dX10_removeAxiom_0 rfl rfl ?_
  refine j_iload_n hC 1 dX10_removeAxiom_1 rfl rfl ?_
  obtain ⟨r3, M1, S2, hy, hx5, hk6⟩ := zbx_ex h
  refine j_callXVv (ci := 7) hC hE hN lk_X10_156 dX10_removeAxiom_2 (c_X10_requireAxiom l hlt g v1 hv1 M S hF hy) [.int (zi v1)] [] (zFx_kd hF 1 rfl) ⟨_, rfl, by decide, rfl⟩ rfl rfl rfl (zcat (Nat.le_of_ble_eq_true rfl)) (Nat.le_of_ble_eq_true rfl) (Nat.le_of_ble_eq_true rfl) (Nat.le_of_ble_eq_true rfl) (Nat.le_of_ble_eq_true rfl) (fun e he hp7 => ?_) (fun u4 he hp7 => ?_)
  · have hX := hx5 e he
    obtain ⟨e1, e2, e3⟩ := zpr3 (Option.some.inj hX)
    exact ⟨by rw [← e1]; rfl, e2, e3, (by rw [← e3]; exact hp7)⟩
  · have h := hk6 u4 he
    subst he
    have hF8 := hp7
    refine j_aload_n hC 0 dX10_removeAxiom_5 rfl rfl ?_
    refine j_getq (q := 5) hC dX10_removeAxiom_6 f_X10_19 (zFx_kd hF8 1 rfl) rfl 1 rfl (zFx_rf hF8 1 1 rfl) ?_
    refine j_iload_n hC 1 dX10_removeAxiom_9 rfl rfl ?_
    obtain ⟨M9, hy, h⟩ := zb1_ex h
    refine j_callVv (ci := 2) hC hE lk_X10_159 dX10_removeAxiom_10 (c_X2_dropAxiom l hlt g v1 hv1 M1 S2 hF8 hy) [.int (zi v1)] [] (zFx_kd hF8 5 rfl) ⟨_, rfl, by decide, rfl⟩ rfl rfl rfl (zcat (Nat.le_of_ble_eq_true rfl)) (Nat.le_of_ble_eq_true rfl) (Nat.le_of_ble_eq_true rfl) (Nat.le_of_ble_eq_true rfl) (Nat.le_of_ble_eq_true rfl) (fun hp10 => ?_)
    refine j_aload_n hC 0 dX10_removeAxiom_13 rfl rfl ?_
    obtain ⟨M11, hy, h⟩ := zb1_ex h
    refine j_callVv (ci := 7) hC hE lk_X10_115 dX10_removeAxiom_14 (c_X10_grammarChanged l hlt g M9 S2 hF8 hy) [] [] (zFx_kd hF8 1 rfl) ⟨_, rfl, by decide, rfl⟩ rfl rfl rfl (zcat (Nat.le_of_ble_eq_true rfl)) (Nat.le_of_ble_eq_true rfl) (Nat.le_of_ble_eq_true rfl) (Nat.le_of_ble_eq_true rfl) (Nat.le_of_ble_eq_true rfl) (fun hp12 => ?_)
    obtain ⟨e1, e2, e3⟩ := zpr3 (Option.some.inj h)
    exact j_vret hC hE dX10_removeAxiom_17 (by rw [← e1]; rfl) e2 e3 (by rw [← e3]; exact hF8) (Nat.le_of_ble_eq_true rfl) (Nat.le_of_ble_eq_true rfl)
set_option maxHeartbeats 4000000 in
set_option maxRecDepth 100000 in
theorem c_X10_requireContext (l : Launch) (hlt : l.stackTraces = false) (g : zG) (v1 : Int) (hv1 : inR v1) (M : zM) (S : zS) (hF : zFx S) {r : Nat ⊕ Unit} {M' : zM} {S' : zS} (h : F_X10_requireContext v1 M S = some (r, M', S')) : zMet l g yX10_requireContext cX10_requireContext 2 none 2 1 6 [zr g 1, .int (zi v1)] M S (zOX zkv r) M' S' (zFx S') := by
  refine zMet_of (by decide) hlt [(0, zr g 1), (1, .int (zi v1))] rfl (Nat.le_of_ble_eq_true rfl) (fun K hC hE hN => ?_)
  unfold F_X10_requireContext at h
  refine j_aload_n hC 0 dX10_requireContext_0 rfl rfl ?_
  refine j_iload_n hC 1 dX10_requireContext_1 rfl rfl ?_
  refine j_aload_n hC 0 dX10_requireContext_2 rfl rfl ?_
  refine j_getq (q := 5) hC dX10_requireContext_3 f_X10_19 (zFx_kd hF 1 rfl) rfl 1 rfl (zFx_rf hF 1 1 rfl) ?_
  refine j_get hC dX10_requireContext_6 f_X10_118 (zFx_kd hF 5 rfl) rfl 3 rfl (fun hg1 => ?_)
  obtain ⟨r4, M2, S3, hy, hx6, hk7⟩ := zbx_ex h
  refine j_callXVv (ci := 7) hC hE hN lk_X10_230 dX10_requireContext_9 (c_X10_requireIndex l hlt g v1 (M 5 3) hv1 hg1 M S hF hy) [.int (zi v1), .int (zi (M 5 3))] [] (zFx_kd hF 1 rfl) ⟨_, rfl, by decide, rfl⟩ rfl rfl rfl (zcat (Nat.le_of_ble_eq_true rfl)) (Nat.le_of_ble_eq_true rfl) (Nat.le_of_ble_eq_true rfl) (Nat.le_of_ble_eq_true rfl) (Nat.le_of_ble_eq_true rfl) (fun e he hp8 => ?_) (fun u5 he hp8 => ?_)
  · have hX := hx6 e he
    obtain ⟨e1, e2, e3⟩ := zpr3 (Option.some.inj hX)
    exact ⟨by rw [← e1]; rfl, e2, e3, (by rw [← e3]; exact hp8)⟩
  · have h := hk7 u5 he
    subst he
    have hF9 := hp8
    obtain ⟨e1, e2, e3⟩ := zpr3 (Option.some.inj h)
    exact j_vret hC hE dX10_requireContext_12 (by rw [← e1]; rfl) e2 e3 (by rw [← e3]; exact hF9) (Nat.le_of_ble_eq_true rfl) (Nat.le_of_ble_eq_true rfl)
set_option maxHeartbeats 4000000 in
set_option maxRecDepth 100000 in
theorem c_X10_removeContext (l : Launch) (hlt : l.stackTraces = false) (g : zG) (v1 : Int) (hv1 : inR v1) (M : zM) (S : zS) (hF : zFx S) {r : Nat ⊕ Unit} {M' : zM} {S' : zS} (h : F_X10_removeContext v1 M S = some (r, M', S')) : zMet l g yX10_removeContext cX10_removeContext 2 none 3 1 6 [zr g 1, .int (zi v1)] M S (zOX zkv r) M' S' (zFx S') := by
  refine zMet_of (by decide) hlt [(0, zr g 1), (1, .int (zi v1))] rfl (Nat.le_of_ble_eq_true rfl) (fun K hC hE hN => ?_)
  unfold F_X10_removeContext at h
  refine j_aload_n hC 0 dX10_removeContext_0 rfl rfl ?_
  refine j_iload_n hC 1 dX10_removeContext_1 rfl rfl ?_
  obtain ⟨r3, M1, S2, hy, hx5, hk6⟩ := zbx_ex h
  refine j_callXVv (ci := 7) hC hE hN lk_X10_162 dX10_removeContext_2 (c_X10_requireContext l hlt g v1 hv1 M S hF hy) [.int (zi v1)] [] (zFx_kd hF 1 rfl) ⟨_, rfl, by decide, rfl⟩ rfl rfl rfl (zcat (Nat.le_of_ble_eq_true rfl)) (Nat.le_of_ble_eq_true rfl) (Nat.le_of_ble_eq_true rfl) (Nat.le_of_ble_eq_true rfl) (Nat.le_of_ble_eq_true rfl) (fun e he hp7 => ?_) (fun u4 he hp7 => ?_)
  · have hX := hx5 e he
    obtain ⟨e1, e2, e3⟩ := zpr3 (Option.some.inj hX)
    exact ⟨by rw [← e1]; rfl, e2, e3, (by rw [← e3]; exact hp7)⟩
  · have h := hk6 u4 he
    subst he
    have hF8 := hp7
    refine j_aload_n hC 0 dX10_removeContext_5 rfl rfl ?_
    refine j_getq (q := 5) hC dX10_removeContext_6 f_X10_19 (zFx_kd hF8 1 rfl) rfl 1 rfl (zFx_rf hF8 1 1 rfl) ?_
    refine j_iload_n hC 1 dX10_removeContext_9 rfl rfl ?_
    obtain ⟨M9, S10, hy, h⟩ := zb2_ex h
    refine j_callVv (ci := 2) hC hE lk_X10_165 dX10_removeContext_10 (c_X2_dropContext l hlt g v1 hv1 M1 S2 hF8 hy) [.int (zi v1)] [] (zFx_kd hF8 5 rfl) ⟨_, rfl, by decide, rfl⟩ rfl rfl rfl (zcat (Nat.le_of_ble_eq_true rfl)) (Nat.le_of_ble_eq_true rfl) (Nat.le_of_ble_eq_true rfl) (Nat.le_of_ble_eq_true rfl) (Nat.le_of_ble_eq_true rfl) (fun hp11 => ?_)
    have hF12 := hp11
    refine j_aload_n hC 0 dX10_removeContext_13 rfl rfl ?_
    obtain ⟨M13, hy, h⟩ := zb1_ex h
    refine j_callVv (ci := 7) hC hE lk_X10_115 dX10_removeContext_14 (c_X10_grammarChanged l hlt g M9 S10 hF12 hy) [] [] (zFx_kd hF12 1 rfl) ⟨_, rfl, by decide, rfl⟩ rfl rfl rfl (zcat (Nat.le_of_ble_eq_true rfl)) (Nat.le_of_ble_eq_true rfl) (Nat.le_of_ble_eq_true rfl) (Nat.le_of_ble_eq_true rfl) (Nat.le_of_ble_eq_true rfl) (fun hp14 => ?_)
    obtain ⟨e1, e2, e3⟩ := zpr3 (Option.some.inj h)
    exact j_vret hC hE dX10_removeContext_17 (by rw [← e1]; rfl) e2 e3 (by rw [← e3]; exact hF12) (Nat.le_of_ble_eq_true rfl) (Nat.le_of_ble_eq_true rfl)
set_option maxHeartbeats 4000000 in
set_option maxRecDepth 100000 in
theorem c_X10_count (l : Launch) (hlt : l.stackTraces = false) (g : zG) (v1 : Int) (hv1 : inR v1) (M : zM) (S : zS) (hF : zFx S) {r : Nat ⊕ Int} {M' : zM} {S' : zS} (h : F_X10_count v1 M S = some (r, M', S')) : zMet l g yX10_count cX10_count 2 (some .int) 1 1 6 [zr g 1, .int (zi v1)] M S (zOX zki r) M' S' (zRXi r ∧ zFx S') := by
  refine zMet_of (by decide) hlt [(0, zr g 1), (1, .int (zi v1))] rfl (Nat.le_of_ble_eq_true rfl) (fun K hC hE hN => ?_)
  unfold F_X10_count at h
  refine j_iload_n hC 1 dX10_count_0 rfl rfl ?_
  by_cases c1 : v1 = 0
  · have h := zt c1 h
    refine j_tswIn hC 0 dX10_count_1 (w_id hv1) c1 (by decide) (by decide) rfl rfl ?_
    refine j_aload_n hC 0 dX10_count_36 rfl rfl ?_
    refine j_getq (q := 5) hC dX10_count_37 f_X10_19 (zFx_kd hF 1 rfl) rfl 1 rfl (zFx_rf hF 1 1 rfl) ?_
    refine j_get hC dX10_count_40 f_X10_102 (zFx_kd hF 5 rfl) rfl 2 rfl (fun hg2 => ?_)
    obtain ⟨e1, e2, e3⟩ := zpr3 (Option.some.inj h)
    exact j_iret hC hE dX10_count_43 (w_id hg2) (zn_i _) (by rw [← e1]; rfl) e2 e3 ⟨(by rw [← e1]; exact hg2), (by rw [← e3]; exact hF)⟩ (Nat.le_of_ble_eq_true rfl) (Nat.le_of_ble_eq_true rfl)
  have h := zf c1 h
  by_cases c3 : v1 = 1
  · have h := zt c3 h
    refine j_tswIn hC 1 dX10_count_1 (w_id hv1) c3 (by decide) (by decide) rfl rfl ?_
    refine j_aload_n hC 0 dX10_count_44 rfl rfl ?_
    refine j_getq (q := 5) hC dX10_count_45 f_X10_19 (zFx_kd hF 1 rfl) rfl 1 rfl (zFx_rf hF 1 1 rfl) ?_
    refine j_get hC dX10_count_48 f_X10_118 (zFx_kd hF 5 rfl) rfl 3 rfl (fun hg4 => ?_)
    obtain ⟨e1, e2, e3⟩ := zpr3 (Option.some.inj h)
    exact j_iret hC hE dX10_count_51 (w_id hg4) (zn_i _) (by rw [← e1]; rfl) e2 e3 ⟨(by rw [← e1]; exact hg4), (by rw [← e3]; exact hF)⟩ (Nat.le_of_ble_eq_true rfl) (Nat.le_of_ble_eq_true rfl)
  have h := zf c3 h
  by_cases c5 : v1 = 2
  · have h := zt c5 h
    refine j_tswIn hC 2 dX10_count_1 (w_id hv1) c5 (by decide) (by decide) rfl rfl ?_
    refine j_aload_n hC 0 dX10_count_52 rfl rfl ?_
    refine j_getq (q := 5) hC dX10_count_53 f_X10_19 (zFx_kd hF 1 rfl) rfl 1 rfl (zFx_rf hF 1 1 rfl) ?_
    refine j_get hC dX10_count_56 f_X10_147 (zFx_kd hF 5 rfl) rfl 4 rfl (fun hg6 => ?_)
    obtain ⟨e1, e2, e3⟩ := zpr3 (Option.some.inj h)
    exact j_iret hC hE dX10_count_59 (w_id hg6) (zn_i _) (by rw [← e1]; rfl) e2 e3 ⟨(by rw [← e1]; exact hg6), (by rw [← e3]; exact hF)⟩ (Nat.le_of_ble_eq_true rfl) (Nat.le_of_ble_eq_true rfl)
  have h := zf c5 h
  by_cases c7 : v1 = 3
  · have h := zt c7 h
    refine j_tswIn hC 3 dX10_count_1 (w_id hv1) c7 (by decide) (by decide) rfl rfl ?_
    refine j_aload_n hC 0 dX10_count_60 rfl rfl ?_
    refine j_getq (q := 5) hC dX10_count_61 f_X10_19 (zFx_kd hF 1 rfl) rfl 1 rfl (zFx_rf hF 1 1 rfl) ?_
    refine j_get hC dX10_count_64 f_X10_150 (zFx_kd hF 5 rfl) rfl 5 rfl (fun hg8 => ?_)
    obtain ⟨e1, e2, e3⟩ := zpr3 (Option.some.inj h)
    exact j_iret hC hE dX10_count_67 (w_id hg8) (zn_i _) (by rw [← e1]; rfl) e2 e3 ⟨(by rw [← e1]; exact hg8), (by rw [← e3]; exact hF)⟩ (Nat.le_of_ble_eq_true rfl) (Nat.le_of_ble_eq_true rfl)
  have h := zf c7 h
  by_cases c9 : v1 = 4
  · have h := zt c9 h
    refine j_tswIn hC 4 dX10_count_1 (w_id hv1) c9 (by decide) (by decide) rfl rfl ?_
    refine j_aload_n hC 0 dX10_count_68 rfl rfl ?_
    refine j_getq (q := 2) hC dX10_count_69 f_X10_10 (zFx_kd hF 1 rfl) rfl 0 rfl (zFx_rf hF 1 0 rfl) ?_
    refine j_get hC dX10_count_72 f_X10_168 (zFx_kd hF 2 rfl) rfl 3 rfl (fun hg10 => ?_)
    obtain ⟨e1, e2, e3⟩ := zpr3 (Option.some.inj h)
    exact j_iret hC hE dX10_count_75 (w_id hg10) (zn_i _) (by rw [← e1]; rfl) e2 e3 ⟨(by rw [← e1]; exact hg10), (by rw [← e3]; exact hF)⟩ (Nat.le_of_ble_eq_true rfl) (Nat.le_of_ble_eq_true rfl)
  have h := zf c9 h
  refine j_tswOut hC dX10_count_1 (w_id hv1) (by omega) rfl ?_
  obtain ⟨e1, e2, e3⟩ := zpr3 (Option.some.inj h)
  exact j_throw hC hE hN thr_X10_1 1 rfl zs_X10_171 dX10_count_76 dX10_count_79 dX10_count_80 dX10_count_82 dX10_count_85 (by rw [← e1]; rfl) e2 e3 ⟨(by rw [← e1]; trivial), (by rw [← e3]; exact (zFx_zn hF rfl))⟩ (Nat.le_of_ble_eq_true rfl) (Or.inr ⟨zFx_cnt hF, (Nat.le_of_ble_eq_true rfl)⟩) (Nat.le_of_ble_eq_true rfl) (Nat.le_of_ble_eq_true rfl) (Nat.le_of_ble_eq_true rfl)
set_option maxHeartbeats 4000000 in
set_option maxRecDepth 100000 in
theorem c_X10_requireLanguage (l : Launch) (hlt : l.stackTraces = false) (g : zG) (M : zM) (S : zS) (hF : zFx S) {r : Nat ⊕ Unit} {M' : zM} {S' : zS} (h : F_X10_requireLanguage M S = some (r, M', S')) : zMet l g yX10_requireLanguage cX10_requireLanguage 1 none 9 1 6 [zr g 1] M S (zOX zkv r) M' S' (zFx S') := by
  refine zMet_of (by decide) hlt [(0, zr g 1)] rfl (Nat.le_of_ble_eq_true rfl) (fun K hC hE hN => ?_)
  unfold F_X10_requireLanguage at h
  have J_23 : ∀ (M : zM) (S : zS) (hF : zFx S) (_ : F_X10_requireLanguage_J23 M S = some (r, M', S')), zJ K g 0 0 23 1 [(0, zr g 1)] [] M S := by
    intro M S hF h
    unfold F_X10_requireLanguage_J23 at h
    refine j_aload_n hC 0 dX10_requireLanguage_23 rfl rfl ?_
    refine j_getq (q := 11) hC dX10_requireLanguage_24 f_X10_29 (zFx_kd hF 1 rfl) rfl 3 rfl (zFx_rf hF 1 3 rfl) ?_
    refine j_getz hC dX10_requireLanguage_27 f_X10_349 (zFx_kd hF 11 rfl) rfl 15 rfl (fun hg1 => ?_)
    refine j_if_eq hC dX10_requireLanguage_30 rfl (w_id (inR_b hg1)) (fun c2 => ?_) (fun c2 => ?_)
    · have h := zt c2 h
      obtain ⟨e1, e2, e3⟩ := zpr3 (Option.some.inj h)
      exact j_vret hC hE dX10_requireLanguage_44 (by rw [← e1]; rfl) e2 e3 (by rw [← e3]; exact hF) (Nat.le_of_ble_eq_true rfl) (Nat.le_of_ble_eq_true rfl)
    · have h := zf c2 h
      obtain ⟨e1, e2, e3⟩ := zpr3 (Option.some.inj h)
      exact j_throwW hC hE hN thr_X10_3 3 rfl zs_X10_354 dX10_requireLanguage_33 dX10_requireLanguage_36 dX10_requireLanguage_37 dX10_requireLanguage_40 dX10_requireLanguage_43 (by rw [← e1]; rfl) e2 e3 (by rw [← e3]; exact (zFx_zn hF rfl)) (Nat.le_of_ble_eq_true rfl) (Or.inr ⟨zFx_cnt hF, (Nat.le_of_ble_eq_true rfl)⟩) (Nat.le_of_ble_eq_true rfl) (Nat.le_of_ble_eq_true rfl) (Nat.le_of_ble_eq_true rfl)
  refine j_aload_n hC 0 dX10_requireLanguage_0 rfl rfl ?_
  refine j_getz hC dX10_requireLanguage_1 f_X10_55 (zFx_kd hF 1 rfl) rfl 11 rfl (fun hg3 => ?_)
  refine j_if_eq hC dX10_requireLanguage_4 rfl (w_id (inR_b hg3)) (fun c4 => ?_) (fun c4 => ?_)
  · have h := zt c4 h
    exact J_23 M S hF h
  · have h := zf c4 h
    refine j_aload_n hC 0 dX10_requireLanguage_7 rfl rfl ?_
    refine j_getq (q := 11) hC dX10_requireLanguage_8 f_X10_29 (zFx_kd hF 1 rfl) rfl 3 rfl (zFx_rf hF 1 3 rfl) ?_
    refine j_aload_n hC 0 dX10_requireLanguage_11 rfl rfl ?_
    refine j_getq (q := 5) hC dX10_requireLanguage_12 f_X10_19 (zFx_kd hF 1 rfl) rfl 1 rfl (zFx_rf hF 1 1 rfl) ?_
    obtain ⟨M5, hy, h⟩ := zb1_ex h
    refine j_callVv (ci := 3) hC hE lk_X10_346 dX10_requireLanguage_15 (c_X3_build l hlt g M S hF hy) [zr g 5] [] (zFx_kd hF 11 rfl) ⟨_, rfl, by decide, rfl⟩ rfl rfl rfl (zcat (Nat.le_of_ble_eq_true rfl)) (Nat.le_of_ble_eq_true rfl) (Nat.le_of_ble_eq_true rfl) (Nat.le_of_ble_eq_true rfl) (Nat.le_of_ble_eq_true rfl) (fun hp6 => ?_)
    refine j_aload_n hC 0 dX10_requireLanguage_18 rfl rfl ?_
    refine j_iconst hC dX10_requireLanguage_19 ?_
    obtain ⟨M7, eM7, h⟩ := zlet_ex h
    refine j_put hC dX10_requireLanguage_20 f_X10_55 pF_X10 (zFx_kd hF 1 rfl) (Or.inr (Or.inl rfl)) rfl 11 rfl (w_id kR_0) zb01_0 eM7 ?_
    exact J_23 M7 S hF h
set_option maxHeartbeats 4000000 in
set_option maxRecDepth 100000 in
theorem c_X10_size (l : Launch) (hlt : l.stackTraces = false) (g : zG) (M : zM) (S : zS) (hF : zFx S) {r : Nat ⊕ Int} {M' : zM} {S' : zS} (h : F_X10_size M S = some (r, M', S')) : zMet l g yX10_size cX10_size 1 (some .int) 10 1 6 [zr g 1] M S (zOX zki r) M' S' (zRXi r ∧ zFx S') := by
  refine zMet_of (by decide) hlt [(0, zr g 1)] rfl (Nat.le_of_ble_eq_true rfl) (fun K hC hE hN => ?_)
  unfold F_X10_size at h
  refine j_aload_n hC 0 dX10_size_0 rfl rfl ?_
  obtain ⟨r3, M1, S2, hy, hx5, hk6⟩ := zbx_ex h
  refine j_callXVv (ci := 7) hC hE hN lk_X10_173 dX10_size_1 (c_X10_requireLanguage l hlt g M S hF hy) [] [] (zFx_kd hF 1 rfl) ⟨_, rfl, by decide, rfl⟩ rfl rfl rfl (zcat (Nat.le_of_ble_eq_true rfl)) (Nat.le_of_ble_eq_true rfl) (Nat.le_of_ble_eq_true rfl) (Nat.le_of_ble_eq_true rfl) (Nat.le_of_ble_eq_true rfl) (fun e he hp7 => ?_) (fun u4 he hp7 => ?_)
  · have hX := hx5 e he
    obtain ⟨e1, e2, e3⟩ := zpr3 (Option.some.inj hX)
    exact ⟨by rw [← e1]; rfl, e2, e3, ⟨(by rw [← e1]; trivial), (by rw [← e3]; exact hp7)⟩⟩
  · have h := hk6 u4 he
    subst he
    have hF8 := hp7
    refine j_aload_n hC 0 dX10_size_4 rfl rfl ?_
    refine j_getq (q := 11) hC dX10_size_5 f_X10_29 (zFx_kd hF8 1 rfl) rfl 3 rfl (zFx_rf hF8 1 3 rfl) ?_
    refine j_get hC dX10_size_8 f_X10_176 (zFx_kd hF8 11 rfl) rfl 13 rfl (fun hg9 => ?_)
    obtain ⟨e1, e2, e3⟩ := zpr3 (Option.some.inj h)
    exact j_iret hC hE dX10_size_11 (w_id hg9) (zn_i _) (by rw [← e1]; rfl) e2 e3 ⟨(by rw [← e1]; exact hg9), (by rw [← e3]; exact hF8)⟩ (Nat.le_of_ble_eq_true rfl) (Nat.le_of_ble_eq_true rfl)
set_option maxHeartbeats 4000000 in
set_option maxRecDepth 100000 in
theorem c_X10_requireLength (l : Launch) (hlt : l.stackTraces = false) (g : zG) (v1 : Int) (hv1 : inR v1) (M : zM) (S : zS) (hF : zFx S) {r : Nat ⊕ Unit} {M' : zM} {S' : zS} (h : F_X10_requireLength v1 M S = some (r, M', S')) : zMet l g yX10_requireLength cX10_requireLength 2 none 1 1 6 [zr g 1, .int (zi v1)] M S (zOX zkv r) M' S' (zFx S') := by
  refine zMet_of (by decide) hlt [(0, zr g 1), (1, .int (zi v1))] rfl (Nat.le_of_ble_eq_true rfl) (fun K hC hE hN => ?_)
  unfold F_X10_requireLength at h
  have J_15 : ∀ (M : zM) (S : zS) (hF : zFx S) (_ : F_X10_requireLength_J15 M S = some (r, M', S')), zJ K g 0 0 15 2 [] [] M S := by
    intro M S hF h
    unfold F_X10_requireLength_J15 at h
    obtain ⟨e1, e2, e3⟩ := zpr3 (Option.some.inj h)
    exact j_throwW hC hE hN thr_X10_1 1 rfl zs_X10_344 dX10_requireLength_15 dX10_requireLength_18 dX10_requireLength_19 dX10_requireLength_22 dX10_requireLength_25 (by rw [← e1]; rfl) e2 e3 (by rw [← e3]; exact (zFx_zn hF rfl)) (Nat.le_of_ble_eq_true rfl) (Or.inr ⟨zFx_cnt hF, (Nat.le_of_ble_eq_true rfl)⟩) (Nat.le_of_ble_eq_true rfl) (Nat.le_of_ble_eq_true rfl) (Nat.le_of_ble_eq_true rfl)
  refine j_iload_n hC 1 dX10_requireLength_0 rfl rfl ?_
  refine j_if_lt hC dX10_requireLength_1 rfl (w_id hv1) (fun c1 => ?_) (fun c1 => ?_)
  · have h := zt c1 h
    refine j_sub [] rfl ?_
    exact J_15 M S hF h
  · have h := zf c1 h
    refine j_iload_n hC 1 dX10_requireLength_4 rfl rfl ?_
    refine j_aload_n hC 0 dX10_requireLength_5 rfl rfl ?_
    refine j_getq (q := 5) hC dX10_requireLength_6 f_X10_19 (zFx_kd hF 1 rfl) rfl 1 rfl (zFx_rf hF 1 1 rfl) ?_
    refine j_get hC dX10_requireLength_9 f_X10_150 (zFx_kd hF 5 rfl) rfl 5 rfl (fun hg2 => ?_)
    refine j_icmp_le hC dX10_requireLength_12 rfl (w_id hv1) (w_id hg2) (fun c3 => ?_) (fun c3 => ?_)
    · have h := zf c3 h
      obtain ⟨e1, e2, e3⟩ := zpr3 (Option.some.inj h)
      exact j_vret hC hE dX10_requireLength_26 (by rw [← e1]; rfl) e2 e3 (by rw [← e3]; exact hF) (Nat.le_of_ble_eq_true rfl) (Nat.le_of_ble_eq_true rfl)
    · have h := zt c3 h
      refine j_sub [] rfl ?_
      exact J_15 M S hF h
set_option maxHeartbeats 4000000 in
set_option maxRecDepth 100000 in
theorem c_X10_sizeOf (l : Launch) (hlt : l.stackTraces = false) (g : zG) (v1 : Int) (hv1 : inR v1) (M : zM) (S : zS) (hF : zFx S) {r : Nat ⊕ Int} {M' : zM} {S' : zS} (h : F_X10_sizeOf v1 M S = some (r, M', S')) : zMet l g yX10_sizeOf cX10_sizeOf 2 (some .int) 10 2 12 [zr g 1, .int (zi v1)] M S (zOX zki r) M' S' (zRXi r ∧ zFx S') := by
  refine zMet_of (by decide) hlt [(0, zr g 1), (1, .int (zi v1))] rfl (Nat.le_of_ble_eq_true rfl) (fun K hC hE hN => ?_)
  unfold F_X10_sizeOf at h
  refine j_aload_n hC 0 dX10_sizeOf_0 rfl rfl ?_
  refine j_iload_n hC 1 dX10_sizeOf_1 rfl rfl ?_
  obtain ⟨r3, M1, S2, hy, hx5, hk6⟩ := zbx_ex h
  refine j_callXVv (ci := 7) hC hE hN lk_X10_179 dX10_sizeOf_2 (c_X10_requireLength l hlt g v1 hv1 M S hF hy) [.int (zi v1)] [] (zFx_kd hF 1 rfl) ⟨_, rfl, by decide, rfl⟩ rfl rfl rfl (zcat (Nat.le_of_ble_eq_true rfl)) (Nat.le_of_ble_eq_true rfl) (Nat.le_of_ble_eq_true rfl) (Nat.le_of_ble_eq_true rfl) (Nat.le_of_ble_eq_true rfl) (fun e he hp7 => ?_) (fun u4 he hp7 => ?_)
  · have hX := hx5 e he
    obtain ⟨e1, e2, e3⟩ := zpr3 (Option.some.inj hX)
    exact ⟨by rw [← e1]; rfl, e2, e3, ⟨(by rw [← e1]; trivial), (by rw [← e3]; exact hp7)⟩⟩
  · have h := hk6 u4 he
    subst he
    have hF8 := hp7
    refine j_aload_n hC 0 dX10_sizeOf_5 rfl rfl ?_
    obtain ⟨r11, M9, S10, hy, hx13, hk14⟩ := zbx_ex h
    refine j_callXVv (ci := 7) hC hE hN lk_X10_173 dX10_sizeOf_6 (c_X10_requireLanguage l hlt g M1 S2 hF8 hy) [] [] (zFx_kd hF8 1 rfl) ⟨_, rfl, by decide, rfl⟩ rfl rfl rfl (zcat (Nat.le_of_ble_eq_true rfl)) (Nat.le_of_ble_eq_true rfl) (Nat.le_of_ble_eq_true rfl) (Nat.le_of_ble_eq_true rfl) (Nat.le_of_ble_eq_true rfl) (fun e he hp15 => ?_) (fun u12 he hp15 => ?_)
    · have hX := hx13 e he
      obtain ⟨e1, e2, e3⟩ := zpr3 (Option.some.inj hX)
      exact ⟨by rw [← e1]; rfl, e2, e3, ⟨(by rw [← e1]; trivial), (by rw [← e3]; exact hp15)⟩⟩
    · have h := hk14 u12 he
      subst he
      have hF16 := hp15
      refine j_aload_n hC 0 dX10_sizeOf_9 rfl rfl ?_
      refine j_getq (q := 11) hC dX10_sizeOf_10 f_X10_29 (zFx_kd hF16 1 rfl) rfl 3 rfl (zFx_rf hF16 1 3 rfl) ?_
      refine j_iload_n hC 1 dX10_sizeOf_13 rfl rfl ?_
      obtain ⟨r17, hy, h⟩ := zb1_ex h
      refine j_callVi (ci := 3) hC hE lk_X10_182 dX10_sizeOf_14 (c_X3_wordsOfLength l hlt g v1 hv1 M9 S10 hF16 hy) [.int (zi v1)] [] (zFx_kd hF16 11 rfl) ⟨_, rfl, by decide, rfl⟩ rfl rfl rfl (zcat (Nat.le_of_ble_eq_true rfl)) (Nat.le_of_ble_eq_true rfl) (Nat.le_of_ble_eq_true rfl) (Nat.le_of_ble_eq_true rfl) (Nat.le_of_ble_eq_true rfl) (fun hp18 => ?_)
      have hr17 := hp18
      obtain ⟨e1, e2, e3⟩ := zpr3 (Option.some.inj h)
      exact j_iret hC hE dX10_sizeOf_17 (w_id hr17) (zn_i _) (by rw [← e1]; rfl) e2 e3 ⟨(by rw [← e1]; exact hr17), (by rw [← e3]; exact hF16)⟩ (Nat.le_of_ble_eq_true rfl) (Nat.le_of_ble_eq_true rfl)
set_option maxHeartbeats 4000000 in
set_option maxRecDepth 100000 in
theorem c_X10_density (l : Launch) (hlt : l.stackTraces = false) (g : zG) (v1 : Int) (hv1 : inR v1) (M : zM) (S : zS) (hF : zFx S) {r : Nat ⊕ UInt64} {M' : zM} {S' : zS} (h : F_X10_density v1 M S = some (r, M', S')) : zMet l g yX10_density cX10_density 2 (some .double) 10 2 12 [zr g 1, .int (zi v1)] M S (zOX zkd2 r) M' S' (zFx S') := by
  refine zMet_of (by decide) hlt [(0, zr g 1), (1, .int (zi v1))] rfl (Nat.le_of_ble_eq_true rfl) (fun K hC hE hN => ?_)
  unfold F_X10_density at h
  refine j_aload_n hC 0 dX10_density_0 rfl rfl ?_
  refine j_iload_n hC 1 dX10_density_1 rfl rfl ?_
  obtain ⟨r3, M1, S2, hy, hx5, hk6⟩ := zbx_ex h
  refine j_callXVv (ci := 7) hC hE hN lk_X10_179 dX10_density_2 (c_X10_requireLength l hlt g v1 hv1 M S hF hy) [.int (zi v1)] [] (zFx_kd hF 1 rfl) ⟨_, rfl, by decide, rfl⟩ rfl rfl rfl (zcat (Nat.le_of_ble_eq_true rfl)) (Nat.le_of_ble_eq_true rfl) (Nat.le_of_ble_eq_true rfl) (Nat.le_of_ble_eq_true rfl) (Nat.le_of_ble_eq_true rfl) (fun e he hp7 => ?_) (fun u4 he hp7 => ?_)
  · have hX := hx5 e he
    obtain ⟨e1, e2, e3⟩ := zpr3 (Option.some.inj hX)
    exact ⟨by rw [← e1]; rfl, e2, e3, (by rw [← e3]; exact hp7)⟩
  · have h := hk6 u4 he
    subst he
    have hF8 := hp7
    refine j_aload_n hC 0 dX10_density_5 rfl rfl ?_
    obtain ⟨r11, M9, S10, hy, hx13, hk14⟩ := zbx_ex h
    refine j_callXVv (ci := 7) hC hE hN lk_X10_173 dX10_density_6 (c_X10_requireLanguage l hlt g M1 S2 hF8 hy) [] [] (zFx_kd hF8 1 rfl) ⟨_, rfl, by decide, rfl⟩ rfl rfl rfl (zcat (Nat.le_of_ble_eq_true rfl)) (Nat.le_of_ble_eq_true rfl) (Nat.le_of_ble_eq_true rfl) (Nat.le_of_ble_eq_true rfl) (Nat.le_of_ble_eq_true rfl) (fun e he hp15 => ?_) (fun u12 he hp15 => ?_)
    · have hX := hx13 e he
      obtain ⟨e1, e2, e3⟩ := zpr3 (Option.some.inj hX)
      exact ⟨by rw [← e1]; rfl, e2, e3, (by rw [← e3]; exact hp15)⟩
    · have h := hk14 u12 he
      subst he
      have hF16 := hp15
      refine j_aload_n hC 0 dX10_density_9 rfl rfl ?_
      refine j_getq (q := 11) hC dX10_density_10 f_X10_29 (zFx_kd hF16 1 rfl) rfl 3 rfl (zFx_rf hF16 1 3 rfl) ?_
      refine j_iload_n hC 1 dX10_density_13 rfl rfl ?_
      obtain ⟨r17, hy, h⟩ := zb1_ex h
      refine j_callVi (ci := 3) hC hE lk_X10_182 dX10_density_14 (c_X3_wordsOfLength l hlt g v1 hv1 M9 S10 hF16 hy) [.int (zi v1)] [] (zFx_kd hF16 11 rfl) ⟨_, rfl, by decide, rfl⟩ rfl rfl rfl (zcat (Nat.le_of_ble_eq_true rfl)) (Nat.le_of_ble_eq_true rfl) (Nat.le_of_ble_eq_true rfl) (Nat.le_of_ble_eq_true rfl) (Nat.le_of_ble_eq_true rfl) (fun hp18 => ?_)
      have hr17 := hp18
      refine j_i2d hC dX10_density_17 ?_
      refine j_iload_n hC 1 dX10_density_18 rfl rfl ?_
      obtain ⟨r19, hy, h⟩ := zb1_ex h
      refine j_callSi hC hE lk_X10_185 dX10_density_19 (c_X9_power l hlt g v1 hv1 M9 S10 hy) [.int (zi v1)] [.double (FP.i2d (zi r17))] rfl rfl rfl (zcat (Nat.le_of_ble_eq_true rfl)) (Nat.le_of_ble_eq_true rfl) (Nat.le_of_ble_eq_true rfl) (Nat.le_of_ble_eq_true rfl) (Nat.le_of_ble_eq_true rfl) (fun hp20 => ?_)
      have hr19 := hp20
      refine j_i2d hC dX10_density_22 ?_
      obtain ⟨c21, h⟩ := zchkP_ex h
      refine j_ddiv hC dX10_density_23 c21 ?_
      obtain ⟨e1, e2, e3⟩ := zpr3 (Option.some.inj h)
      exact j_dret hC hE dX10_density_24 (by rw [← e1]; rfl) e2 e3 (by rw [← e3]; exact hF16) (Nat.le_of_ble_eq_true rfl) (Nat.le_of_ble_eq_true rfl)
set_option maxHeartbeats 4000000 in
set_option maxRecDepth 100000 in
theorem c_X10_isUsed (l : Launch) (hlt : l.stackTraces = false) (g : zG) (v1 : Int) (hv1 : inR v1) (M : zM) (S : zS) (hF : zFx S) {r : Nat ⊕ Int} {M' : zM} {S' : zS} (h : F_X10_isUsed v1 M S = some (r, M', S')) : zMet l g yX10_isUsed cX10_isUsed 2 (some .boolean) 10 2 12 [zr g 1, .int (zi v1)] M S (zOX zki r) M' S' (zRXi r ∧ zFx S') := by
  refine zMet_of (by decide) hlt [(0, zr g 1), (1, .int (zi v1))] rfl (Nat.le_of_ble_eq_true rfl) (fun K hC hE hN => ?_)
  unfold F_X10_isUsed at h
  refine j_aload_n hC 0 dX10_isUsed_0 rfl rfl ?_
  refine j_iload_n hC 1 dX10_isUsed_1 rfl rfl ?_
  obtain ⟨r3, M1, S2, hy, hx5, hk6⟩ := zbx_ex h
  refine j_callXVv (ci := 7) hC hE hN lk_X10_162 dX10_isUsed_2 (c_X10_requireContext l hlt g v1 hv1 M S hF hy) [.int (zi v1)] [] (zFx_kd hF 1 rfl) ⟨_, rfl, by decide, rfl⟩ rfl rfl rfl (zcat (Nat.le_of_ble_eq_true rfl)) (Nat.le_of_ble_eq_true rfl) (Nat.le_of_ble_eq_true rfl) (Nat.le_of_ble_eq_true rfl) (Nat.le_of_ble_eq_true rfl) (fun e he hp7 => ?_) (fun u4 he hp7 => ?_)
  · have hX := hx5 e he
    obtain ⟨e1, e2, e3⟩ := zpr3 (Option.some.inj hX)
    exact ⟨by rw [← e1]; rfl, e2, e3, ⟨(by rw [← e1]; trivial), (by rw [← e3]; exact hp7)⟩⟩
  · have h := hk6 u4 he
    subst he
    have hF8 := hp7
    refine j_aload_n hC 0 dX10_isUsed_5 rfl rfl ?_
    obtain ⟨r11, M9, S10, hy, hx13, hk14⟩ := zbx_ex h
    refine j_callXVv (ci := 7) hC hE hN lk_X10_173 dX10_isUsed_6 (c_X10_requireLanguage l hlt g M1 S2 hF8 hy) [] [] (zFx_kd hF8 1 rfl) ⟨_, rfl, by decide, rfl⟩ rfl rfl rfl (zcat (Nat.le_of_ble_eq_true rfl)) (Nat.le_of_ble_eq_true rfl) (Nat.le_of_ble_eq_true rfl) (Nat.le_of_ble_eq_true rfl) (Nat.le_of_ble_eq_true rfl) (fun e he hp15 => ?_) (fun u12 he hp15 => ?_)
    · have hX := hx13 e he
      obtain ⟨e1, e2, e3⟩ := zpr3 (Option.some.inj hX)
      exact ⟨by rw [← e1]; rfl, e2, e3, ⟨(by rw [← e1]; trivial), (by rw [← e3]; exact hp15)⟩⟩
    · have h := hk14 u12 he
      subst he
      have hF16 := hp15
      refine j_aload_n hC 0 dX10_isUsed_9 rfl rfl ?_
      refine j_getq (q := 11) hC dX10_isUsed_10 f_X10_29 (zFx_kd hF16 1 rfl) rfl 3 rfl (zFx_rf hF16 1 3 rfl) ?_
      refine j_get hC dX10_isUsed_13 f_X10_190 (zFx_kd hF16 11 rfl) rfl 16 rfl (fun hg17 => ?_)
      refine j_iconst hC dX10_isUsed_16 ?_
      refine j_iload_n hC 1 dX10_isUsed_17 rfl rfl ?_
      refine j_ishl hC dX10_isUsed_18 ?_
      refine j_iand hC dX10_isUsed_19 ?_
      refine j_if_eq hC dX10_isUsed_20 rfl (w_id (cR_zand _ _)) (fun c18 => ?_) (fun c18 => ?_)
      · have h := zt c18 h
        refine j_iconst hC dX10_isUsed_27 ?_
        obtain ⟨e1, e2, e3⟩ := zpr3 (Option.some.inj h)
        exact j_iret hC hE dX10_isUsed_28 (w_id kR_0) (zn_z zb01_0) (by rw [← e1]; rfl) e2 e3 ⟨(by rw [← e1]; exact kR_0), (by rw [← e3]; exact hF16)⟩ (Nat.le_of_ble_eq_true rfl) (Nat.le_of_ble_eq_true rfl)
      · have h := zf c18 h
        refine j_iconst hC dX10_isUsed_23 ?_
        refine j_goto hC dX10_isUsed_24 rfl ?_
        obtain ⟨e1, e2, e3⟩ := zpr3 (Option.some.inj h)
        exact j_iret hC hE dX10_isUsed_28 (w_id kR_1) (zn_z zb01_1) (by rw [← e1]; rfl) e2 e3 ⟨(by rw [← e1]; exact kR_1), (by rw [← e3]; exact hF16)⟩ (Nat.le_of_ble_eq_true rfl) (Nat.le_of_ble_eq_true rfl)
set_option maxHeartbeats 4000000 in
set_option maxRecDepth 100000 in
theorem c_X10_isRedundant (l : Launch) (hlt : l.stackTraces = false) (g : zG) (v1 : Int) (hv1 : inR v1) (M : zM) (S : zS) (hF : zFx S) {r : Nat ⊕ Int} {M' : zM} {S' : zS} (h : F_X10_isRedundant v1 M S = some (r, M', S')) : zMet l g yX10_isRedundant cX10_isRedundant 2 (some .boolean) 10 2 12 [zr g 1, .int (zi v1)] M S (zOX zki r) M' S' (zRXi r ∧ zFx S') := by
  refine zMet_of (by decide) hlt [(0, zr g 1), (1, .int (zi v1))] rfl (Nat.le_of_ble_eq_true rfl) (fun K hC hE hN => ?_)
  unfold F_X10_isRedundant at h
  refine j_aload_n hC 0 dX10_isRedundant_0 rfl rfl ?_
  refine j_iload_n hC 1 dX10_isRedundant_1 rfl rfl ?_
  obtain ⟨r3, M1, S2, hy, hx5, hk6⟩ := zbx_ex h
  refine j_callXVv (ci := 7) hC hE hN lk_X10_162 dX10_isRedundant_2 (c_X10_requireContext l hlt g v1 hv1 M S hF hy) [.int (zi v1)] [] (zFx_kd hF 1 rfl) ⟨_, rfl, by decide, rfl⟩ rfl rfl rfl (zcat (Nat.le_of_ble_eq_true rfl)) (Nat.le_of_ble_eq_true rfl) (Nat.le_of_ble_eq_true rfl) (Nat.le_of_ble_eq_true rfl) (Nat.le_of_ble_eq_true rfl) (fun e he hp7 => ?_) (fun u4 he hp7 => ?_)
  · have hX := hx5 e he
    obtain ⟨e1, e2, e3⟩ := zpr3 (Option.some.inj hX)
    exact ⟨by rw [← e1]; rfl, e2, e3, ⟨(by rw [← e1]; trivial), (by rw [← e3]; exact hp7)⟩⟩
  · have h := hk6 u4 he
    subst he
    have hF8 := hp7
    refine j_aload_n hC 0 dX10_isRedundant_5 rfl rfl ?_
    obtain ⟨r11, M9, S10, hy, hx13, hk14⟩ := zbx_ex h
    refine j_callXVv (ci := 7) hC hE hN lk_X10_173 dX10_isRedundant_6 (c_X10_requireLanguage l hlt g M1 S2 hF8 hy) [] [] (zFx_kd hF8 1 rfl) ⟨_, rfl, by decide, rfl⟩ rfl rfl rfl (zcat (Nat.le_of_ble_eq_true rfl)) (Nat.le_of_ble_eq_true rfl) (Nat.le_of_ble_eq_true rfl) (Nat.le_of_ble_eq_true rfl) (Nat.le_of_ble_eq_true rfl) (fun e he hp15 => ?_) (fun u12 he hp15 => ?_)
    · have hX := hx13 e he
      obtain ⟨e1, e2, e3⟩ := zpr3 (Option.some.inj hX)
      exact ⟨by rw [← e1]; rfl, e2, e3, ⟨(by rw [← e1]; trivial), (by rw [← e3]; exact hp15)⟩⟩
    · have h := hk14 u12 he
      subst he
      have hF16 := hp15
      refine j_aload_n hC 0 dX10_isRedundant_9 rfl rfl ?_
      refine j_getq (q := 11) hC dX10_isRedundant_10 f_X10_29 (zFx_kd hF16 1 rfl) rfl 3 rfl (zFx_rf hF16 1 3 rfl) ?_
      refine j_aload_n hC 0 dX10_isRedundant_13 rfl rfl ?_
      refine j_getq (q := 5) hC dX10_isRedundant_14 f_X10_19 (zFx_kd hF16 1 rfl) rfl 1 rfl (zFx_rf hF16 1 1 rfl) ?_
      obtain ⟨r17, hy, h⟩ := zb1_ex h
      refine j_callVi (ci := 2) hC hE lk_X10_193 dX10_isRedundant_17 (c_X2_allContexts l hlt g M9 S10 hF16 hy) [] [zr g 11] (zFx_kd hF16 5 rfl) ⟨_, rfl, by decide, rfl⟩ rfl rfl rfl (zcat (Nat.le_of_ble_eq_true rfl)) (Nat.le_of_ble_eq_true rfl) (Nat.le_of_ble_eq_true rfl) (Nat.le_of_ble_eq_true rfl) (Nat.le_of_ble_eq_true rfl) (fun hp18 => ?_)
      have hr17 := hp18
      refine j_iconst hC dX10_isRedundant_20 ?_
      refine j_iload_n hC 1 dX10_isRedundant_21 rfl rfl ?_
      refine j_ishl hC dX10_isRedundant_22 ?_
      refine j_iconst hC dX10_isRedundant_23 ?_
      refine j_ixor hC dX10_isRedundant_24 ?_
      refine j_iand hC dX10_isRedundant_25 ?_
      obtain ⟨r19, M20, hy, h⟩ := zb2_ex h
      refine j_callVi (ci := 3) hC hE lk_X10_196 dX10_isRedundant_26 (c_X3_isGeneratedBy l hlt g (zand r17 (zxor (zshl 1 v1) (-1))) (cR_zand _ _) M9 S10 hF16 hy) [.int (zi (zand r17 (zxor (zshl 1 v1) (-1))))] [] (zFx_kd hF16 11 rfl) ⟨_, rfl, by decide, rfl⟩ rfl rfl rfl (zcat (Nat.le_of_ble_eq_true rfl)) (Nat.le_of_ble_eq_true rfl) (Nat.le_of_ble_eq_true rfl) (Nat.le_of_ble_eq_true rfl) (Nat.le_of_ble_eq_true rfl) (fun hp21 => ?_)
      have hr19 := hp21
      obtain ⟨c22, h⟩ := zchk_ex h
      obtain ⟨e1, e2, e3⟩ := zpr3 (Option.some.inj h)
      exact j_iret hC hE dX10_isRedundant_29 (w_id hr19) (zn_z c22) (by rw [← e1]; rfl) e2 e3 ⟨(by rw [← e1]; exact hr19), (by rw [← e3]; exact hF16)⟩ (Nat.le_of_ble_eq_true rfl) (Nat.le_of_ble_eq_true rfl)
set_option maxHeartbeats 4000000 in
set_option maxRecDepth 100000 in
theorem c_X10_minimalContexts (l : Launch) (hlt : l.stackTraces = false) (g : zG) (M : zM) (S : zS) (hF : zFx S) {r : Nat ⊕ Int} {M' : zM} {S' : zS} (h : F_X10_minimalContexts M S = some (r, M', S')) : zMet l g yX10_minimalContexts cX10_minimalContexts 1 (some .int) 10 1 6 [zr g 1] M S (zOX zki r) M' S' (zRXi r ∧ zFx S') := by
  refine zMet_of (by decide) hlt [(0, zr g 1)] rfl (Nat.le_of_ble_eq_true rfl) (fun K hC hE hN => ?_)
  unfold F_X10_minimalContexts at h
  refine j_aload_n hC 0 dX10_minimalContexts_0 rfl rfl ?_
  obtain ⟨r3, M1, S2, hy, hx5, hk6⟩ := zbx_ex h
  refine j_callXVv (ci := 7) hC hE hN lk_X10_173 dX10_minimalContexts_1 (c_X10_requireLanguage l hlt g M S hF hy) [] [] (zFx_kd hF 1 rfl) ⟨_, rfl, by decide, rfl⟩ rfl rfl rfl (zcat (Nat.le_of_ble_eq_true rfl)) (Nat.le_of_ble_eq_true rfl) (Nat.le_of_ble_eq_true rfl) (Nat.le_of_ble_eq_true rfl) (Nat.le_of_ble_eq_true rfl) (fun e he hp7 => ?_) (fun u4 he hp7 => ?_)
  · have hX := hx5 e he
    obtain ⟨e1, e2, e3⟩ := zpr3 (Option.some.inj hX)
    exact ⟨by rw [← e1]; rfl, e2, e3, ⟨(by rw [← e1]; trivial), (by rw [← e3]; exact hp7)⟩⟩
  · have h := hk6 u4 he
    subst he
    have hF8 := hp7
    refine j_aload_n hC 0 dX10_minimalContexts_4 rfl rfl ?_
    refine j_getq (q := 11) hC dX10_minimalContexts_5 f_X10_29 (zFx_kd hF8 1 rfl) rfl 3 rfl (zFx_rf hF8 1 3 rfl) ?_
    refine j_aload_n hC 0 dX10_minimalContexts_8 rfl rfl ?_
    refine j_getq (q := 5) hC dX10_minimalContexts_9 f_X10_19 (zFx_kd hF8 1 rfl) rfl 1 rfl (zFx_rf hF8 1 1 rfl) ?_
    obtain ⟨r9, hy, h⟩ := zb1_ex h
    refine j_callVi (ci := 2) hC hE lk_X10_193 dX10_minimalContexts_12 (c_X2_allContexts l hlt g M1 S2 hF8 hy) [] [zr g 11] (zFx_kd hF8 5 rfl) ⟨_, rfl, by decide, rfl⟩ rfl rfl rfl (zcat (Nat.le_of_ble_eq_true rfl)) (Nat.le_of_ble_eq_true rfl) (Nat.le_of_ble_eq_true rfl) (Nat.le_of_ble_eq_true rfl) (Nat.le_of_ble_eq_true rfl) (fun hp10 => ?_)
    have hr9 := hp10
    obtain ⟨r11, M12, hy, h⟩ := zb2_ex h
    refine j_callVi (ci := 3) hC hE lk_X10_199 dX10_minimalContexts_15 (c_X3_smallestContextSet l hlt g r9 hr9 M1 S2 hF8 hy) [.int (zi r9)] [] (zFx_kd hF8 11 rfl) ⟨_, rfl, by decide, rfl⟩ rfl rfl rfl (zcat (Nat.le_of_ble_eq_true rfl)) (Nat.le_of_ble_eq_true rfl) (Nat.le_of_ble_eq_true rfl) (Nat.le_of_ble_eq_true rfl) (Nat.le_of_ble_eq_true rfl) (fun hp13 => ?_)
    have hr11 := hp13
    obtain ⟨e1, e2, e3⟩ := zpr3 (Option.some.inj h)
    exact j_iret hC hE dX10_minimalContexts_18 (w_id hr11) (zn_i _) (by rw [← e1]; rfl) e2 e3 ⟨(by rw [← e1]; exact hr11), (by rw [← e3]; exact hF8)⟩ (Nat.le_of_ble_eq_true rfl) (Nat.le_of_ble_eq_true rfl)
set_option maxHeartbeats 4000000 in
set_option maxRecDepth 100000 in
theorem c_X10_canFollow (l : Launch) (hlt : l.stackTraces = false) (g : zG) (v1 : Int) (v2 : Int) (hv1 : inR v1) (hv2 : inR v2) (M : zM) (S : zS) (hF : zFx S) {r : Nat ⊕ Int} {M' : zM} {S' : zS} (h : F_X10_canFollow v1 v2 M S = some (r, M', S')) : zMet l g yX10_canFollow cX10_canFollow 3 (some .boolean) 10 3 18 [zr g 1, .int (zi v1), .int (zi v2)] M S (zOX zki r) M' S' (zRXi r ∧ zFx S') := by
  refine zMet_of (by decide) hlt [(0, zr g 1), (1, .int (zi v1)), (2, .int (zi v2))] rfl (Nat.le_of_ble_eq_true rfl) (fun K hC hE hN => ?_)
  unfold F_X10_canFollow at h
  refine j_aload_n hC 0 dX10_canFollow_0 rfl rfl ?_
  refine j_iload_n hC 1 dX10_canFollow_1 rfl rfl ?_
  obtain ⟨r3, M1, S2, hy, hx5, hk6⟩ := zbx_ex h
  refine j_callXVv (ci := 7) hC hE hN lk_X10_162 dX10_canFollow_2 (c_X10_requireContext l hlt g v1 hv1 M S hF hy) [.int (zi v1)] [] (zFx_kd hF 1 rfl) ⟨_, rfl, by decide, rfl⟩ rfl rfl rfl (zcat (Nat.le_of_ble_eq_true rfl)) (Nat.le_of_ble_eq_true rfl) (Nat.le_of_ble_eq_true rfl) (Nat.le_of_ble_eq_true rfl) (Nat.le_of_ble_eq_true rfl) (fun e he hp7 => ?_) (fun u4 he hp7 => ?_)
  · have hX := hx5 e he
    obtain ⟨e1, e2, e3⟩ := zpr3 (Option.some.inj hX)
    exact ⟨by rw [← e1]; rfl, e2, e3, ⟨(by rw [← e1]; trivial), (by rw [← e3]; exact hp7)⟩⟩
  · have h := hk6 u4 he
    subst he
    have hF8 := hp7
    refine j_aload_n hC 0 dX10_canFollow_5 rfl rfl ?_
    refine j_iload_n hC 2 dX10_canFollow_6 rfl rfl ?_
    obtain ⟨r11, M9, S10, hy, hx13, hk14⟩ := zbx_ex h
    refine j_callXVv (ci := 7) hC hE hN lk_X10_162 dX10_canFollow_7 (c_X10_requireContext l hlt g v2 hv2 M1 S2 hF8 hy) [.int (zi v2)] [] (zFx_kd hF8 1 rfl) ⟨_, rfl, by decide, rfl⟩ rfl rfl rfl (zcat (Nat.le_of_ble_eq_true rfl)) (Nat.le_of_ble_eq_true rfl) (Nat.le_of_ble_eq_true rfl) (Nat.le_of_ble_eq_true rfl) (Nat.le_of_ble_eq_true rfl) (fun e he hp15 => ?_) (fun u12 he hp15 => ?_)
    · have hX := hx13 e he
      obtain ⟨e1, e2, e3⟩ := zpr3 (Option.some.inj hX)
      exact ⟨by rw [← e1]; rfl, e2, e3, ⟨(by rw [← e1]; trivial), (by rw [← e3]; exact hp15)⟩⟩
    · have h := hk14 u12 he
      subst he
      have hF16 := hp15
      refine j_aload_n hC 0 dX10_canFollow_10 rfl rfl ?_
      obtain ⟨r19, M17, S18, hy, hx21, hk22⟩ := zbx_ex h
      refine j_callXVv (ci := 7) hC hE hN lk_X10_173 dX10_canFollow_11 (c_X10_requireLanguage l hlt g M9 S10 hF16 hy) [] [] (zFx_kd hF16 1 rfl) ⟨_, rfl, by decide, rfl⟩ rfl rfl rfl (zcat (Nat.le_of_ble_eq_true rfl)) (Nat.le_of_ble_eq_true rfl) (Nat.le_of_ble_eq_true rfl) (Nat.le_of_ble_eq_true rfl) (Nat.le_of_ble_eq_true rfl) (fun e he hp23 => ?_) (fun u20 he hp23 => ?_)
      · have hX := hx21 e he
        obtain ⟨e1, e2, e3⟩ := zpr3 (Option.some.inj hX)
        exact ⟨by rw [← e1]; rfl, e2, e3, ⟨(by rw [← e1]; trivial), (by rw [← e3]; exact hp23)⟩⟩
      · have h := hk22 u20 he
        subst he
        have hF24 := hp23
        refine j_aload_n hC 0 dX10_canFollow_14 rfl rfl ?_
        refine j_getq (q := 11) hC dX10_canFollow_15 f_X10_29 (zFx_kd hF24 1 rfl) rfl 3 rfl (zFx_rf hF24 1 3 rfl) ?_
        refine j_iload_n hC 1 dX10_canFollow_18 rfl rfl ?_
        obtain ⟨r25, hy, h⟩ := zb1_ex h
        refine j_callVi (ci := 3) hC hE lk_X10_202 dX10_canFollow_19 (c_X3_followersOf l hlt g v1 hv1 M17 S18 hF24 hy) [.int (zi v1)] [] (zFx_kd hF24 11 rfl) ⟨_, rfl, by decide, rfl⟩ rfl rfl rfl (zcat (Nat.le_of_ble_eq_true rfl)) (Nat.le_of_ble_eq_true rfl) (Nat.le_of_ble_eq_true rfl) (Nat.le_of_ble_eq_true rfl) (Nat.le_of_ble_eq_true rfl) (fun hp26 => ?_)
        have hr25 := hp26
        refine j_iconst hC dX10_canFollow_22 ?_
        refine j_iload_n hC 2 dX10_canFollow_23 rfl rfl ?_
        refine j_ishl hC dX10_canFollow_24 ?_
        refine j_iand hC dX10_canFollow_25 ?_
        refine j_if_eq hC dX10_canFollow_26 rfl (w_id (cR_zand _ _)) (fun c27 => ?_) (fun c27 => ?_)
        · have h := zt c27 h
          refine j_iconst hC dX10_canFollow_33 ?_
          obtain ⟨e1, e2, e3⟩ := zpr3 (Option.some.inj h)
          exact j_iret hC hE dX10_canFollow_34 (w_id kR_0) (zn_z zb01_0) (by rw [← e1]; rfl) e2 e3 ⟨(by rw [← e1]; exact kR_0), (by rw [← e3]; exact hF24)⟩ (Nat.le_of_ble_eq_true rfl) (Nat.le_of_ble_eq_true rfl)
        · have h := zf c27 h
          refine j_iconst hC dX10_canFollow_29 ?_
          refine j_goto hC dX10_canFollow_30 rfl ?_
          obtain ⟨e1, e2, e3⟩ := zpr3 (Option.some.inj h)
          exact j_iret hC hE dX10_canFollow_34 (w_id kR_1) (zn_z zb01_1) (by rw [← e1]; rfl) e2 e3 ⟨(by rw [← e1]; exact kR_1), (by rw [← e3]; exact hF24)⟩ (Nat.le_of_ble_eq_true rfl) (Nat.le_of_ble_eq_true rfl)
set_option maxHeartbeats 4000000 in
set_option maxRecDepth 100000 in
theorem c_X10_isConfluent (l : Launch) (hlt : l.stackTraces = false) (g : zG) (M : zM) (S : zS) (hF : zFx S) {r : Nat ⊕ Int} {M' : zM} {S' : zS} (h : F_X10_isConfluent M S = some (r, M', S')) : zMet l g yX10_isConfluent cX10_isConfluent 1 (some .boolean) 50 1 6 [zr g 1] M S (zOX zki r) M' S' (zRXi r ∧ zFx S') := by
  refine zMet_of (by decide) hlt [(0, zr g 1)] rfl (Nat.le_of_ble_eq_true rfl) (fun K hC hE hN => ?_)
  unfold F_X10_isConfluent at h
  refine j_aload_n hC 0 dX10_isConfluent_0 rfl rfl ?_
  obtain ⟨r3, M1, S2, hy, hx5, hk6⟩ := zbx_ex h
  refine j_callXVv (ci := 7) hC hE hN lk_X10_173 dX10_isConfluent_1 (c_X10_requireLanguage l hlt g M S hF hy) [] [] (zFx_kd hF 1 rfl) ⟨_, rfl, by decide, rfl⟩ rfl rfl rfl (zcat (Nat.le_of_ble_eq_true rfl)) (Nat.le_of_ble_eq_true rfl) (Nat.le_of_ble_eq_true rfl) (Nat.le_of_ble_eq_true rfl) (Nat.le_of_ble_eq_true rfl) (fun e he hp7 => ?_) (fun u4 he hp7 => ?_)
  · have hX := hx5 e he
    obtain ⟨e1, e2, e3⟩ := zpr3 (Option.some.inj hX)
    exact ⟨by rw [← e1]; rfl, e2, e3, ⟨(by rw [← e1]; trivial), (by rw [← e3]; exact hp7)⟩⟩
  · have h := hk6 u4 he
    subst he
    have hF8 := hp7
    refine j_aload_n hC 0 dX10_isConfluent_4 rfl rfl ?_
    refine j_getq (q := 25) hC dX10_isConfluent_5 f_X10_36 (zFx_kd hF8 1 rfl) rfl 4 rfl (zFx_rf hF8 1 4 rfl) ?_
    refine j_aload_n hC 0 dX10_isConfluent_8 rfl rfl ?_
    refine j_getq (q := 5) hC dX10_isConfluent_9 f_X10_19 (zFx_kd hF8 1 rfl) rfl 1 rfl (zFx_rf hF8 1 1 rfl) ?_
    refine j_aload_n hC 0 dX10_isConfluent_12 rfl rfl ?_
    refine j_getq (q := 11) hC dX10_isConfluent_13 f_X10_29 (zFx_kd hF8 1 rfl) rfl 3 rfl (zFx_rf hF8 1 3 rfl) ?_
    obtain ⟨r9, M10, hy, h⟩ := zb2_ex h
    refine j_callVi (ci := 4) hC hE lk_X10_213 dX10_isConfluent_16 (c_X5_areSingle l hlt g M1 S2 hF8 hy) [zr g 5, zr g 11] [] (zFx_kd hF8 25 rfl) ⟨_, rfl, by decide, rfl⟩ rfl rfl rfl (zcat (Nat.le_of_ble_eq_true rfl)) (Nat.le_of_ble_eq_true rfl) (Nat.le_of_ble_eq_true rfl) (Nat.le_of_ble_eq_true rfl) (Nat.le_of_ble_eq_true rfl) (fun hp11 => ?_)
    have hr9 := hp11
    obtain ⟨c12, h⟩ := zchk_ex h
    obtain ⟨e1, e2, e3⟩ := zpr3 (Option.some.inj h)
    exact j_iret hC hE dX10_isConfluent_19 (w_id hr9) (zn_z c12) (by rw [← e1]; rfl) e2 e3 ⟨(by rw [← e1]; exact hr9), (by rw [← e3]; exact hF8)⟩ (Nat.le_of_ble_eq_true rfl) (Nat.le_of_ble_eq_true rfl)
set_option maxHeartbeats 4000000 in
set_option maxRecDepth 100000 in
theorem c_X10_takeWord (l : Launch) (hlt : l.stackTraces = false) (g : zG) (v1 : Int) (hv1 : inR v1) (M : zM) (S : zS) (hF : zFx S) {r : Nat ⊕ Unit} {M' : zM} {S' : zS} (h : F_X10_takeWord v1 M S = some (r, M', S')) : zMet l g yX10_takeWord cX10_takeWord 2 none 10 2 12 [zr g 1, .int (zi v1)] M S (zOX zkv r) M' S' (zFx S') := by
  refine zMet_of (by decide) hlt [(0, zr g 1), (1, .int (zi v1))] rfl (Nat.le_of_ble_eq_true rfl) (fun K hC hE hN => ?_)
  unfold F_X10_takeWord at h
  refine j_aload_n hC 0 dX10_takeWord_0 rfl rfl ?_
  obtain ⟨r3, M1, S2, hy, hx5, hk6⟩ := zbx_ex h
  refine j_callXVv (ci := 7) hC hE hN lk_X10_173 dX10_takeWord_1 (c_X10_requireLanguage l hlt g M S hF hy) [] [] (zFx_kd hF 1 rfl) ⟨_, rfl, by decide, rfl⟩ rfl rfl rfl (zcat (Nat.le_of_ble_eq_true rfl)) (Nat.le_of_ble_eq_true rfl) (Nat.le_of_ble_eq_true rfl) (Nat.le_of_ble_eq_true rfl) (Nat.le_of_ble_eq_true rfl) (fun e he hp7 => ?_) (fun u4 he hp7 => ?_)
  · have hX := hx5 e he
    obtain ⟨e1, e2, e3⟩ := zpr3 (Option.some.inj hX)
    exact ⟨by rw [← e1]; rfl, e2, e3, (by rw [← e3]; exact hp7)⟩
  · have h := hk6 u4 he
    subst he
    have hF8 := hp7
    refine j_aload_n hC 0 dX10_takeWord_4 rfl rfl ?_
    refine j_iload_n hC 1 dX10_takeWord_5 rfl rfl ?_
    refine j_aload_n hC 0 dX10_takeWord_6 rfl rfl ?_
    refine j_getq (q := 11) hC dX10_takeWord_7 f_X10_29 (zFx_kd hF8 1 rfl) rfl 3 rfl (zFx_rf hF8 1 3 rfl) ?_
    refine j_get hC dX10_takeWord_10 f_X10_176 (zFx_kd hF8 11 rfl) rfl 13 rfl (fun hg9 => ?_)
    obtain ⟨r12, M10, S11, hy, hx14, hk15⟩ := zbx_ex h
    refine j_callXVv (ci := 7) hC hE hN lk_X10_230 dX10_takeWord_13 (c_X10_requireIndex l hlt g v1 (M1 11 13) hv1 hg9 M1 S2 hF8 hy) [.int (zi v1), .int (zi (M1 11 13))] [] (zFx_kd hF8 1 rfl) ⟨_, rfl, by decide, rfl⟩ rfl rfl rfl (zcat (Nat.le_of_ble_eq_true rfl)) (Nat.le_of_ble_eq_true rfl) (Nat.le_of_ble_eq_true rfl) (Nat.le_of_ble_eq_true rfl) (Nat.le_of_ble_eq_true rfl) (fun e he hp16 => ?_) (fun u13 he hp16 => ?_)
    · have hX := hx14 e he
      obtain ⟨e1, e2, e3⟩ := zpr3 (Option.some.inj hX)
      exact ⟨by rw [← e1]; rfl, e2, e3, (by rw [← e3]; exact hp16)⟩
    · have h := hk15 u13 he
      subst he
      have hF17 := hp16
      refine j_aload_n hC 0 dX10_takeWord_16 rfl rfl ?_
      refine j_aload_n hC 0 dX10_takeWord_17 rfl rfl ?_
      refine j_getq (q := 11) hC dX10_takeWord_18 f_X10_29 (zFx_kd hF17 1 rfl) rfl 3 rfl (zFx_rf hF17 1 3 rfl) ?_
      refine j_iload_n hC 1 dX10_takeWord_21 rfl rfl ?_
      obtain ⟨r18, hy, h⟩ := zb1_ex h
      refine j_callVi (ci := 3) hC hE lk_X10_234 dX10_takeWord_22 (c_X3_wordAt l hlt g v1 hv1 M10 S11 hF17 hy) [.int (zi v1)] [zr g 1] (zFx_kd hF17 11 rfl) ⟨_, rfl, by decide, rfl⟩ rfl rfl rfl (zcat (Nat.le_of_ble_eq_true rfl)) (Nat.le_of_ble_eq_true rfl) (Nat.le_of_ble_eq_true rfl) (Nat.le_of_ble_eq_true rfl) (Nat.le_of_ble_eq_true rfl) (fun hp19 => ?_)
      have hr18 := hp19
      obtain ⟨M20, eM20, h⟩ := zlet_ex h
      refine j_put hC dX10_takeWord_25 f_X10_217 pF_X10 (zFx_kd hF17 1 rfl) (Or.inl rfl) rfl 8 rfl (w_id hr18) hr18 eM20 ?_
      obtain ⟨e1, e2, e3⟩ := zpr3 (Option.some.inj h)
      exact j_vret hC hE dX10_takeWord_28 (by rw [← e1]; rfl) e2 e3 (by rw [← e3]; exact hF17) (Nat.le_of_ble_eq_true rfl) (Nat.le_of_ble_eq_true rfl)
set_option maxHeartbeats 4000000 in
set_option maxRecDepth 100000 in
theorem c_X10_wordLength (l : Launch) (hlt : l.stackTraces = false) (g : zG) (M : zM) (S : zS) (hF : zFx S) {r : Int} (h : F_X10_wordLength M = some r) : zMet l g yX10_wordLength cX10_wordLength 1 (some .int) 2 0 0 [zr g 1] M S (.inl (some (.int (zi r)))) M S (inR r) := by
  refine zMet_of (by decide) hlt [(0, zr g 1)] rfl (Nat.le_of_ble_eq_true rfl) (fun K hC hE hN => ?_)
  unfold F_X10_wordLength at h
  refine j_aload_n hC 0 dX10_wordLength_0 rfl rfl ?_
  refine j_get hC dX10_wordLength_1 f_X10_217 (zFx_kd hF 1 rfl) rfl 8 rfl (fun hg1 => ?_)
  obtain ⟨r2, hy, h⟩ := zb1_ex h
  refine j_callSi hC hE lk_X10_220 dX10_wordLength_4 (c_X9_length l hlt g (M 1 8) hg1 M S hy) [.int (zi (M 1 8))] [] rfl rfl rfl (zcat (Nat.le_of_ble_eq_true rfl)) (Nat.le_of_ble_eq_true rfl) (Nat.le_of_ble_eq_true rfl) (Nat.le_of_ble_eq_true rfl) (Nat.le_of_ble_eq_true rfl) (fun hp3 => ?_)
  have hr2 := hp3
  have e1 := Option.some.inj h
  exact j_iret hC hE dX10_wordLength_7 (w_id hr2) (zn_i _) (by rw [← e1]) rfl rfl (by rw [← e1]; exact hr2) (Nat.le_of_ble_eq_true rfl) (Nat.le_of_ble_eq_true rfl)
set_option maxHeartbeats 4000000 in
set_option maxRecDepth 100000 in
theorem c_X10_letterAt (l : Launch) (hlt : l.stackTraces = false) (g : zG) (v1 : Int) (hv1 : inR v1) (M : zM) (S : zS) (hF : zFx S) {r : Nat ⊕ Int} {M' : zM} {S' : zS} (h : F_X10_letterAt v1 M S = some (r, M', S')) : zMet l g yX10_letterAt cX10_letterAt 3 (some .char) 3 1 6 [zr g 1, .int (zi v1)] M S (zOX zki r) M' S' (zRXi r ∧ zFx S') := by
  refine zMet_of (by decide) hlt [(0, zr g 1), (1, .int (zi v1))] rfl (Nat.le_of_ble_eq_true rfl) (fun K hC hE hN => ?_)
  unfold F_X10_letterAt at h
  refine j_aload_n hC 0 dX10_letterAt_0 rfl rfl ?_
  refine j_get hC dX10_letterAt_1 f_X10_217 (zFx_kd hF 1 rfl) rfl 8 rfl (fun hg1 => ?_)
  obtain ⟨r2, hy, h⟩ := zb1_ex h
  refine j_callSi hC hE lk_X10_220 dX10_letterAt_4 (c_X9_length l hlt g (M 1 8) hg1 M S hy) [.int (zi (M 1 8))] [] rfl rfl rfl (zcat (Nat.le_of_ble_eq_true rfl)) (Nat.le_of_ble_eq_true rfl) (Nat.le_of_ble_eq_true rfl) (Nat.le_of_ble_eq_true rfl) (Nat.le_of_ble_eq_true rfl) (fun hp3 => ?_)
  have hr2 := hp3
  refine j_istore_n hC dX10_letterAt_7 rfl (Nat.le_of_ble_eq_true rfl) rfl ?_
  refine j_aload_n hC 1 dX10_letterAt_8 rfl rfl ?_
  refine j_iload_n hC 2 dX10_letterAt_9 rfl rfl ?_
  refine j_iload_n hC 0 dX10_letterAt_10 rfl rfl ?_
  obtain ⟨r6, M4, S5, hy, hx8, hk9⟩ := zbx_ex h
  refine j_callXVv (ci := 7) hC hE hN lk_X10_230 dX10_letterAt_11 (c_X10_requireIndex l hlt g v1 r2 hv1 hr2 M S hF hy) [.int (zi v1), .int (zi r2)] [] (zFx_kd hF 1 rfl) ⟨_, rfl, by decide, rfl⟩ rfl rfl rfl (zcat (Nat.le_of_ble_eq_true rfl)) (Nat.le_of_ble_eq_true rfl) (Nat.le_of_ble_eq_true rfl) (Nat.le_of_ble_eq_true rfl) (Nat.le_of_ble_eq_true rfl) (fun e he hp10 => ?_) (fun u7 he hp10 => ?_)
  · have hX := hx8 e he
    obtain ⟨e1, e2, e3⟩ := zpr3 (Option.some.inj hX)
    exact ⟨by rw [← e1]; rfl, e2, e3, ⟨(by rw [← e1]; trivial), (by rw [← e3]; exact hp10)⟩⟩
  · have h := hk9 u7 he
    subst he
    have hF11 := hp10
    refine j_bipush hC dX10_letterAt_14 rfl ?_
    refine j_aload_n hC 1 dX10_letterAt_16 rfl rfl ?_
    refine j_get hC dX10_letterAt_17 f_X10_217 (zFx_kd hF11 1 rfl) rfl 8 rfl (fun hg12 => ?_)
    refine j_iload_n hC 0 dX10_letterAt_20 rfl rfl ?_
    refine j_iload_n hC 2 dX10_letterAt_21 rfl rfl ?_
    refine j_iload_n hC 2 dX10_letterAt_22 rfl rfl ?_
    refine j_iconst hC dX10_letterAt_23 ?_
    refine j_iadd hC dX10_letterAt_24 ?_
    obtain ⟨r13, hy, h⟩ := zb1_ex h
    refine j_callSi hC hE lk_X10_237 dX10_letterAt_25 (c_X9_factor l hlt g (M4 1 8) r2 v1 (w (v1 + 1)) hg12 hr2 hv1 (inR_w _) M4 S5 hy) [.int (zi (M4 1 8)), .int (zi r2), .int (zi v1), .int (zi (v1 + 1))] [.int (zi 97)] rfl (by simp only [zi_w, zl_wl]) rfl (zcat (Nat.le_of_ble_eq_true rfl)) (Nat.le_of_ble_eq_true rfl) (Nat.le_of_ble_eq_true rfl) (Nat.le_of_ble_eq_true rfl) (Nat.le_of_ble_eq_true rfl) (fun hp14 => ?_)
    have hr13 := hp14
    refine j_iadd hC dX10_letterAt_28 ?_
    refine j_iconst hC dX10_letterAt_29 ?_
    refine j_isub hC dX10_letterAt_30 ?_
    refine j_i2c hC dX10_letterAt_31 ?_
    obtain ⟨c15, h⟩ := zchk_ex h
    obtain ⟨e1, e2, e3⟩ := zpr3 (Option.some.inj h)
    exact j_iret hC hE dX10_letterAt_32 (w_id (cR_zi2c _)) (zn_c c15) (by rw [← e1]; rfl) e2 e3 ⟨(by rw [← e1]; exact (cR_zi2c _)), (by rw [← e3]; exact hF11)⟩ (Nat.le_of_ble_eq_true rfl) (Nat.le_of_ble_eq_true rfl)
set_option maxHeartbeats 4000000 in
set_option maxRecDepth 100000 in
theorem c_X10_isGenerated (l : Launch) (hlt : l.stackTraces = false) (g : zG) (M : zM) (S : zS) (hF : zFx S) {r : Nat ⊕ Int} {M' : zM} {S' : zS} (h : F_X10_isGenerated M S = some (r, M', S')) : zMet l g yX10_isGenerated cX10_isGenerated 1 (some .boolean) 10 1 6 [zr g 1] M S (zOX zki r) M' S' (zRXi r ∧ zFx S') := by
  refine zMet_of (by decide) hlt [(0, zr g 1)] rfl (Nat.le_of_ble_eq_true rfl) (fun K hC hE hN => ?_)
  unfold F_X10_isGenerated at h
  refine j_aload_n hC 0 dX10_isGenerated_0 rfl rfl ?_
  obtain ⟨r3, M1, S2, hy, hx5, hk6⟩ := zbx_ex h
  refine j_callXVv (ci := 7) hC hE hN lk_X10_173 dX10_isGenerated_1 (c_X10_requireLanguage l hlt g M S hF hy) [] [] (zFx_kd hF 1 rfl) ⟨_, rfl, by decide, rfl⟩ rfl rfl rfl (zcat (Nat.le_of_ble_eq_true rfl)) (Nat.le_of_ble_eq_true rfl) (Nat.le_of_ble_eq_true rfl) (Nat.le_of_ble_eq_true rfl) (Nat.le_of_ble_eq_true rfl) (fun e he hp7 => ?_) (fun u4 he hp7 => ?_)
  · have hX := hx5 e he
    obtain ⟨e1, e2, e3⟩ := zpr3 (Option.some.inj hX)
    exact ⟨by rw [← e1]; rfl, e2, e3, ⟨(by rw [← e1]; trivial), (by rw [← e3]; exact hp7)⟩⟩
  · have h := hk6 u4 he
    subst he
    have hF8 := hp7
    refine j_aload_n hC 0 dX10_isGenerated_4 rfl rfl ?_
    refine j_getq (q := 11) hC dX10_isGenerated_5 f_X10_29 (zFx_kd hF8 1 rfl) rfl 3 rfl (zFx_rf hF8 1 3 rfl) ?_
    refine j_aload_n hC 0 dX10_isGenerated_8 rfl rfl ?_
    refine j_get hC dX10_isGenerated_9 f_X10_217 (zFx_kd hF8 1 rfl) rfl 8 rfl (fun hg9 => ?_)
    obtain ⟨r10, hy, h⟩ := zb1_ex h
    refine j_callVi (ci := 3) hC hE lk_X10_241 dX10_isGenerated_12 (c_X3_placeOf l hlt g (M1 1 8) hg9 M1 S2 hF8 hy) [.int (zi (M1 1 8))] [] (zFx_kd hF8 11 rfl) ⟨_, rfl, by decide, rfl⟩ rfl rfl rfl (zcat (Nat.le_of_ble_eq_true rfl)) (Nat.le_of_ble_eq_true rfl) (Nat.le_of_ble_eq_true rfl) (Nat.le_of_ble_eq_true rfl) (Nat.le_of_ble_eq_true rfl) (fun hp11 => ?_)
    have hr10 := hp11
    refine j_if_lt hC dX10_isGenerated_15 rfl (w_id hr10) (fun c12 => ?_) (fun c12 => ?_)
    · have h := zt c12 h
      refine j_iconst hC dX10_isGenerated_22 ?_
      obtain ⟨e1, e2, e3⟩ := zpr3 (Option.some.inj h)
      exact j_iret hC hE dX10_isGenerated_23 (w_id kR_0) (zn_z zb01_0) (by rw [← e1]; rfl) e2 e3 ⟨(by rw [← e1]; exact kR_0), (by rw [← e3]; exact hF8)⟩ (Nat.le_of_ble_eq_true rfl) (Nat.le_of_ble_eq_true rfl)
    · have h := zf c12 h
      refine j_iconst hC dX10_isGenerated_18 ?_
      refine j_goto hC dX10_isGenerated_19 rfl ?_
      obtain ⟨e1, e2, e3⟩ := zpr3 (Option.some.inj h)
      exact j_iret hC hE dX10_isGenerated_23 (w_id kR_1) (zn_z zb01_1) (by rw [← e1]; rfl) e2 e3 ⟨(by rw [← e1]; exact kR_1), (by rw [← e3]; exact hF8)⟩ (Nat.le_of_ble_eq_true rfl) (Nat.le_of_ble_eq_true rfl)
set_option maxHeartbeats 4000000 in
set_option maxRecDepth 100000 in
theorem c_X10_requirePlace (l : Launch) (hlt : l.stackTraces = false) (g : zG) (M : zM) (S : zS) (hF : zFx S) {r : Nat ⊕ Int} {M' : zM} {S' : zS} (h : F_X10_requirePlace M S = some (r, M', S')) : zMet l g yX10_requirePlace cX10_requirePlace 2 (some .int) 3 1 6 [zr g 1] M S (zOX zki r) M' S' (zRXi r ∧ zFx S') := by
  refine zMet_of (by decide) hlt [(0, zr g 1)] rfl (Nat.le_of_ble_eq_true rfl) (fun K hC hE hN => ?_)
  unfold F_X10_requirePlace at h
  refine j_aload_n hC 0 dX10_requirePlace_0 rfl rfl ?_
  refine j_getq (q := 11) hC dX10_requirePlace_1 f_X10_29 (zFx_kd hF 1 rfl) rfl 3 rfl (zFx_rf hF 1 3 rfl) ?_
  refine j_aload_n hC 0 dX10_requirePlace_4 rfl rfl ?_
  refine j_get hC dX10_requirePlace_5 f_X10_217 (zFx_kd hF 1 rfl) rfl 8 rfl (fun hg1 => ?_)
  obtain ⟨r2, hy, h⟩ := zb1_ex h
  refine j_callVi (ci := 3) hC hE lk_X10_241 dX10_requirePlace_8 (c_X3_placeOf l hlt g (M 1 8) hg1 M S hF hy) [.int (zi (M 1 8))] [] (zFx_kd hF 11 rfl) ⟨_, rfl, by decide, rfl⟩ rfl rfl rfl (zcat (Nat.le_of_ble_eq_true rfl)) (Nat.le_of_ble_eq_true rfl) (Nat.le_of_ble_eq_true rfl) (Nat.le_of_ble_eq_true rfl) (Nat.le_of_ble_eq_true rfl) (fun hp3 => ?_)
  have hr2 := hp3
  refine j_istore_n hC dX10_requirePlace_11 rfl (Nat.le_of_ble_eq_true rfl) rfl ?_
  refine j_iload_n hC 0 dX10_requirePlace_12 rfl rfl ?_
  refine j_if_ge hC dX10_requirePlace_13 rfl (w_id hr2) (fun c4 => ?_) (fun c4 => ?_)
  · have h := zf c4 h
    refine j_iload_n hC 0 dX10_requirePlace_27 rfl rfl ?_
    obtain ⟨e1, e2, e3⟩ := zpr3 (Option.some.inj h)
    exact j_iret hC hE dX10_requirePlace_28 (w_id hr2) (zn_i _) (by rw [← e1]; rfl) e2 e3 ⟨(by rw [← e1]; exact hr2), (by rw [← e3]; exact hF)⟩ (Nat.le_of_ble_eq_true rfl) (Nat.le_of_ble_eq_true rfl)
  · have h := zt c4 h
    obtain ⟨e1, e2, e3⟩ := zpr3 (Option.some.inj h)
    exact j_throwW hC hE hN thr_X10_4 4 rfl zs_X10_357 dX10_requirePlace_16 dX10_requirePlace_19 dX10_requirePlace_20 dX10_requirePlace_23 dX10_requirePlace_26 (by rw [← e1]; rfl) e2 e3 ⟨(by rw [← e1]; trivial), (by rw [← e3]; exact (zFx_zn hF rfl))⟩ (Nat.le_of_ble_eq_true rfl) (Or.inr ⟨zFx_cnt hF, (Nat.le_of_ble_eq_true rfl)⟩) (Nat.le_of_ble_eq_true rfl) (Nat.le_of_ble_eq_true rfl) (Nat.le_of_ble_eq_true rfl)
set_option maxHeartbeats 4000000 in
set_option maxRecDepth 100000 in
theorem c_X10_rank (l : Launch) (hlt : l.stackTraces = false) (g : zG) (M : zM) (S : zS) (hF : zFx S) {r : Nat ⊕ Int} {M' : zM} {S' : zS} (h : F_X10_rank M S = some (r, M', S')) : zMet l g yX10_rank cX10_rank 1 (some .int) 10 2 12 [zr g 1] M S (zOX zki r) M' S' (zRXi r ∧ zFx S') := by
  refine zMet_of (by decide) hlt [(0, zr g 1)] rfl (Nat.le_of_ble_eq_true rfl) (fun K hC hE hN => ?_)
  unfold F_X10_rank at h
  refine j_aload_n hC 0 dX10_rank_0 rfl rfl ?_
  obtain ⟨r3, M1, S2, hy, hx5, hk6⟩ := zbx_ex h
  refine j_callXVv (ci := 7) hC hE hN lk_X10_173 dX10_rank_1 (c_X10_requireLanguage l hlt g M S hF hy) [] [] (zFx_kd hF 1 rfl) ⟨_, rfl, by decide, rfl⟩ rfl rfl rfl (zcat (Nat.le_of_ble_eq_true rfl)) (Nat.le_of_ble_eq_true rfl) (Nat.le_of_ble_eq_true rfl) (Nat.le_of_ble_eq_true rfl) (Nat.le_of_ble_eq_true rfl) (fun e he hp7 => ?_) (fun u4 he hp7 => ?_)
  · have hX := hx5 e he
    obtain ⟨e1, e2, e3⟩ := zpr3 (Option.some.inj hX)
    exact ⟨by rw [← e1]; rfl, e2, e3, ⟨(by rw [← e1]; trivial), (by rw [← e3]; exact hp7)⟩⟩
  · have h := hk6 u4 he
    subst he
    have hF8 := hp7
    refine j_aload_n hC 0 dX10_rank_4 rfl rfl ?_
    obtain ⟨r12, M10, S11, hy, hx13, hk14⟩ := zbx_ex h
    refine j_callXVi (ci := 7) hC hE hN lk_X10_244 dX10_rank_5 (c_X10_requirePlace l hlt g M1 S2 hF8 hy) [] [] (zFx_kd hF8 1 rfl) ⟨_, rfl, by decide, rfl⟩ rfl rfl rfl (zcat (Nat.le_of_ble_eq_true rfl)) (Nat.le_of_ble_eq_true rfl) (Nat.le_of_ble_eq_true rfl) (Nat.le_of_ble_eq_true rfl) (Nat.le_of_ble_eq_true rfl) (fun e he hp15 => ?_) (fun r9 he hp15 => ?_)
    · have hX := hx13 e he
      obtain ⟨e1, e2, e3⟩ := zpr3 (Option.some.inj hX)
      exact ⟨by rw [← e1]; rfl, e2, e3, ⟨(by rw [← e1]; trivial), (by rw [← e3]; exact hp15.2)⟩⟩
    · have h := hk14 r9 he
      subst he
      dsimp only [zRXi, zRXl] at hp15
      obtain ⟨hr9, hF16⟩ := hp15
      obtain ⟨e1, e2, e3⟩ := zpr3 (Option.some.inj h)
      exact j_iret hC hE dX10_rank_8 (w_id hr9) (zn_i _) (by rw [← e1]; rfl) e2 e3 ⟨(by rw [← e1]; exact hr9), (by rw [← e3]; exact hF16)⟩ (Nat.le_of_ble_eq_true rfl) (Nat.le_of_ble_eq_true rfl)
set_option maxHeartbeats 4000000 in
set_option maxRecDepth 100000 in
theorem c_X10_insertions (l : Launch) (hlt : l.stackTraces = false) (g : zG) (M : zM) (S : zS) (hF : zFx S) {r : Int} {M' : zM} (h : F_X10_insertions M S = some (r, M')) : zMet l g yX10_insertions cX10_insertions 1 (some .int) 8 0 0 [zr g 1] M S (.inl (some (.int (zi r)))) M' S (inR r) := by
  refine zMet_of (by decide) hlt [(0, zr g 1)] rfl (Nat.le_of_ble_eq_true rfl) (fun K hC hE hN => ?_)
  unfold F_X10_insertions at h
  refine j_aload_n hC 0 dX10_insertions_0 rfl rfl ?_
  refine j_getq (q := 5) hC dX10_insertions_1 f_X10_19 (zFx_kd hF 1 rfl) rfl 1 rfl (zFx_rf hF 1 1 rfl) ?_
  refine j_aload_n hC 0 dX10_insertions_4 rfl rfl ?_
  refine j_get hC dX10_insertions_5 f_X10_217 (zFx_kd hF 1 rfl) rfl 8 rfl (fun hg1 => ?_)
  refine j_aload_n hC 0 dX10_insertions_8 rfl rfl ?_
  refine j_getq (q := 40) hC dX10_insertions_9 f_X10_40 (zFx_kd hF 1 rfl) rfl 5 rfl (zFx_rf hF 1 5 rfl) ?_
  obtain ⟨r2, M3, hy, h⟩ := zb2_ex h
  refine j_callVi (ci := 2) hC hE lk_X10_270 dX10_insertions_12 (c_X2_findInsertions l hlt g (M 1 8) 40 hg1 M S hF hy) [.int (zi (M 1 8)), zr g 40] [] (zFx_kd hF 5 rfl) ⟨_, rfl, by decide, rfl⟩ rfl rfl rfl (zcat (Nat.le_of_ble_eq_true rfl)) (Nat.le_of_ble_eq_true rfl) (Nat.le_of_ble_eq_true rfl) (Nat.le_of_ble_eq_true rfl) (Nat.le_of_ble_eq_true rfl) (fun hp4 => ?_)
  have hr2 := hp4
  obtain ⟨e1, e2⟩ := zpr2 (Option.some.inj h)
  exact j_iret hC hE dX10_insertions_15 (w_id hr2) (zn_i _) (by rw [← e1]) e2 rfl (by rw [← e1]; exact hr2) (Nat.le_of_ble_eq_true rfl) (Nat.le_of_ble_eq_true rfl)
set_option maxHeartbeats 4000000 in
set_option maxRecDepth 100000 in
theorem c_X10_makeMove (l : Launch) (hlt : l.stackTraces = false) (g : zG) (v1 : Int) (hv1 : inR v1) (M : zM) (S : zS) (hF : zFx S) {r : Int} {M' : zM} (h : F_X10_makeMove v1 M = some (r, M')) : zMet l g yX10_makeMove cX10_makeMove 2 (some .int) 2 0 0 [zr g 1, .int (zi v1)] M S (.inl (some (.int (zi r)))) M' S (inR r) := by
  refine zMet_of (by decide) hlt [(0, zr g 1), (1, .int (zi v1))] rfl (Nat.le_of_ble_eq_true rfl) (fun K hC hE hN => ?_)
  unfold F_X10_makeMove at h
  refine j_aload_n hC 0 dX10_makeMove_0 rfl rfl ?_
  refine j_iload_n hC 1 dX10_makeMove_1 rfl rfl ?_
  obtain ⟨r1, hy, h⟩ := zb1_ex h
  refine j_callSi hC hE lk_X10_290 dX10_makeMove_2 (c_X4_word l hlt g v1 hv1 M S hy) [.int (zi v1)] [zr g 1] rfl rfl rfl (zcat (Nat.le_of_ble_eq_true rfl)) (Nat.le_of_ble_eq_true rfl) (Nat.le_of_ble_eq_true rfl) (Nat.le_of_ble_eq_true rfl) (Nat.le_of_ble_eq_true rfl) (fun hp2 => ?_)
  have hr1 := hp2
  obtain ⟨M3, eM3, h⟩ := zlet_ex h
  refine j_put hC dX10_makeMove_5 f_X10_217 pF_X10 (zFx_kd hF 1 rfl) (Or.inl rfl) rfl 8 rfl (w_id hr1) hr1 eM3 ?_
  refine j_iload_n hC 1 dX10_makeMove_8 rfl rfl ?_
  obtain ⟨r4, hy, h⟩ := zb1_ex h
  refine j_callSi hC hE lk_X10_255 dX10_makeMove_9 (c_X4_context l hlt g v1 hv1 M3 S hy) [.int (zi v1)] [] rfl rfl rfl (zcat (Nat.le_of_ble_eq_true rfl)) (Nat.le_of_ble_eq_true rfl) (Nat.le_of_ble_eq_true rfl) (Nat.le_of_ble_eq_true rfl) (Nat.le_of_ble_eq_true rfl) (fun hp5 => ?_)
  have hr4 := hp5
  obtain ⟨e1, e2⟩ := zpr2 (Option.some.inj h)
  exact j_iret hC hE dX10_makeMove_12 (w_id hr4) (zn_i _) (by rw [← e1]) e2 rfl (by rw [← e1]; exact hr4) (Nat.le_of_ble_eq_true rfl) (Nat.le_of_ble_eq_true rfl)
set_option maxHeartbeats 4000000 in
set_option maxRecDepth 100000 in
theorem c_X10_insert (l : Launch) (hlt : l.stackTraces = false) (g : zG) (v1 : Int) (hv1 : inR v1) (M : zM) (S : zS) (hF : zFx S) {r : Nat ⊕ Int} {M' : zM} {S' : zS} (h : F_X10_insert v1 M S = some (r, M', S')) : zMet l g yX10_insert cX10_insert 2 (some .int) 8 1 6 [zr g 1, .int (zi v1)] M S (zOX zki r) M' S' (zRXi r ∧ zFx S') := by
  refine zMet_of (by decide) hlt [(0, zr g 1), (1, .int (zi v1))] rfl (Nat.le_of_ble_eq_true rfl) (fun K hC hE hN => ?_)
  unfold F_X10_insert at h
  refine j_aload_n hC 0 dX10_insert_0 rfl rfl ?_
  refine j_iload_n hC 1 dX10_insert_1 rfl rfl ?_
  refine j_aload_n hC 0 dX10_insert_2 rfl rfl ?_
  refine j_getq (q := 5) hC dX10_insert_3 f_X10_19 (zFx_kd hF 1 rfl) rfl 1 rfl (zFx_rf hF 1 1 rfl) ?_
  refine j_aload_n hC 0 dX10_insert_6 rfl rfl ?_
  refine j_get hC dX10_insert_7 f_X10_217 (zFx_kd hF 1 rfl) rfl 8 rfl (fun hg1 => ?_)
  refine j_aload_n hC 0 dX10_insert_10 rfl rfl ?_
  refine j_getq (q := 40) hC dX10_insert_11 f_X10_40 (zFx_kd hF 1 rfl) rfl 5 rfl (zFx_rf hF 1 5 rfl) ?_
  obtain ⟨r2, M3, hy, h⟩ := zb2_ex h
  refine j_callVi (ci := 2) hC hE lk_X10_270 dX10_insert_14 (c_X2_findInsertions l hlt g (M 1 8) 40 hg1 M S hF hy) [.int (zi (M 1 8)), zr g 40] [.int (zi v1), zr g 1] (zFx_kd hF 5 rfl) ⟨_, rfl, by decide, rfl⟩ rfl rfl rfl (zcat (Nat.le_of_ble_eq_true rfl)) (Nat.le_of_ble_eq_true rfl) (Nat.le_of_ble_eq_true rfl) (Nat.le_of_ble_eq_true rfl) (Nat.le_of_ble_eq_true rfl) (fun hp4 => ?_)
  have hr2 := hp4
  obtain ⟨r7, M5, S6, hy, hx9, hk10⟩ := zbx_ex h
  refine j_callXVv (ci := 7) hC hE hN lk_X10_230 dX10_insert_17 (c_X10_requireIndex l hlt g v1 r2 hv1 hr2 M3 S hF hy) [.int (zi v1), .int (zi r2)] [] (zFx_kd hF 1 rfl) ⟨_, rfl, by decide, rfl⟩ rfl rfl rfl (zcat (Nat.le_of_ble_eq_true rfl)) (Nat.le_of_ble_eq_true rfl) (Nat.le_of_ble_eq_true rfl) (Nat.le_of_ble_eq_true rfl) (Nat.le_of_ble_eq_true rfl) (fun e he hp11 => ?_) (fun u8 he hp11 => ?_)
  · have hX := hx9 e he
    obtain ⟨e1, e2, e3⟩ := zpr3 (Option.some.inj hX)
    exact ⟨by rw [← e1]; rfl, e2, e3, ⟨(by rw [← e1]; trivial), (by rw [← e3]; exact hp11)⟩⟩
  · have h := hk10 u8 he
    subst he
    have hF12 := hp11
    refine j_aload_n hC 0 dX10_insert_20 rfl rfl ?_
    refine j_aload_n hC 0 dX10_insert_21 rfl rfl ?_
    refine j_getq (q := 40) hC dX10_insert_22 f_X10_40 (zFx_kd hF12 1 rfl) rfl 5 rfl (zFx_rf hF12 1 5 rfl) ?_
    refine j_iload_n hC 1 dX10_insert_25 rfl rfl ?_
    obtain ⟨r13, hy, h⟩ := zb1_ex h
    refine j_callSi hC hE lk_X10_274 dX10_insert_26 (c_X6_at l hlt g 40 v1 hv1 M5 S6 hF12 hy) [zr g 40, .int (zi v1)] [zr g 1] rfl rfl rfl (zcat (Nat.le_of_ble_eq_true rfl)) (Nat.le_of_ble_eq_true rfl) (Nat.le_of_ble_eq_true rfl) (Nat.le_of_ble_eq_true rfl) (Nat.le_of_ble_eq_true rfl) (fun hp14 => ?_)
    have hr13 := hp14
    obtain ⟨r15, M16, hy, h⟩ := zb2_ex h
    refine j_callVi (ci := 7) hC hE lk_X10_280 dX10_insert_29 (c_X10_makeMove l hlt g r13 hr13 M5 S6 hF12 hy) [.int (zi r13)] [] (zFx_kd hF12 1 rfl) ⟨_, rfl, by decide, rfl⟩ rfl rfl rfl (zcat (Nat.le_of_ble_eq_true rfl)) (Nat.le_of_ble_eq_true rfl) (Nat.le_of_ble_eq_true rfl) (Nat.le_of_ble_eq_true rfl) (Nat.le_of_ble_eq_true rfl) (fun hp17 => ?_)
    have hr15 := hp17
    obtain ⟨e1, e2, e3⟩ := zpr3 (Option.some.inj h)
    exact j_iret hC hE dX10_insert_32 (w_id hr15) (zn_i _) (by rw [← e1]; rfl) e2 e3 ⟨(by rw [← e1]; exact hr15), (by rw [← e3]; exact hF12)⟩ (Nat.le_of_ble_eq_true rfl) (Nat.le_of_ble_eq_true rfl)
set_option maxHeartbeats 4000000 in
set_option maxRecDepth 100000 in
theorem c_X10_requireSlot (l : Launch) (hlt : l.stackTraces = false) (g : zG) (v1 : Int) (hv1 : inR v1) (M : zM) (S : zS) (hF : zFx S) {r : Nat ⊕ Nat} {M' : zM} {S' : zS} (h : F_X10_requireSlot v1 M S = some (r, M', S')) : zMet l g yX10_requireSlot cX10_requireSlot 2 (some (.object "ContextualGrammarLab$Slot")) 1 1 6 [zr g 1, .int (zi v1)] M S (zOX (zkr g) r) M' S' (zFx S') := by
  refine zMet_of (by decide) hlt [(0, zr g 1), (1, .int (zi v1))] rfl (Nat.le_of_ble_eq_true rfl) (fun K hC hE hN => ?_)
  unfold F_X10_requireSlot at h
  have J_13 : ∀ (M : zM) (S : zS) (hF : zFx S) (_ : F_X10_requireSlot_J13 M S = some (r, M', S')), zJ K g 0 0 13 2 [] [] M S := by
    intro M S hF h
    unfold F_X10_requireSlot_J13 at h
    obtain ⟨e1, e2, e3⟩ := zpr3 (Option.some.inj h)
    exact j_throwW hC hE hN thr_X10_2 2 rfl zs_X10_359 dX10_requireSlot_13 dX10_requireSlot_16 dX10_requireSlot_17 dX10_requireSlot_20 dX10_requireSlot_23 (by rw [← e1]; rfl) e2 e3 (by rw [← e3]; exact (zFx_zn hF rfl)) (Nat.le_of_ble_eq_true rfl) (Or.inr ⟨zFx_cnt hF, (Nat.le_of_ble_eq_true rfl)⟩) (Nat.le_of_ble_eq_true rfl) (Nat.le_of_ble_eq_true rfl) (Nat.le_of_ble_eq_true rfl)
  refine j_iload_n hC 1 dX10_requireSlot_0 rfl rfl ?_
  refine j_if_lt hC dX10_requireSlot_1 rfl (w_id hv1) (fun c1 => ?_) (fun c1 => ?_)
  · have h := zt c1 h
    refine j_sub [] rfl ?_
    exact J_13 M S hF h
  · have h := zf c1 h
    refine j_iload_n hC 1 dX10_requireSlot_4 rfl rfl ?_
    refine j_aload_n hC 0 dX10_requireSlot_5 rfl rfl ?_
    refine j_getq (q := 41) hC dX10_requireSlot_6 f_X10_47 (zFx_kd hF 1 rfl) rfl 6 rfl (zFx_rf hF 1 6 rfl) ?_
    refine j_alen (k := 26) (n := 3) hC dX10_requireSlot_9 (zFx_kd hF 41 rfl) (Nat.le_of_ble_eq_true rfl) (Nat.le_of_ble_eq_true rfl) (zFx_ln hF 41 rfl) (fun _ => ?_)
    refine j_icmp_lt hC dX10_requireSlot_10 rfl (w_id hv1) (w_id kR_3) (fun c2 => ?_) (fun c2 => ?_)
    · have h := zt c2 h
      refine j_aload_n hC 0 dX10_requireSlot_24 rfl rfl ?_
      refine j_getq (q := 41) hC dX10_requireSlot_25 f_X10_47 (zFx_kd hF 1 rfl) rfl 6 rfl (zFx_rf hF 1 6 rfl) ?_
      refine j_iload_n hC 1 dX10_requireSlot_28 rfl rfl ?_
      obtain ⟨c3, h⟩ := zchk_ex h
      refine j_aald (k := 26) (n := 3) hC dX10_requireSlot_29 (w_id hv1) (zFx_kd hF 41 rfl) (Nat.le_of_ble_eq_true rfl) (Nat.le_of_ble_eq_true rfl) (zFx_ln hF 41 rfl) c3.1 c3.2 ?_
      obtain ⟨e1, e2, e3⟩ := zpr3 (Option.some.inj h)
      exact j_aret hC hE dX10_requireSlot_30 (by rw [← e1]; rfl) e2 e3 (by rw [← e3]; exact hF) (Nat.le_of_ble_eq_true rfl) (Nat.le_of_ble_eq_true rfl)
    · have h := zf c2 h
      refine j_sub [] rfl ?_
      exact J_13 M S hF h
set_option maxHeartbeats 4000000 in
set_option maxRecDepth 100000 in
theorem c_X10_allocate (l : Launch) (hlt : l.stackTraces = false) (g : zG) (v1 : Int) (v2 : Int) (v3 : Int) (hv1 : inR v1) (hv2 : inR v2) (hv3 : inR v3) (M : zM) (S : zS) (hF : zFx S) {r : Nat ⊕ Unit} {M' : zM} {S' : zS} (h : F_X10_allocate v1 v2 v3 M S = some (r, M', S')) : zMet l g yX10_allocate cX10_allocate 5 none 3 2 12 [zr g 1, .int (zi v1), .int (zi v2), .int (zi v3)] M S (zOX zkv r) M' S' (zFx S') := by
  refine zMet_of (by decide) hlt [(0, zr g 1), (1, .int (zi v1)), (2, .int (zi v2)), (3, .int (zi v3))] rfl (Nat.le_of_ble_eq_true rfl) (fun K hC hE hN => ?_)
  unfold F_X10_allocate at h
  have J_26 : ∀ (M : zM) (S : zS) (hF : zFx S) (_ : F_X10_allocate_J26 M S = some (r, M', S')), zJ K g 1 6 26 5 [] [] M S := by
    intro M S hF h
    unfold F_X10_allocate_J26 at h
    obtain ⟨e1, e2, e3⟩ := zpr3 (Option.some.inj h)
    exact j_throwW hC hE hN thr_X10_1 1 rfl zs_X10_306 dX10_allocate_26 dX10_allocate_29 dX10_allocate_30 dX10_allocate_33 dX10_allocate_36 (by rw [← e1]; rfl) e2 e3 (by rw [← e3]; exact (zFx_zn hF rfl)) (Nat.le_of_ble_eq_true rfl) (Or.inr ⟨zFx_cnt hF, (Nat.le_of_ble_eq_true rfl)⟩) (Nat.le_of_ble_eq_true rfl) (Nat.le_of_ble_eq_true rfl) (Nat.le_of_ble_eq_true rfl)
  refine j_aload_n hC 0 dX10_allocate_0 rfl rfl ?_
  refine j_iload_n hC 1 dX10_allocate_1 rfl rfl ?_
  obtain ⟨r4, M2, S3, hy, hx5, hk6⟩ := zbx_ex h
  refine j_callXVr (ci := 7) hC hE hN lk_X10_302 dX10_allocate_2 (c_X10_requireSlot l hlt g v1 hv1 M S hF hy) [.int (zi v1)] [] (zFx_kd hF 1 rfl) ⟨_, rfl, by decide, rfl⟩ rfl rfl rfl (zcat (Nat.le_of_ble_eq_true rfl)) (Nat.le_of_ble_eq_true rfl) (Nat.le_of_ble_eq_true rfl) (Nat.le_of_ble_eq_true rfl) (Nat.le_of_ble_eq_true rfl) (fun e he hp7 => ?_) (fun r1 he hp7 => ?_)
  · have hX := hx5 e he
    obtain ⟨e1, e2, e3⟩ := zpr3 (Option.some.inj hX)
    exact ⟨by rw [← e1]; rfl, e2, e3, (by rw [← e3]; exact hp7)⟩
  · have h := hk6 r1 he
    subst he
    have hF8 := hp7
    refine j_astore hC dX10_allocate_5 (Nat.le_of_ble_eq_true rfl) rfl ?_
    refine j_iload_n hC 3 dX10_allocate_7 rfl rfl ?_
    refine j_if_lt hC dX10_allocate_8 rfl (w_id hv2) (fun c9 => ?_) (fun c9 => ?_)
    · have h := zt c9 h
      refine j_sub [] rfl ?_
      exact J_26 M2 S3 hF8 h
    · have h := zf c9 h
      refine j_iload_n hC 3 dX10_allocate_11 rfl rfl ?_
      refine j_iconst hC dX10_allocate_12 ?_
      refine j_icmp_gt hC dX10_allocate_13 rfl (w_id hv2) (w_id kR_2) (fun c10 => ?_) (fun c10 => ?_)
      · have h := zt c10 h
        refine j_sub [] rfl ?_
        exact J_26 M2 S3 hF8 h
      · have h := zf c10 h
        refine j_iload_n hC 4 dX10_allocate_16 rfl rfl ?_
        refine j_if_lt hC dX10_allocate_17 rfl (w_id hv3) (fun c11 => ?_) (fun c11 => ?_)
        · have h := zt c11 h
          refine j_sub [] rfl ?_
          exact J_26 M2 S3 hF8 h
        · have h := zf c11 h
          refine j_iload_n hC 4 dX10_allocate_20 rfl rfl ?_
          refine j_bipush hC dX10_allocate_21 rfl ?_
          refine j_icmp_le hC dX10_allocate_23 rfl (w_id hv3) (w_id kR_20) (fun c12 => ?_) (fun c12 => ?_)
          · have h := zf c12 h
            refine j_aload hC 0 dX10_allocate_37 rfl ?_
            refine j_iload_n hC 3 dX10_allocate_39 rfl rfl ?_
            refine j_iload_n hC 4 dX10_allocate_40 rfl rfl ?_
            obtain ⟨hk, h⟩ := zchk_ex h
            have hk13 := hk
            obtain ⟨M14, hy, h⟩ := zb1_ex h
            refine j_callVv (ci := 6) hC hE lk_X10_308 dX10_allocate_41 (c_X8_renew l hlt g r1 v2 v3 hv2 hv3 M2 S3 hF8 hy) [.int (zi v2), .int (zi v3)] [] hk13 ⟨_, rfl, by decide, rfl⟩ rfl rfl rfl (zcat (Nat.le_of_ble_eq_true rfl)) (Nat.le_of_ble_eq_true rfl) (Nat.le_of_ble_eq_true rfl) (Nat.le_of_ble_eq_true rfl) (Nat.le_of_ble_eq_true rfl) (fun hp15 => ?_)
            obtain ⟨e1, e2, e3⟩ := zpr3 (Option.some.inj h)
            exact j_vret hC hE dX10_allocate_44 (by rw [← e1]; rfl) e2 e3 (by rw [← e3]; exact hF8) (Nat.le_of_ble_eq_true rfl) (Nat.le_of_ble_eq_true rfl)
          · have h := zt c12 h
            refine j_sub [] rfl ?_
            exact J_26 M2 S3 hF8 h
set_option maxHeartbeats 4000000 in
set_option maxRecDepth 100000 in
theorem c_X10_requireFilled (l : Launch) (hlt : l.stackTraces = false) (g : zG) (v1 : Nat) (M : zM) (S : zS) (hF : zFx S) {r : Nat ⊕ Unit} {M' : zM} {S' : zS} (h : F_X10_requireFilled v1 M S = some (r, M', S')) : zMet l g yX10_requireFilled cX10_requireFilled 2 none 1 1 6 [zr g 1, zr g v1] M S (zOX zkv r) M' S' (zFx S') := by
  refine zMet_of (by decide) hlt [(0, zr g 1), (1, zr g v1)] (by simp only [lv_args, zr_cat, zc_i, zc_l, zc_d, zc_r] <;> rfl) (by rw [zsl_len]; simp only [List.map_cons, List.map_nil, zr_cat, zc_i, zc_l, zc_d, zc_r, List.sum_cons, List.sum_nil] <;> decide) (fun K hC hE hN => ?_)
  unfold F_X10_requireFilled at h
  refine j_aload_n hC 1 dX10_requireFilled_0 rfl rfl ?_
  obtain ⟨hk, h⟩ := zchk_ex h
  have hk1 := hk
  refine j_get hC dX10_requireFilled_1 f_X10_322 hk1 rfl 1 rfl (fun hg2 => ?_)
  refine j_iconst hC dX10_requireFilled_4 ?_
  refine j_icmp_ne hC dX10_requireFilled_5 rfl (w_id hg2) (w_id kR_m1) (fun c3 => ?_) (fun c3 => ?_)
  · have h := zf c3 h
    obtain ⟨e1, e2, e3⟩ := zpr3 (Option.some.inj h)
    exact j_vret hC hE dX10_requireFilled_19 (by rw [← e1]; rfl) e2 e3 (by rw [← e3]; exact hF) (Nat.le_of_ble_eq_true rfl) (Nat.le_of_ble_eq_true rfl)
  · have h := zt c3 h
    obtain ⟨e1, e2, e3⟩ := zpr3 (Option.some.inj h)
    exact j_throwW hC hE hN thr_X10_0 0 rfl zs_X10_361 dX10_requireFilled_8 dX10_requireFilled_11 dX10_requireFilled_12 dX10_requireFilled_15 dX10_requireFilled_18 (by rw [← e1]; rfl) e2 e3 (by rw [← e3]; exact (zFx_zn hF rfl)) (Nat.le_of_ble_eq_true rfl) (Or.inr ⟨zFx_cnt hF, (Nat.le_of_ble_eq_true rfl)⟩) (Nat.le_of_ble_eq_true rfl) (Nat.le_of_ble_eq_true rfl) (Nat.le_of_ble_eq_true rfl)
set_option maxHeartbeats 4000000 in
set_option maxRecDepth 100000 in
theorem c_X10_store (l : Launch) (hlt : l.stackTraces = false) (g : zG) (v1 : Int) (v2 : Int) (v3 : Int) (hv1 : inR v1) (hv2 : inR v2) (hv3 : inR v3) (M : zM) (S : zS) (hF : zFx S) {r : Nat ⊕ Unit} {M' : zM} {S' : zS} (h : F_X10_store v1 v2 v3 M S = some (r, M', S')) : zMet l g yX10_store cX10_store 5 none 3 3 18 [zr g 1, .int (zi v1), .int (zi v2), .int (zi v3)] M S (zOX zkv r) M' S' (zFx S') := by
  refine zMet_of (by decide) hlt [(0, zr g 1), (1, .int (zi v1)), (2, .int (zi v2)), (3, .int (zi v3))] rfl (Nat.le_of_ble_eq_true rfl) (fun K hC hE hN => ?_)
  unfold F_X10_store at h
  refine j_aload_n hC 0 dX10_store_0 rfl rfl ?_
  refine j_iload_n hC 1 dX10_store_1 rfl rfl ?_
  obtain ⟨r4, M2, S3, hy, hx5, hk6⟩ := zbx_ex h
  refine j_callXVr (ci := 7) hC hE hN lk_X10_302 dX10_store_2 (c_X10_requireSlot l hlt g v1 hv1 M S hF hy) [.int (zi v1)] [] (zFx_kd hF 1 rfl) ⟨_, rfl, by decide, rfl⟩ rfl rfl rfl (zcat (Nat.le_of_ble_eq_true rfl)) (Nat.le_of_ble_eq_true rfl) (Nat.le_of_ble_eq_true rfl) (Nat.le_of_ble_eq_true rfl) (Nat.le_of_ble_eq_true rfl) (fun e he hp7 => ?_) (fun r1 he hp7 => ?_)
  · have hX := hx5 e he
    obtain ⟨e1, e2, e3⟩ := zpr3 (Option.some.inj hX)
    exact ⟨by rw [← e1]; rfl, e2, e3, (by rw [← e3]; exact hp7)⟩
  · have h := hk6 r1 he
    subst he
    have hF8 := hp7
    refine j_astore hC dX10_store_5 (Nat.le_of_ble_eq_true rfl) rfl ?_
    refine j_aload_n hC 1 dX10_store_7 rfl rfl ?_
    refine j_aload hC 0 dX10_store_8 rfl ?_
    obtain ⟨r11, M9, S10, hy, hx13, hk14⟩ := zbx_ex h
    refine j_callXVv (ci := 7) hC hE hN lk_X10_311 dX10_store_10 (c_X10_requireFilled l hlt g r1 M2 S3 hF8 hy) [zr g r1] [] (zFx_kd hF8 1 rfl) ⟨_, rfl, by decide, rfl⟩ rfl rfl rfl (zcat (Nat.le_of_ble_eq_true rfl)) (Nat.le_of_ble_eq_true rfl) (Nat.le_of_ble_eq_true rfl) (Nat.le_of_ble_eq_true rfl) (Nat.le_of_ble_eq_true rfl) (fun e he hp15 => ?_) (fun u12 he hp15 => ?_)
    · have hX := hx13 e he
      obtain ⟨e1, e2, e3⟩ := zpr3 (Option.some.inj hX)
      exact ⟨by rw [← e1]; rfl, e2, e3, (by rw [← e3]; exact hp15)⟩
    · have h := hk14 u12 he
      subst he
      have hF16 := hp15
      refine j_aload_n hC 1 dX10_store_13 rfl rfl ?_
      refine j_iload_n hC 3 dX10_store_14 rfl rfl ?_
      refine j_aload hC 0 dX10_store_15 rfl ?_
      obtain ⟨hk, h⟩ := zchk_ex h
      have hk17 := hk
      refine j_get hC dX10_store_17 f_X10_315 hk17 rfl 2 rfl (fun hg18 => ?_)
      obtain ⟨r21, M19, S20, hy, hx23, hk24⟩ := zbx_ex h
      refine j_callXVv (ci := 7) hC hE hN lk_X10_230 dX10_store_20 (c_X10_requireIndex l hlt g v2 (M9 r1 2) hv2 hg18 M9 S10 hF16 hy) [.int (zi v2), .int (zi (M9 r1 2))] [] (zFx_kd hF16 1 rfl) ⟨_, rfl, by decide, rfl⟩ rfl rfl rfl (zcat (Nat.le_of_ble_eq_true rfl)) (Nat.le_of_ble_eq_true rfl) (Nat.le_of_ble_eq_true rfl) (Nat.le_of_ble_eq_true rfl) (Nat.le_of_ble_eq_true rfl) (fun e he hp25 => ?_) (fun u22 he hp25 => ?_)
      · have hX := hx23 e he
        obtain ⟨e1, e2, e3⟩ := zpr3 (Option.some.inj hX)
        exact ⟨by rw [← e1]; rfl, e2, e3, (by rw [← e3]; exact hp25)⟩
      · have h := hk24 u22 he
        subst he
        have hF26 := hp25
        refine j_aload hC 0 dX10_store_23 rfl ?_
        refine j_iload_n hC 3 dX10_store_25 rfl rfl ?_
        refine j_iload_n hC 4 dX10_store_26 rfl rfl ?_
        obtain ⟨hk, h⟩ := zchk_ex h
        have hk27 := hk
        obtain ⟨M28, hy, h⟩ := zb1_ex h
        refine j_callVv (ci := 6) hC hE lk_X10_316 dX10_store_27 (c_X8_setNarrowed l hlt g r1 v2 v3 hv2 hv3 M19 S20 hF26 hy) [.int (zi v2), .int (zi v3)] [] hk27 ⟨_, rfl, by decide, rfl⟩ rfl rfl rfl (zcat (Nat.le_of_ble_eq_true rfl)) (Nat.le_of_ble_eq_true rfl) (Nat.le_of_ble_eq_true rfl) (Nat.le_of_ble_eq_true rfl) (Nat.le_of_ble_eq_true rfl) (fun hp29 => ?_)
        obtain ⟨e1, e2, e3⟩ := zpr3 (Option.some.inj h)
        exact j_vret hC hE dX10_store_30 (by rw [← e1]; rfl) e2 e3 (by rw [← e3]; exact hF26) (Nat.le_of_ble_eq_true rfl) (Nat.le_of_ble_eq_true rfl)
set_option maxHeartbeats 4000000 in
set_option maxRecDepth 100000 in
theorem c_X10_compareSizes (l : Launch) (hlt : l.stackTraces = false) (g : zG) (v1 : Int) (hv1 : inR v1) (M : zM) (S : zS) (hF : zFx S) {r : Nat ⊕ Int} {M' : zM} {S' : zS} (h : F_X10_compareSizes v1 M S = some (r, M', S')) : zMet l g yX10_compareSizes cX10_compareSizes 4 (some .int) 10 4 24 [zr g 1, .int (zi v1)] M S (zOX zki r) M' S' (zRXi r ∧ zFx S') := by
  refine zMet_of (by decide) hlt [(0, zr g 1), (1, .int (zi v1))] rfl (Nat.le_of_ble_eq_true rfl) (fun K hC hE hN => ?_)
  unfold F_X10_compareSizes at h
  have J_83 : ∀ (M : zM) (S : zS) (hF : zFx S) (_ : F_X10_compareSizes_J83 M S = some (r, M', S')), zJ K g 3 18 83 4 [] [] M S := by
    intro M S hF h
    unfold F_X10_compareSizes_J83 at h
    refine j_iconst hC dX10_compareSizes_83 ?_
    obtain ⟨e1, e2, e3⟩ := zpr3 (Option.some.inj h)
    exact j_iret hC hE dX10_compareSizes_84 (w_id kR_m1) (zn_i _) (by rw [← e1]; rfl) e2 e3 ⟨(by rw [← e1]; exact kR_m1), (by rw [← e3]; exact hF)⟩ (Nat.le_of_ble_eq_true rfl) (Nat.le_of_ble_eq_true rfl)
  have J_75 : ∀ (v3 : Int) (hv3 : inR v3) (M : zM) (S : zS) (hF : zFx S) (_ : F_X10_compareSizes_J75 v3 M S = some (r, M', S')), zJ K g 3 18 75 4 [(3, .int (zi v3))] [] M S := by
    intro v3 hv3 M S hF h
    unfold F_X10_compareSizes_J75 at h
    refine j_iload_n hC 0 dX10_compareSizes_75 rfl rfl ?_
    obtain ⟨e1, e2, e3⟩ := zpr3 (Option.some.inj h)
    exact j_iret hC hE dX10_compareSizes_76 (w_id hv3) (zn_i _) (by rw [← e1]; rfl) e2 e3 ⟨(by rw [← e1]; exact hv3), (by rw [← e3]; exact hF)⟩ (Nat.le_of_ble_eq_true rfl) (Nat.le_of_ble_eq_true rfl)
  have L_36 : ∀ (v2 : Nat) (v3 : Int) (hv3 : inR v3) (M : zM) (S : zS) (hF : zFx S) (_ : F_X10_compareSizes_L36 v2 v3 M S = some (r, M', S')), zJ K g 3 18 36 4 [(0, zr g 1), (2, zr g v2), (3, .int (zi v3))] [] M S := by
    intro v2 v3 hv3 M S hF h
    unfold F_X10_compareSizes_L36 at h
    obtain ⟨ex36, hl, hd36⟩ := zb1_ex h
    obtain ⟨bd36, ebd⟩ : ∃ f, f = (fun (s : Int × zM × zS) => F_X10_compareSizes_B36 v2 s.1 s.2.1 s.2.2) := ⟨_, rfl⟩
    rw [← ebd] at hl
    have main : ∀ (n36 : Nat) (v3 : Int) (hv3 : inR v3) (M : zM) (S : zS) (hF : zFx S) (_ : zloop bd36 n36 (v3, M, S) = some ex36), zJ K g 3 18 36 4 [(0, zr g 1), (2, zr g v2), (3, .int (zi v3))] [] M S := by
      intro n36
      induction n36 with
      | zero => intro v3 hv3 M S hF hl; exact zloop_0 hl
      | succ n36 ih36 =>
        intro v3 hv3 M S hF hl
        obtain ⟨o, h, hT⟩ := zloop_ex hl
        have h : F_X10_compareSizes_B36 v2 v3 M S = some o := by rw [ebd] at h; exact h
        unfold F_X10_compareSizes_B36 at h
        refine j_iload_n hC 2 dX10_compareSizes_36 rfl rfl ?_
        refine j_aload_n hC 0 dX10_compareSizes_37 rfl rfl ?_
        refine j_getq (q := 5) hC dX10_compareSizes_38 f_X10_19 (zFx_kd hF 1 rfl) rfl 1 rfl (zFx_rf hF 1 1 rfl) ?_
        refine j_get hC dX10_compareSizes_41 f_X10_150 (zFx_kd hF 5 rfl) rfl 5 rfl (fun hg1 => ?_)
        refine j_icmp_gt hC dX10_compareSizes_44 rfl (w_id hv3) (w_id hg1) (fun c2 => ?_) (fun c2 => ?_)
        · have h := zt c2 h
          obtain rfl := Option.some.inj h
          have hx36 := hd36
          rw [← show _ = ex36 from hT] at hx36
          dsimp only [Sum.elim] at hx36
          refine j_sub [] rfl ?_
          exact J_83 M S hF hx36
        · have h := zf c2 h
          refine j_aload_n hC 0 dX10_compareSizes_47 rfl rfl ?_
          refine j_iload_n hC 2 dX10_compareSizes_48 rfl rfl ?_
          refine j_aload_n hC 1 dX10_compareSizes_49 rfl rfl ?_
          obtain ⟨hk, h⟩ := zchk_ex h
          have hk3 := hk
          refine j_get hC dX10_compareSizes_50 f_X10_315 hk3 rfl 2 rfl (fun hg4 => ?_)
          obtain ⟨r7, M5, S6, hy, hx9, hk10⟩ := zbx_ex h
          rcases r7 with e9 | u8
          · refine j_callXVv (ci := 7) hC hE hN lk_X10_230 dX10_compareSizes_53 (c_X10_requireIndex l hlt g v3 (M v2 2) hv3 hg4 M S hF hy) [.int (zi v3), .int (zi (M v2 2))] [] (zFx_kd hF 1 rfl) ⟨_, rfl, by decide, rfl⟩ rfl rfl rfl (zcat (Nat.le_of_ble_eq_true rfl)) (Nat.le_of_ble_eq_true rfl) (Nat.le_of_ble_eq_true rfl) (Nat.le_of_ble_eq_true rfl) (Nat.le_of_ble_eq_true rfl) (fun e he hp11 => ?_) (fun u he hp11 => by cases he)
            obtain rfl := Option.some.inj (hx9 e he)
            have hx36 := hd36
            rw [← show _ = ex36 from hT] at hx36
            dsimp only [Sum.elim] at hx36
            have hX := hx36
            obtain ⟨e1, e2, e3⟩ := zpr3 (Option.some.inj hX)
            exact ⟨by rw [← e1]; rfl, e2, e3, ⟨(by rw [← e1]; trivial), (by rw [← e3]; exact hp11)⟩⟩
          · have h := hk10 u8 rfl
            refine j_callVv (ci := 7) hC hE lk_X10_230 dX10_compareSizes_53 (cN_X10_requireIndex l hlt g v3 (M v2 2) hv3 hg4 M S hF hy) [.int (zi v3), .int (zi (M v2 2))] [] (zFx_kd hF 1 rfl) ⟨_, rfl, by decide, rfl⟩ rfl rfl rfl (zcat (Nat.le_of_ble_eq_true rfl)) (Nat.le_of_ble_eq_true rfl) (Nat.le_of_ble_eq_true rfl) (Nat.le_of_ble_eq_true rfl) (Nat.le_of_ble_eq_true rfl) (fun hp11 => ?_)
            have hF12 := hp11
            refine j_aload_n hC 1 dX10_compareSizes_56 rfl rfl ?_
            obtain ⟨hk, h⟩ := zchk_ex h
            have hk13 := hk
            refine j_getq hC dX10_compareSizes_57 f_X10_319 hk13 rfl 0 rfl rfl ?_
            refine j_iload_n hC 2 dX10_compareSizes_60 rfl rfl ?_
            obtain ⟨r14, hy, h⟩ := zb1_ex h
            refine j_callSi hC hE lk_X10_274 dX10_compareSizes_61 (c_X6_at l hlt g (zrf S6 v2 0) v3 hv3 M5 S6 hF12 hy) [zr g (zrf S6 v2 0), .int (zi v3)] [] rfl rfl rfl (zcat (Nat.le_of_ble_eq_true rfl)) (Nat.le_of_ble_eq_true rfl) (Nat.le_of_ble_eq_true rfl) (Nat.le_of_ble_eq_true rfl) (Nat.le_of_ble_eq_true rfl) (fun hp15 => ?_)
            have hr14 := hp15
            refine j_aload_n hC 0 dX10_compareSizes_64 rfl rfl ?_
            refine j_getq (q := 11) hC dX10_compareSizes_65 f_X10_29 (zFx_kd hF12 1 rfl) rfl 3 rfl (zFx_rf hF12 1 3 rfl) ?_
            refine j_iload_n hC 2 dX10_compareSizes_68 rfl rfl ?_
            obtain ⟨r16, hy, h⟩ := zb1_ex h
            refine j_callVi (ci := 3) hC hE lk_X10_182 dX10_compareSizes_69 (c_X3_wordsOfLength l hlt g v3 hv3 M5 S6 hF12 hy) [.int (zi v3)] [.int (zi r14)] (zFx_kd hF12 11 rfl) ⟨_, rfl, by decide, rfl⟩ rfl rfl rfl (zcat (Nat.le_of_ble_eq_true rfl)) (Nat.le_of_ble_eq_true rfl) (Nat.le_of_ble_eq_true rfl) (Nat.le_of_ble_eq_true rfl) (Nat.le_of_ble_eq_true rfl) (fun hp17 => ?_)
            have hr16 := hp17
            refine j_icmp_eq hC dX10_compareSizes_72 rfl (w_id hr14) (w_id hr16) (fun c18 => ?_) (fun c18 => ?_)
            · have h := zt c18 h
              obtain ⟨x19, ex19, h⟩ := zlet_ex h
              have hx19 : inR x19 := by rw [ex19]; exact inR_w _
              refine j_iinc (lv1 := [(3, .int (zi x19)), (0, zr g 1), (2, zr g v2)]) hC 2 dX10_compareSizes_77 rfl ex19 (Nat.le_of_ble_eq_true rfl) (by simp only [List.filter_cons, List.filter_nil, zr_cat, zc_i, zc_l, zc_d, zc_r] <;> first | rfl | simp [zr_cat]) ?_
              refine j_goto hC dX10_compareSizes_80 rfl ?_
              obtain rfl := Option.some.inj h
              refine j_sub [1, 2, 0] rfl ?_
              exact ih36 x19 hx19 M5 S6 hF12 hT
            · have h := zf c18 h
              obtain rfl := Option.some.inj h
              have hx36 := hd36
              rw [← show _ = ex36 from hT] at hx36
              dsimp only [Sum.elim] at hx36
              refine j_sub [2] rfl ?_
              exact J_75 v3 hv3 M5 S6 hF12 hx36
    exact main zN v3 hv3 M S hF hl
  refine j_aload_n hC 0 dX10_compareSizes_0 rfl rfl ?_
  refine j_iload_n hC 1 dX10_compareSizes_1 rfl rfl ?_
  obtain ⟨r23, M21, S22, hy, hx24, hk25⟩ := zbx_ex h
  refine j_callXVr (ci := 7) hC hE hN lk_X10_302 dX10_compareSizes_2 (c_X10_requireSlot l hlt g v1 hv1 M S hF hy) [.int (zi v1)] [] (zFx_kd hF 1 rfl) ⟨_, rfl, by decide, rfl⟩ rfl rfl rfl (zcat (Nat.le_of_ble_eq_true rfl)) (Nat.le_of_ble_eq_true rfl) (Nat.le_of_ble_eq_true rfl) (Nat.le_of_ble_eq_true rfl) (Nat.le_of_ble_eq_true rfl) (fun e he hp26 => ?_) (fun r20 he hp26 => ?_)
  · have hX := hx24 e he
    obtain ⟨e1, e2, e3⟩ := zpr3 (Option.some.inj hX)
    exact ⟨by rw [← e1]; rfl, e2, e3, ⟨(by rw [← e1]; trivial), (by rw [← e3]; exact hp26)⟩⟩
  · have h := hk25 r20 he
    subst he
    have hF27 := hp26
    refine j_astore_n hC dX10_compareSizes_5 rfl (Nat.le_of_ble_eq_true rfl) rfl ?_
    refine j_aload_n hC 1 dX10_compareSizes_6 rfl rfl ?_
    obtain ⟨r30, M28, S29, hy, hx32, hk33⟩ := zbx_ex h
    refine j_callXVv (ci := 7) hC hE hN lk_X10_173 dX10_compareSizes_7 (c_X10_requireLanguage l hlt g M21 S22 hF27 hy) [] [] (zFx_kd hF27 1 rfl) ⟨_, rfl, by decide, rfl⟩ rfl rfl rfl (zcat (Nat.le_of_ble_eq_true rfl)) (Nat.le_of_ble_eq_true rfl) (Nat.le_of_ble_eq_true rfl) (Nat.le_of_ble_eq_true rfl) (Nat.le_of_ble_eq_true rfl) (fun e he hp34 => ?_) (fun u31 he hp34 => ?_)
    · have hX := hx32 e he
      obtain ⟨e1, e2, e3⟩ := zpr3 (Option.some.inj hX)
      exact ⟨by rw [← e1]; rfl, e2, e3, ⟨(by rw [← e1]; trivial), (by rw [← e3]; exact hp34)⟩⟩
    · have h := hk33 u31 he
      subst he
      have hF35 := hp34
      refine j_aload_n hC 1 dX10_compareSizes_10 rfl rfl ?_
      refine j_aload_n hC 0 dX10_compareSizes_11 rfl rfl ?_
      obtain ⟨r38, M36, S37, hy, hx40, hk41⟩ := zbx_ex h
      refine j_callXVv (ci := 7) hC hE hN lk_X10_311 dX10_compareSizes_12 (c_X10_requireFilled l hlt g r20 M28 S29 hF35 hy) [zr g r20] [] (zFx_kd hF35 1 rfl) ⟨_, rfl, by decide, rfl⟩ rfl rfl rfl (zcat (Nat.le_of_ble_eq_true rfl)) (Nat.le_of_ble_eq_true rfl) (Nat.le_of_ble_eq_true rfl) (Nat.le_of_ble_eq_true rfl) (Nat.le_of_ble_eq_true rfl) (fun e he hp42 => ?_) (fun u39 he hp42 => ?_)
      · have hX := hx40 e he
        obtain ⟨e1, e2, e3⟩ := zpr3 (Option.some.inj hX)
        exact ⟨by rw [← e1]; rfl, e2, e3, ⟨(by rw [← e1]; trivial), (by rw [← e3]; exact hp42)⟩⟩
      · have h := hk41 u39 he
        subst he
        have hF43 := hp42
        refine j_aload_n hC 0 dX10_compareSizes_15 rfl rfl ?_
        obtain ⟨hk, h⟩ := zchk_ex h
        have hk44 := hk
        refine j_get hC dX10_compareSizes_16 f_X10_322 hk44 rfl 1 rfl (fun hg45 => ?_)
        refine j_iconst hC dX10_compareSizes_19 ?_
        refine j_icmp_eq hC dX10_compareSizes_20 rfl (w_id hg45) (w_id kR_2) (fun c46 => ?_) (fun c46 => ?_)
        · have h := zt c46 h
          refine j_iconst hC dX10_compareSizes_34 ?_
          refine j_istore_n (lv1 := [(3, .int (zi 0)), (2, zr g r20), (0, zr g 1), (1, .int (zi v1))]) hC dX10_compareSizes_35 rfl (Nat.le_of_ble_eq_true rfl) (by simp only [List.filter_cons, List.filter_nil, zr_cat, zc_i, zc_l, zc_d, zc_r] <;> first | rfl | simp [zr_cat]) ?_
          refine j_sub [2, 1, 0] rfl ?_
          exact L_36 r20 0 kR_0 M36 S37 hF43 h
        · have h := zf c46 h
          obtain ⟨e1, e2, e3⟩ := zpr3 (Option.some.inj h)
          exact j_throwW hC hE hN thr_X10_1 1 rfl zs_X10_325 dX10_compareSizes_23 dX10_compareSizes_26 dX10_compareSizes_27 dX10_compareSizes_30 dX10_compareSizes_33 (by rw [← e1]; rfl) e2 e3 ⟨(by rw [← e1]; trivial), (by rw [← e3]; exact (zFx_zn hF43 rfl))⟩ (Nat.le_of_ble_eq_true rfl) (Or.inr ⟨zFx_cnt hF43, (Nat.le_of_ble_eq_true rfl)⟩) (Nat.le_of_ble_eq_true rfl) (Nat.le_of_ble_eq_true rfl) (Nat.le_of_ble_eq_true rfl)
set_option maxHeartbeats 4000000 in
set_option maxRecDepth 100000 in
theorem c_X10_save (l : Launch) (hlt : l.stackTraces = false) (g : zG) (M : zM) (S : zS) (hF : zFx S) {M' : zM} {S' : zS} (h : F_X10_save M S = some (M', S')) : zMet l g yX10_save cX10_save 1 none 4 0 0 [zr g 1] M S (.inl none) M' S' (zFx S') := by
  refine zMet_of (by decide) hlt [(0, zr g 1)] rfl (Nat.le_of_ble_eq_true rfl) (fun K hC hE hN => ?_)
  unfold F_X10_save at h
  refine j_aload_n hC 0 dX10_save_0 rfl rfl ?_
  refine j_getq (q := 8) hC dX10_save_1 f_X10_23 (zFx_kd hF 1 rfl) rfl 2 rfl (zFx_rf hF 1 2 rfl) ?_
  refine j_aload_n hC 0 dX10_save_4 rfl rfl ?_
  refine j_getq (q := 5) hC dX10_save_5 f_X10_19 (zFx_kd hF 1 rfl) rfl 1 rfl (zFx_rf hF 1 1 rfl) ?_
  obtain ⟨M1, S2, hy, h⟩ := zb2_ex h
  refine j_callVv (ci := 2) hC hE lk_X10_327 dX10_save_8 (c_X2_copyFrom_b l hlt g M S hF hy) [zr g 5] [] (zFx_kd hF 8 rfl) ⟨_, rfl, by decide, rfl⟩ rfl rfl rfl (zcat (Nat.le_of_ble_eq_true rfl)) (Nat.le_of_ble_eq_true rfl) (Nat.le_of_ble_eq_true rfl) (Nat.le_of_ble_eq_true rfl) (Nat.le_of_ble_eq_true rfl) (fun hp3 => ?_)
  have hF4 := hp3
  refine j_aload_n hC 0 dX10_save_11 rfl rfl ?_
  refine j_aload_n hC 0 dX10_save_12 rfl rfl ?_
  refine j_get hC dX10_save_13 f_X10_217 (zFx_kd hF4 1 rfl) rfl 8 rfl (fun hg5 => ?_)
  obtain ⟨M6, eM6, h⟩ := zlet_ex h
  refine j_put hC dX10_save_16 f_X10_331 pF_X10 (zFx_kd hF4 1 rfl) (Or.inl rfl) rfl 9 rfl (w_id hg5) hg5 eM6 ?_
  refine j_aload_n hC 0 dX10_save_19 rfl rfl ?_
  refine j_iconst hC dX10_save_20 ?_
  obtain ⟨M7, eM7, h⟩ := zlet_ex h
  refine j_put hC dX10_save_21 f_X10_334 pF_X10 (zFx_kd hF4 1 rfl) (Or.inr (Or.inl rfl)) rfl 10 rfl (w_id kR_1) zb01_1 eM7 ?_
  obtain ⟨e1, e2⟩ := zpr2 (Option.some.inj h)
  exact j_vret hC hE dX10_save_24 rfl e1 e2 (by rw [← e2]; exact hF4) (Nat.le_of_ble_eq_true rfl) (Nat.le_of_ble_eq_true rfl)
set_option maxHeartbeats 4000000 in
set_option maxRecDepth 100000 in
theorem c_X10_restore (l : Launch) (hlt : l.stackTraces = false) (g : zG) (M : zM) (S : zS) (hF : zFx S) {r : Nat ⊕ Unit} {M' : zM} {S' : zS} (h : F_X10_restore M S = some (r, M', S')) : zMet l g yX10_restore cX10_restore 1 none 4 1 6 [zr g 1] M S (zOX zkv r) M' S' (zFx S') := by
  refine zMet_of (by decide) hlt [(0, zr g 1)] rfl (Nat.le_of_ble_eq_true rfl) (fun K hC hE hN => ?_)
  unfold F_X10_restore at h
  refine j_aload_n hC 0 dX10_restore_0 rfl rfl ?_
  refine j_getz hC dX10_restore_1 f_X10_334 (zFx_kd hF 1 rfl) rfl 10 rfl (fun hg1 => ?_)
  refine j_if_ne hC dX10_restore_4 rfl (w_id (inR_b hg1)) (fun c2 => ?_) (fun c2 => ?_)
  · have h := zf c2 h
    refine j_aload_n hC 0 dX10_restore_18 rfl rfl ?_
    refine j_getq (q := 5) hC dX10_restore_19 f_X10_19 (zFx_kd hF 1 rfl) rfl 1 rfl (zFx_rf hF 1 1 rfl) ?_
    refine j_aload_n hC 0 dX10_restore_22 rfl rfl ?_
    refine j_getq (q := 8) hC dX10_restore_23 f_X10_23 (zFx_kd hF 1 rfl) rfl 2 rfl (zFx_rf hF 1 2 rfl) ?_
    obtain ⟨M3, S4, hy, h⟩ := zb2_ex h
    refine j_callVv (ci := 2) hC hE lk_X10_327 dX10_restore_26 (c_X2_copyFrom_a l hlt g M S hF hy) [zr g 8] [] (zFx_kd hF 5 rfl) ⟨_, rfl, by decide, rfl⟩ rfl rfl rfl (zcat (Nat.le_of_ble_eq_true rfl)) (Nat.le_of_ble_eq_true rfl) (Nat.le_of_ble_eq_true rfl) (Nat.le_of_ble_eq_true rfl) (Nat.le_of_ble_eq_true rfl) (fun hp5 => ?_)
    have hF6 := hp5
    refine j_aload_n hC 0 dX10_restore_29 rfl rfl ?_
    refine j_aload_n hC 0 dX10_restore_30 rfl rfl ?_
    refine j_get hC dX10_restore_31 f_X10_331 (zFx_kd hF6 1 rfl) rfl 9 rfl (fun hg7 => ?_)
    obtain ⟨M8, eM8, h⟩ := zlet_ex h
    refine j_put hC dX10_restore_34 f_X10_217 pF_X10 (zFx_kd hF6 1 rfl) (Or.inl rfl) rfl 8 rfl (w_id hg7) hg7 eM8 ?_
    refine j_aload_n hC 0 dX10_restore_37 rfl rfl ?_
    obtain ⟨M9, hy, h⟩ := zb1_ex h
    refine j_callVv (ci := 7) hC hE lk_X10_115 dX10_restore_38 (c_X10_grammarChanged l hlt g M8 S4 hF6 hy) [] [] (zFx_kd hF6 1 rfl) ⟨_, rfl, by decide, rfl⟩ rfl rfl rfl (zcat (Nat.le_of_ble_eq_true rfl)) (Nat.le_of_ble_eq_true rfl) (Nat.le_of_ble_eq_true rfl) (Nat.le_of_ble_eq_true rfl) (Nat.le_of_ble_eq_true rfl) (fun hp10 => ?_)
    obtain ⟨e1, e2, e3⟩ := zpr3 (Option.some.inj h)
    exact j_vret hC hE dX10_restore_41 (by rw [← e1]; rfl) e2 e3 (by rw [← e3]; exact hF6) (Nat.le_of_ble_eq_true rfl) (Nat.le_of_ble_eq_true rfl)
  · have h := zt c2 h
    obtain ⟨e1, e2, e3⟩ := zpr3 (Option.some.inj h)
    exact j_throwW hC hE hN thr_X10_0 0 rfl zs_X10_337 dX10_restore_7 dX10_restore_10 dX10_restore_11 dX10_restore_14 dX10_restore_17 (by rw [← e1]; rfl) e2 e3 (by rw [← e3]; exact (zFx_zn hF rfl)) (Nat.le_of_ble_eq_true rfl) (Or.inr ⟨zFx_cnt hF, (Nat.le_of_ble_eq_true rfl)⟩) (Nat.le_of_ble_eq_true rfl) (Nat.le_of_ble_eq_true rfl) (Nat.le_of_ble_eq_true rfl)
