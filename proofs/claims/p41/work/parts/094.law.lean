/-! THE LAW: a program has written it -/
set_option maxHeartbeats 8000000 in
set_option maxRecDepth 100000 in
theorem c_L_law (K : zK) (l : Launch) (hlt : l.stackTraces = false) (g : zG) (hK0 : zK0L K g) (hL : zgL g ≤ 260) (ln : Int) (hln : ln = (zgL g : Int)) (scr : Int → Int) (hscr : scr = zscr (zgx g)) (M : zM) (S : zS) {r : Int} {M' : zM} {S' : zS} (hC : zC K l g cL_law 7 RL) (nm : String) (hE : zE K g nm (some .boolean) 256 600130 7301080 (.inl (some (.int (zi r)))) M' S' (inR r ∧ zFx S')) (hN : zNt K) (h : F_L_law ln scr M S = some (r, M', S')) : zJ K g 0 0 0 7 [(0, .ref (zgb g))] [] M S := by
  have hlnR : inR ln := by rw [hln]; exact ⟨by omega, by omega⟩
  have hscrR : ∀ i, inR (scr i) := by intro i; rw [hscr]; exact cR_zscr _ i
  unfold F_L_law at h
  have J_184 : ∀ (M : zM) (S : zS) (hF : zFx S) (_ : F_L_law_J184 ln scr M S = some (r, M', S')), zJ K g (47 + (S.1 - 89)) (400000 + 1000 * (S.1 - 89)) 184 7 [] [] M S := by
    intro M S hF h
    unfold F_L_law_J184 at h
    refine j_iconst hC dL_law_184 ?_
    obtain ⟨cp1, h⟩ := zchk_ex h
    obtain ⟨e1, e2, e3⟩ := zpr3 (Option.some.inj h)
    exact j_iret hC hE dL_law_185 (w_id kR_1) (zn_z zb01_1) (by rw [← e1]) e2 e3 ⟨(by rw [← e1]; exact kR_1), (by rw [← e3]; exact hF)⟩ (by omega) (by omega)
  have L_67 : ∀ (v2 : Int) (hv2 : inR v2) (M : zM) (S : zS) (hF : zFx S) (_ : F_L_law_L67 ln scr v2 M S = some (r, M', S')), zJ K g (47 + (S.1 - 89)) (400000 + 1000 * (S.1 - 89)) 67 7 [(0, .ref (zgb g)), (1, zr g 1), (2, .int (zi v2))] [] M S := by
    intro v2 hv2 M S hF h
    unfold F_L_law_L67 at h
    obtain ⟨ex67, hl, hd67⟩ := zb1_ex h
    obtain ⟨bd67, ebd⟩ : ∃ f, f = (fun (s : Int × zM × zS) => F_L_law_B67 ln scr s.1 s.2.1 s.2.2) := ⟨_, rfl⟩
    rw [← ebd] at hl
    have main : ∀ (n67 : Nat) (v2 : Int) (hv2 : inR v2) (M : zM) (S : zS) (hF : zFx S) (_ : zloop bd67 n67 (v2, M, S) = some ex67), zJ K g (47 + (S.1 - 89)) (400000 + 1000 * (S.1 - 89)) 67 7 [(0, .ref (zgb g)), (1, zr g 1), (2, .int (zi v2))] [] M S := by
      intro n67
      induction n67 with
      | zero => intro v2 hv2 M S hF hl; exact zloop_0 hl
      | succ n67 ih67 =>
        have J_178 : ∀ (v2 : Int) (hv2 : inR v2) (M : zM) (S : zS) (hF : zFx S) (o : _) (_ : F_L_law_J178 ln scr v2 M S = some o), zAft (bd67) n67 ex67 o → zJ K g (47 + (S.1 - 89)) (400000 + 1000 * (S.1 - 89)) 178 7 [(0, .ref (zgb g)), (1, zr g 1), (2, .int (zi v2))] [] M S := by
          intro v2 hv2 M S hF o h hT
          unfold F_L_law_J178 at h
          obtain ⟨x2, ex2, h⟩ := zlet_ex h
          have hx2 : inR x2 := by rw [ex2]; exact inR_w _
          refine j_iinc hC 2 dL_law_178 rfl ex2 (Nat.le_of_ble_eq_true rfl) rfl ?_
          refine j_goto hC dL_law_181 rfl ?_
          obtain rfl := Option.some.inj h
          refine j_sub [1, 2, 0] rfl ?_
          exact ih67 x2 hx2 M S hF hT
        intro v2 hv2 M S hF hl
        obtain ⟨o, h, hT⟩ := zloop_ex hl
        have h : F_L_law_B67 ln scr v2 M S = some o := by rw [ebd] at h; exact h
        unfold F_L_law_B67 at h
        refine j_iload_n hC 2 dL_law_67 rfl rfl ?_
        refine j_iconst hC dL_law_68 ?_
        refine j_icmp_ge hC dL_law_69 rfl (w_id hv2) (w_id kR_2) (fun c3 => ?_) (fun c3 => ?_)
        · have h := zf c3 h
          obtain rfl := Option.some.inj h
          have hx67 := hd67
          rw [← show _ = ex67 from hT] at hx67
          refine j_sub [] rfl ?_
          exact J_184 M S hF hx67
        · have h := zt c3 h
          refine j_bipush hC dL_law_72 rfl ?_
          refine j_bipush hC dL_law_74 rfl ?_
          refine j_iload_n hC 2 dL_law_76 rfl rfl ?_
          refine j_imul hC dL_law_77 ?_
          refine j_iadd hC dL_law_78 ?_
          obtain ⟨x4, ex4, h⟩ := zlet_ex h
          have hx4 : inR x4 := by rw [ex4]; exact inR_w _
          refine j_namei ex4 ?_
          refine j_istore_n hC dL_law_79 rfl (Nat.le_of_ble_eq_true rfl) rfl ?_
          refine j_aload_n hC 2 dL_law_80 rfl rfl ?_
          refine j_sload_n hC 1 dL_law_81 rfl rfl ?_
          refine j_iload_n hC 0 dL_law_82 rfl rfl ?_
          obtain ⟨cp5, h⟩ := zchk_ex h
          obtain ⟨M6, S7, hy, h⟩ := zb2_ex h
          refine j_callSv hC hE lk_L_222 dL_law_83 (c_L_build l hlt g hL ln hln scr hscr x4 hx4 M S hF hy) [zr g 1, .ref (zgb g), .int (zi x4)] [] rfl rfl rfl (zcat (Nat.le_of_ble_eq_true rfl)) (Nat.le_of_ble_eq_true rfl) (Nat.le_of_ble_eq_true rfl) (by omega) (by omega) (fun hp8 => ?_)
          have hF9 := hp8
          refine j_tightL hK0 hF9 ?_
          refine j_aload_n hC 2 dL_law_86 rfl rfl ?_
          obtain ⟨cp10, h⟩ := zchk_ex h
          obtain ⟨r11, M12, S13, hy, h⟩ := zb3_ex h
          refine j_callTi hC hE lk_L_209 dL_law_87 (c_L_size l hlt g M6 S7 hF9 hy) [zr g 1] [] rfl rfl rfl (Nat.le_of_ble_eq_true rfl) (Nat.le_of_ble_eq_true rfl) (Nat.le_of_ble_eq_true rfl) (by omega) (by omega) (fun hp14 => ?_)
          obtain ⟨hr11, hFr11⟩ := hp14
          refine j_tightL hK0 hFr11 ?_
          refine j_istore hC dL_law_90 (Nat.le_of_ble_eq_true rfl) rfl ?_
          refine j_iload hC 0 dL_law_92 rfl ?_
          refine j_if_ge hC dL_law_94 rfl (w_id hr11) (fun c15 => ?_) (fun c15 => ?_)
          · have h := zf c15 h
            refine j_bipush hC dL_law_100 rfl ?_
            obtain ⟨cp16, h⟩ := zchk_ex h
            obtain ⟨q17, eq17, h⟩ := zlet_ex h
            obtain ⟨S18, eS18, h⟩ := zlet_ex h
            refine j_newa20 (N := 10) (mx := 10) hC hE ka_20 dL_law_102 (w_id kR_10) rfl (Nat.le_of_ble_eq_true rfl) (Nat.le_of_ble_eq_true rfl) eq17 eS18 (Or.inr ⟨zFx_cnt hFr11, (Nat.le_of_ble_eq_true rfl)⟩) (by omega) (by omega) ?_
            have hF19 : zFx S18 := zFx_zn hFr11 eS18
            refine j_tightL hK0 hF19 ?_
            refine j_astore hC dL_law_104 (Nat.le_of_ble_eq_true rfl) rfl ?_
            refine j_iconst hC dL_law_106 ?_
            obtain ⟨cp20, h⟩ := zchk_ex h
            obtain ⟨q21, eq21, h⟩ := zlet_ex h
            obtain ⟨S22, eS22, h⟩ := zlet_ex h
            refine j_newa22 (N := 5) (mx := 5) hC hE ka_22 dL_law_107 (w_id kR_5) rfl (Nat.le_of_ble_eq_true rfl) (Nat.le_of_ble_eq_true rfl) eq21 eS22 (Or.inr ⟨zFx_cnt hF19, (Nat.le_of_ble_eq_true rfl)⟩) (by omega) (by omega) ?_
            have hF23 : zFx S22 := zFx_zn hF19 eS22
            refine j_tightL hK0 hF23 ?_
            refine j_astore (lv1 := [(6, zr g q21), (5, zr g q17), (4, .int (zi r11)), (3, .int (zi x4)), (0, .ref (zgb g)), (1, zr g 1), (2, .int (zi v2))]) hC dL_law_109 (Nat.le_of_ble_eq_true rfl) (by simp only [List.filter_cons, List.filter_nil, zr_cat, zc_i, zc_l, zc_d, zc_r] <;> first | rfl | simp [zr_cat]) ?_
            refine j_aload_n hC 5 dL_law_111 rfl rfl ?_
            refine j_iload hC 2 dL_law_112 rfl ?_
            refine j_aload hC 1 dL_law_114 rfl ?_
            refine j_aload hC 0 dL_law_116 rfl ?_
            obtain ⟨cp24, h⟩ := zchk_ex h
            obtain ⟨r25, M26, S27, hy, h⟩ := zb3_ex h
            refine j_callSi hC hE lk_L_226 dL_law_118 (c_L_areWords l hlt g r11 q17 q21 hr11 M12 S22 hF23 hy) [zr g 1, .int (zi r11), zr g q17, zr g q21] [] rfl rfl rfl (zcat (Nat.le_of_ble_eq_true rfl)) (Nat.le_of_ble_eq_true rfl) (Nat.le_of_ble_eq_true rfl) (by omega) (by omega) (fun hp28 => ?_)
            obtain ⟨hr25, hFr25⟩ := hp28
            refine j_tightL hK0 hFr25 ?_
            refine j_if_eq hC dL_law_121 rfl (w_id hr25) (fun c29 => ?_) (fun c29 => ?_)
            · have h := zt c29 h
              cases h
            · have h := zf c29 h
              refine j_aload_n hC 5 dL_law_124 rfl rfl ?_
              refine j_iload hC 2 dL_law_125 rfl ?_
              obtain ⟨cp30, h⟩ := zchk_ex h
              obtain ⟨r31, M32, S33, hy, h⟩ := zb3_ex h
              refine j_callTi hC hE lk_L_230 dL_law_127 (c_L_take l hlt g r11 hr11 M26 S27 hFr25 hy) [zr g 1, .int (zi r11)] [] rfl rfl rfl (Nat.le_of_ble_eq_true rfl) (Nat.le_of_ble_eq_true rfl) (Nat.le_of_ble_eq_true rfl) (by omega) (by omega) (fun hp34 => ?_)
              obtain ⟨hr31, hFr31⟩ := hp34
              refine j_tightL hK0 hFr31 ?_
              refine j_iconst hC dL_law_130 ?_
              refine j_icmp_ne hC dL_law_131 rfl (w_id hr31) (w_id kR_1) (fun c35 => ?_) (fun c35 => ?_)
              · have h := zf c35 h
                cases h
              · have h := zt c35 h
                refine j_aload_n hC 5 dL_law_134 rfl rfl ?_
                refine j_iconst hC dL_law_135 ?_
                obtain ⟨cp36, h⟩ := zchk_ex h
                obtain ⟨r37, M38, S39, hy, h⟩ := zb3_ex h
                refine j_callTi hC hE lk_L_230 dL_law_136 (c_L_take l hlt g (-1) kR_m1 M32 S33 hFr31 hy) [zr g 1, .int (zi (-1))] [] rfl rfl rfl (Nat.le_of_ble_eq_true rfl) (Nat.le_of_ble_eq_true rfl) (Nat.le_of_ble_eq_true rfl) (by omega) (by omega) (fun hp40 => ?_)
                obtain ⟨hr37, hFr37⟩ := hp40
                refine j_tightL hK0 hFr37 ?_
                refine j_iconst hC dL_law_139 ?_
                refine j_icmp_ne hC dL_law_140 rfl (w_id hr37) (w_id kR_1) (fun c41 => ?_) (fun c41 => ?_)
                · have h := zf c41 h
                  cases h
                · have h := zt c41 h
                  refine j_aload_n hC 5 dL_law_143 rfl rfl ?_
                  refine j_iload hC 2 dL_law_144 rfl ?_
                  refine j_aload hC 1 dL_law_146 rfl ?_
                  obtain ⟨cp42, h⟩ := zchk_ex h
                  obtain ⟨r43, M44, S45, hy, h⟩ := zb3_ex h
                  refine j_callSi hC hE lk_L_234 dL_law_148 (c_L_areSizes l hlt g r11 q17 hr11 M38 S39 hFr37 hy) [zr g 1, .int (zi r11), zr g q17] [] rfl rfl rfl (zcat (Nat.le_of_ble_eq_true rfl)) (Nat.le_of_ble_eq_true rfl) (Nat.le_of_ble_eq_true rfl) (by omega) (by omega) (fun hp46 => ?_)
                  obtain ⟨hr43, hFr43⟩ := hp46
                  refine j_tightL hK0 hFr43 ?_
                  refine j_if_eq hC dL_law_151 rfl (w_id hr43) (fun c47 => ?_) (fun c47 => ?_)
                  · have h := zt c47 h
                    cases h
                  · have h := zf c47 h
                    refine j_aload_n hC 5 dL_law_154 rfl rfl ?_
                    refine j_sload_n hC 4 dL_law_155 rfl rfl ?_
                    refine j_iload_n hC 3 dL_law_156 rfl rfl ?_
                    refine j_iload hC 2 dL_law_157 rfl ?_
                    refine j_aload hC 0 dL_law_159 rfl ?_
                    obtain ⟨cp48, h⟩ := zchk_ex h
                    obtain ⟨r49, M50, S51, hy, h⟩ := zb3_ex h
                    refine j_callSi hC hE lk_L_238 dL_law_161 (c_L_areContexts l hlt g x4 r11 q21 hx4 hr11 M44 S45 hFr43 hy) [zr g 1, .ref (zgb g), .int (zi x4), .int (zi r11), zr g q21] [] rfl rfl rfl (zcat (Nat.le_of_ble_eq_true rfl)) (Nat.le_of_ble_eq_true rfl) (Nat.le_of_ble_eq_true rfl) (by omega) (by omega) (fun hp52 => ?_)
                    obtain ⟨hr49, hFr49⟩ := hp52
                    refine j_tightL hK0 hFr49 ?_
                    refine j_if_eq hC dL_law_164 rfl (w_id hr49) (fun c53 => ?_) (fun c53 => ?_)
                    · have h := zt c53 h
                      cases h
                    · have h := zf c53 h
                      refine j_aload_n hC 5 dL_law_167 rfl rfl ?_
                      refine j_iload hC 2 dL_law_168 rfl ?_
                      obtain ⟨cp54, h⟩ := zchk_ex h
                      obtain ⟨r55, M56, S57, hy, h⟩ := zb3_ex h
                      refine j_callSi hC hE lk_L_242 dL_law_170 (c_L_areFollowing l hlt g r11 hr11 M50 S51 hFr49 hy) [zr g 1, .int (zi r11)] [] rfl rfl rfl (zcat (Nat.le_of_ble_eq_true rfl)) (Nat.le_of_ble_eq_true rfl) (Nat.le_of_ble_eq_true rfl) (by omega) (by omega) (fun hp58 => ?_)
                      obtain ⟨hr55, hFr55⟩ := hp58
                      refine j_tightL hK0 hFr55 ?_
                      refine j_if_ne hC dL_law_173 rfl (w_id hr55) (fun c59 => ?_) (fun c59 => ?_)
                      · have h := zf c59 h
                        refine j_sub [4, 5, 6] rfl ?_
                        exact J_178 v2 hv2 M56 S57 hFr55 _ h hT
                      · have h := zt c59 h
                        cases h
          · have h := zt c15 h
            refine j_goto hC dL_law_97 rfl ?_
            refine j_sub [2, 3, 4] rfl ?_
            exact J_178 v2 hv2 M12 S13 hFr11 _ h hT
    exact main zN v2 hv2 M S hF hl
  obtain ⟨c60, h⟩ := zchk_ex h
  obtain ⟨S61, eS61, h⟩ := zlet_ex h
  refine j_new hC hE n_L_26 pF_X10 dL_law_0 c60.symm eS61 (Or.inl (by omega)) (Nat.le_of_ble_eq_true rfl) (Nat.le_of_ble_eq_true rfl) ?_
  refine j_dup hC dL_law_3 (zr_cat _ _) ?_
  obtain ⟨M62, S63, hy, h⟩ := zb2_ex h
  refine j_callIv hC hE lk_L_218 dL_law_4 (c_X10_init l hlt g 1 M S61 hy) [] [zr g 1] (by decide) rfl rfl rfl (zcat (Nat.le_of_ble_eq_true rfl)) (Nat.le_of_ble_eq_true rfl) (Nat.le_of_ble_eq_true rfl) (by omega) (by omega) (fun hp64 => ?_)
  obtain ⟨c65, h⟩ := zchk_ex h
  obtain ⟨S66, eS66, h⟩ := zlet_ex h
  refine j_jump c65 eS66 ?_
  obtain ⟨c67, h⟩ := zchkP_ex h
  refine j_tightL hK0 c67 ?_
  refine j_astore_n (lv1 := [(1, zr g 1), (0, .ref (zgb g))]) hC dL_law_7 rfl (Nat.le_of_ble_eq_true rfl) (by simp only [List.filter_cons, List.filter_nil, zr_cat, zc_i, zc_l, zc_d, zc_r] <;> first | rfl | simp [zr_cat]) ?_
  refine j_aload_n hC 0 dL_law_8 rfl rfl ?_
  obtain ⟨cp68, h⟩ := zchk_ex h
  obtain ⟨r69, M70, S71, hy, h⟩ := zb3_ex h
  refine j_callTi hC hE lk_L_209 dL_law_9 (c_L_size l hlt g M62 S66 c67 hy) [zr g 1] [] rfl rfl rfl (Nat.le_of_ble_eq_true rfl) (Nat.le_of_ble_eq_true rfl) (Nat.le_of_ble_eq_true rfl) (by omega) (by omega) (fun hp72 => ?_)
  obtain ⟨hr69, hFr69⟩ := hp72
  refine j_tightL hK0 hFr69 ?_
  refine j_if_ne hC dL_law_12 rfl (w_id hr69) (fun c73 => ?_) (fun c73 => ?_)
  · have h := zf c73 h
    cases h
  · have h := zt c73 h
    refine j_aload_n hC 0 dL_law_15 rfl rfl ?_
    refine j_iconst hC dL_law_16 ?_
    obtain ⟨cp74, h⟩ := zchk_ex h
    obtain ⟨r78, M76, S77, hy, hx79, hk80⟩ := zbx_ex h
    refine j_callXVi (ci := 7) hC hE hN lk_L_90 dL_law_17 (c_X10_count l hlt g 2 kR_2 M70 S71 hFr69 hy) [.int (zi 2)] [] (zFx_kd hFr69 1 rfl) ⟨_, rfl, by decide, rfl⟩ rfl rfl rfl (zcat (Nat.le_of_ble_eq_true rfl)) (Nat.le_of_ble_eq_true rfl) (Nat.le_of_ble_eq_true rfl) (by omega) (by omega) (fun e he hp81 => by cases hx79 e he) (fun r75 he hp81 => ?_)
    have h := hk80 r75 he
    subst he
    dsimp only [zRXi, zRXl] at hp81
    obtain ⟨hr75, hF82⟩ := hp81
    refine j_tightL hK0 hF82 ?_
    refine j_iconst hC dL_law_20 ?_
    refine j_icmp_ne hC dL_law_21 rfl (w_id hr75) (w_id kR_1) (fun c83 => ?_) (fun c83 => ?_)
    · have h := zf c83 h
      cases h
    · have h := zt c83 h
      refine j_aload_n hC 0 dL_law_24 rfl rfl ?_
      refine j_iconst hC dL_law_25 ?_
      obtain ⟨cp84, h⟩ := zchk_ex h
      obtain ⟨r88, M86, S87, hy, hx89, hk90⟩ := zbx_ex h
      refine j_callXVi (ci := 7) hC hE hN lk_L_90 dL_law_26 (c_X10_count l hlt g 3 kR_3 M76 S77 hF82 hy) [.int (zi 3)] [] (zFx_kd hF82 1 rfl) ⟨_, rfl, by decide, rfl⟩ rfl rfl rfl (zcat (Nat.le_of_ble_eq_true rfl)) (Nat.le_of_ble_eq_true rfl) (Nat.le_of_ble_eq_true rfl) (by omega) (by omega) (fun e he hp91 => by cases hx89 e he) (fun r85 he hp91 => ?_)
      have h := hk90 r85 he
      subst he
      dsimp only [zRXi, zRXl] at hp91
      obtain ⟨hr85, hF92⟩ := hp91
      refine j_tightL hK0 hF92 ?_
      refine j_bipush hC dL_law_29 rfl ?_
      refine j_icmp_ne hC dL_law_31 rfl (w_id hr85) (w_id kR_6) (fun c93 => ?_) (fun c93 => ?_)
      · have h := zf c93 h
        cases h
      · have h := zt c93 h
        refine j_aload_n hC 0 dL_law_34 rfl rfl ?_
        obtain ⟨cp94, h⟩ := zchk_ex h
        obtain ⟨r98, M96, S97, hy, hx99, hk100⟩ := zbx_ex h
        refine j_callXVi (ci := 7) hC hE hN lk_L_191 dL_law_35 (c_X10_minimalContexts l hlt g M86 S87 hF92 hy) [] [] (zFx_kd hF92 1 rfl) ⟨_, rfl, by decide, rfl⟩ rfl rfl rfl (zcat (Nat.le_of_ble_eq_true rfl)) (Nat.le_of_ble_eq_true rfl) (Nat.le_of_ble_eq_true rfl) (by omega) (by omega) (fun e he hp101 => by cases hx99 e he) (fun r95 he hp101 => ?_)
        have h := hk100 r95 he
        subst he
        dsimp only [zRXi, zRXl] at hp101
        obtain ⟨hr95, hF102⟩ := hp101
        refine j_tightL hK0 hF102 ?_
        refine j_if_ne hC dL_law_38 rfl (w_id hr95) (fun c103 => ?_) (fun c103 => ?_)
        · have h := zf c103 h
          cases h
        · have h := zt c103 h
          refine j_aload_n hC 0 dL_law_41 rfl rfl ?_
          obtain ⟨cp104, h⟩ := zchk_ex h
          obtain ⟨r108, M106, S107, hy, hx109, hk110⟩ := zbx_ex h
          refine j_callXVi (ci := 7) hC hE hN lk_L_153 dL_law_42 (c_X10_isGenerated l hlt g M96 S97 hF102 hy) [] [] (zFx_kd hF102 1 rfl) ⟨_, rfl, by decide, rfl⟩ rfl rfl rfl (zcat (Nat.le_of_ble_eq_true rfl)) (Nat.le_of_ble_eq_true rfl) (Nat.le_of_ble_eq_true rfl) (by omega) (by omega) (fun e he hp111 => by cases hx109 e he) (fun r105 he hp111 => ?_)
          have h := hk110 r105 he
          subst he
          dsimp only [zRXi, zRXl] at hp111
          obtain ⟨hr105, hF112⟩ := hp111
          refine j_tightL hK0 hF112 ?_
          refine j_if_ne hC dL_law_45 rfl (w_id hr105) (fun c113 => ?_) (fun c113 => ?_)
          · have h := zf c113 h
            cases h
          · have h := zt c113 h
            refine j_aload_n hC 0 dL_law_48 rfl rfl ?_
            obtain ⟨cp114, h⟩ := zchk_ex h
            obtain ⟨r115, M116, S117, hy, h⟩ := zb3_ex h
            refine j_callTi hC hE lk_L_157 dL_law_49 (c_L_rank l hlt g M106 S107 hF112 hy) [zr g 1] [] rfl rfl rfl (Nat.le_of_ble_eq_true rfl) (Nat.le_of_ble_eq_true rfl) (Nat.le_of_ble_eq_true rfl) (by omega) (by omega) (fun hp118 => ?_)
            obtain ⟨hr115, hFr115⟩ := hp118
            refine j_tightL hK0 hFr115 ?_
            refine j_iconst hC dL_law_52 ?_
            refine j_icmp_ne hC dL_law_53 rfl (w_id hr115) (w_id kR_m1) (fun c119 => ?_) (fun c119 => ?_)
            · have h := zf c119 h
              cases h
            · have h := zt c119 h
              refine j_aload_n hC 0 dL_law_56 rfl rfl ?_
              obtain ⟨cp120, h⟩ := zchk_ex h
              obtain ⟨r124, M122, S123, hy, hx125, hk126⟩ := zbx_ex h
              refine j_callXVi (ci := 7) hC hE hN lk_L_219 dL_law_57 (c_X10_isConfluent l hlt g M116 S117 hFr115 hy) [] [] (zFx_kd hFr115 1 rfl) ⟨_, rfl, by decide, rfl⟩ rfl rfl rfl (zcat (Nat.le_of_ble_eq_true rfl)) (Nat.le_of_ble_eq_true rfl) (Nat.le_of_ble_eq_true rfl) (by omega) (by omega) (fun e he hp127 => by cases hx125 e he) (fun r121 he hp127 => ?_)
              have h := hk126 r121 he
              subst he
              dsimp only [zRXi, zRXl] at hp127
              obtain ⟨hr121, hF128⟩ := hp127
              refine j_tightL hK0 hF128 ?_
              refine j_if_ne hC dL_law_60 rfl (w_id hr121) (fun c129 => ?_) (fun c129 => ?_)
              · have h := zf c129 h
                refine j_iconst hC dL_law_65 ?_
                refine j_istore_n hC dL_law_66 rfl (Nat.le_of_ble_eq_true rfl) rfl ?_
                refine j_sub [2, 1, 0] rfl ?_
                exact L_67 0 kR_0 M122 S123 hF128 h
              · have h := zt c129 h
                cases h
