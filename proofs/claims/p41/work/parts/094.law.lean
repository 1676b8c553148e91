/-! THE LAW: a program has written it -/
set_option maxHeartbeats 8000000 in
set_option maxRecDepth 100000 in
theorem c_L_law (K : zK) (l : Launch) (hlt : l.stackTraces = false) (g : zG) (hK0 : zK0L K g) (hL : zgL g ≤ 260) (ln : Int) (hln : ln = (zgL g : Int)) (scr : Int → Int) (hscr : scr = zscr (zgx g)) (M : zM) (S : zS) {r : Int} {M' : zM} {S' : zS} (hC : zC K l g cL_law 7 RL) (nm : String) (hE : zE K g nm (some .boolean) 256 600130 7301080 (.inl (some (.int (zi r)))) M' S' (inR r ∧ zFx S')) (hN : zNt K) (h : F_L_law ln scr M S = some (r, M', S')) : zJ K g 0 0 0 7 [(0, .ref (zgb g))] [] M S := by
  have hlnR : inR ln := by rw [hln]; exact ⟨by omega, by omega⟩
  have hscrR : ∀ i, inR (scr i) := by intro i; rw [hscr]; exact cR_zscr _ i
  unfold F_L_law at h
  have J_184 : ∀ (M : zM) (S : zS) (hF : zFx S) (_ : F_L_law_J184 ln scr M S = some (r, M', S')), zJ K g (47 + (S.1 - 89)) (400000 + 1000 * (S.1 - 89)) 184 7 [] [] M S := by
    intro M S hF h
    unfold F_L_law_J184 at h
    refine j_iconst hC dL_law_184 ?_
    obtain ⟨cp1, h⟩ := zchk_ex h
    obtain ⟨e1, e2, e3⟩ := zpr3 (Option.some.inj h)
    exact j_iret hC hE dL_law_185 (w_id kR_1) (zn_z zb01_1) (by rw [← e1]) e2 e3 ⟨(by rw [← e1]; exact kR_1), (by rw [← e3]; exact hF)⟩ (by omega) (by omega)
  have L_67 : ∀ (v2 : Int) (hv2 : inR v2) (M : zM) (S : zS) (hF : zFx S) (_ : F_L_law_L67 ln scr v2 M S = some (r, M', S')), zJ K g (47 + (S.1 - 89)) (400000 + 1000 * (S.1 - 89)) 67 7 [(0, .ref (zgb g)), (1, zr g 1), (2, .int (zi v2))] [] M S := by
    intro v2 hv2 M S hF h
    unfold F_L_law_L67 at h
    obtain ⟨ex67, hl, hd67⟩ := zb1_ex h
    obtain ⟨bd67, ebd⟩ : ∃ f, f = (fun (s : Int × zM × zS) => F_L_law_B67 ln scr s.1 s.2.1 s.2.2) := ⟨_, rfl⟩
    rw [← ebd] at hl
    have main : ∀ (n67 : Nat) (v2 : Int) (hv2 : inR v2) (M : zM) (S : zS) (hF : zFx S) (_ : zloop bd67 n67 (v2, M, S) = some ex67), zJ K g (47 + (S.1 - 89)) (400000 + 1000 * (S.1 - 89)) 67 7 [(0, .ref (zgb g)), (1, zr g 1), (2, .int (zi v2))] [] M S := by
      intro n67
      induction n67 with
      | zero => intro v2 hv2 M S hF hl; exact zloop_0 hl
      | succ n67 ih67 =>
        have J_178 : ∀ (v2 : Int) (hv2 : inR v2) (M : zM) (S : zS) (hF : zFx S) (o : _) (_ : F_L_law_J178 ln scr v2 M S = some o), zAft (bd67) n67 ex67 o → zJ K g (47 + (S.1 - 89)) (400000 + 1000 * (S.1 - 89)) 178 7 [(0, .ref (zgb g)), (1, zr g 1), (2, .int (zi v2))] [] M S := by
          intro v2 hv2 M S hF o h hT
          unfold F_L_law_J178 at h
          obtain ⟨x2, ex2, h⟩ := zlet_ex h
          have hx2 : inR x2 := by rw [ex2]; exact inR_w _
          refine j_iinc hC 2 dL_law_178 rfl ex2 (Nat.le_of_ble_eq_true rfl) rfl ?_
          refine j_goto hC dL_law_181 rfl ?_
          obtain rfl := Option.some.inj h
          refine j_sub [1, 2, 0] rfl ?_
          exact ih67 x2 hx2 M S hF hT
        intro v2 hv2 M S hF hl
        obtain ⟨o, h, hT⟩ := zloop_ex hl
        have h : F_L_law_B67 ln scr v2 M S = some o := by rw [ebd] at h; exact h
        unfold F_L_law_B67 at h
        refine j_iload_n hC 2 dL_law_67 rfl rfl ?_
        refine j_iconst hC dL_law_68 ?_
        refine j_icmp_ge hC dL_law_69 rfl (w_id hv2) (w_id kR_2) (fun c3 => ?_) (fun c3 => ?_)
        · have h := zf c3 h
          obtain rfl := Option.some.inj h
          have hx67 := hd67
          rw [← show _ = ex67 from hT] at hx67
          refine j_sub [] rfl ?_
          exact J_184 M S hF hx67
        · have h := zt c3 h
          refine j_bipush hC dL_law_72 rfl ?_
          refine j_bipush hC dL_law_74 rfl ?_
          refine j_iload_n hC 2 dL_law_76 rfl rfl ?_
          refine j_imul hC dL_law_77 ?_
          refine j_iadd hC dL_law_78 ?_
          obtain ⟨x4, ex4, h⟩ := zlet_ex h
          have hx4 : inR x4 := by rw [ex4]; exact inR_w _
          refine j_namei ex4 ?_
          refine j_istore_n hC dL_law_79 rfl (Nat.le_of_ble_eq_true rfl) rfl ?_
          refine j_aload_n hC 2 dL_law_80 rfl rfl ?_
          refine j_sload_n hC 1 dL_law_81 rfl rfl ?_
          refine j_iload_n hC 0 dL_law_82 rfl rfl ?_
          obtain ⟨cp5, h⟩ := zchk_ex h
          obtain ⟨M6, S7, hy, h⟩ := zb2_ex h
          refine j_callSv hC hE lk_L_222 dL_law_83 (c_L_build l hlt g hL ln hln scr hscr x4 hx4 M S hF hy) [zr g 1, .ref (zgb g), .int (zi x4)] [] rfl rfl rfl (zcat (Nat.le_of_ble_eq_true rfl)) (Nat.le_of_ble_eq_true rfl) (Nat.le_of_ble_eq_true rfl) (by omega) (by omega) (fun hp8 => ?_)
          have hF9 := hp8
          refine j_tightL hK0 hF9 ?_
          refine j_aload_n hC 2 dL_law_86 rfl rfl ?_
          obtain ⟨cp10, h⟩ := zchk_ex h
          obtain ⟨r11, M12, S13, hy, h⟩ := zb3_ex h
          refine j_callTi hC hE lk_L_209 dL_law_87 (c_L_size l hlt g M6 S7 hF9 hy) [zr g 1] [] rfl rfl rfl (Nat.le_of_ble_eq_true rfl) (Nat.le_of_ble_eq_true rfl) (Nat.le_of_ble_eq_true rfl) (by omega) (by omega) (fun hp14 => ?_)
          obtain ⟨hr11, hFr11⟩ := hp14
          refine j_tightL hK0 hFr11 ?_
          refine j_istore hC dL_law_90 (Nat.le_of_ble_eq_true rfl) rfl ?_
          refine j_iload hC 0 dL_law_92 rfl ?_
          refine j_if_ge hC dL_law_94 rfl (w_id hr11) (fun c15 => ?_) (fun c15 => ?_)
          · have h := zf c15 h
            refine j_bipush hC dL_law_100 rfl ?_
            obtain ⟨cp16, h⟩ := zchk_ex h
            obtain ⟨q17, eq17, h⟩ := zlet_ex h
            obtain ⟨M18, eM18, h⟩ := zlet_ex h
            refine j_fresh1 eq17 eM18 ?_
            obtain ⟨S19, eS19, h⟩ := zlet_ex h
            refine j_newa20 (N := 10) (mx := 10) hC hE ka_20 dL_law_102 (w_id kR_10) rfl (Nat.le_of_ble_eq_true rfl) (Nat.le_of_ble_eq_true rfl) eq17 eS19 (Or.inr ⟨zFx_cnt hFr11, (Nat.le_of_ble_eq_true rfl)⟩) (by omega) (by omega) ?_
            have hF20 : zFx S19 := zFx_zn hFr11 eS19
            refine j_tightL hK0 hF20 ?_
            refine j_astore hC dL_law_104 (Nat.le_of_ble_eq_true rfl) rfl ?_
            refine j_iconst hC dL_law_106 ?_
            obtain ⟨cp21, h⟩ := zchk_ex h
            obtain ⟨q22, eq22, h⟩ := zlet_ex h
            obtain ⟨M23, eM23, h⟩ := zlet_ex h
            refine j_fresh1 eq22 eM23 ?_
            obtain ⟨S24, eS24, h⟩ := zlet_ex h
            refine j_newa22 (N := 5) (mx := 5) hC hE ka_22 dL_law_107 (w_id kR_5) rfl (Nat.le_of_ble_eq_true rfl) (Nat.le_of_ble_eq_true rfl) eq22 eS24 (Or.inr ⟨zFx_cnt hF20, (Nat.le_of_ble_eq_true rfl)⟩) (by omega) (by omega) ?_
            have hF25 : zFx S24 := zFx_zn hF20 eS24
            refine j_tightL hK0 hF25 ?_
            refine j_astore (lv1 := [(6, zr g q22), (5, zr g q17), (4, .int (zi r11)), (3, .int (zi x4)), (0, .ref (zgb g)), (1, zr g 1), (2, .int (zi v2))]) hC dL_law_109 (Nat.le_of_ble_eq_true rfl) (by simp only [List.filter_cons, List.filter_nil, zr_cat, zc_i, zc_l, zc_d, zc_r] <;> first | rfl | simp [zr_cat]) ?_
            refine j_aload_n hC 5 dL_law_111 rfl rfl ?_
            refine j_iload hC 2 dL_law_112 rfl ?_
            refine j_aload hC 1 dL_law_114 rfl ?_
            refine j_aload hC 0 dL_law_116 rfl ?_
            obtain ⟨cp26, h⟩ := zchk_ex h
            obtain ⟨r27, M28, S29, hy, h⟩ := zb3_ex h
            refine j_callSi hC hE lk_L_226 dL_law_118 (c_L_areWords l hlt g r11 q17 q22 hr11 M23 S24 hF25 hy) [zr g 1, .int (zi r11), zr g q17, zr g q22] [] rfl rfl rfl (zcat (Nat.le_of_ble_eq_true rfl)) (Nat.le_of_ble_eq_true rfl) (Nat.le_of_ble_eq_true rfl) (by omega) (by omega) (fun hp30 => ?_)
            obtain ⟨hr27, hFr27⟩ := hp30
            refine j_tightL hK0 hFr27 ?_
            refine j_if_eq hC dL_law_121 rfl (w_id hr27) (fun c31 => ?_) (fun c31 => ?_)
            · have h := zt c31 h
              cases h
            · have h := zf c31 h
              refine j_aload_n hC 5 dL_law_124 rfl rfl ?_
              refine j_iload hC 2 dL_law_125 rfl ?_
              obtain ⟨cp32, h⟩ := zchk_ex h
              obtain ⟨r33, M34, S35, hy, h⟩ := zb3_ex h
              refine j_callTi hC hE lk_L_230 dL_law_127 (c_L_take l hlt g r11 hr11 M28 S29 hFr27 hy) [zr g 1, .int (zi r11)] [] rfl rfl rfl (Nat.le_of_ble_eq_true rfl) (Nat.le_of_ble_eq_true rfl) (Nat.le_of_ble_eq_true rfl) (by omega) (by omega) (fun hp36 => ?_)
              obtain ⟨hr33, hFr33⟩ := hp36
              refine j_tightL hK0 hFr33 ?_
              refine j_iconst hC dL_law_130 ?_
              refine j_icmp_ne hC dL_law_131 rfl (w_id hr33) (w_id kR_1) (fun c37 => ?_) (fun c37 => ?_)
              · have h := zf c37 h
                cases h
              · have h := zt c37 h
                refine j_aload_n hC 5 dL_law_134 rfl rfl ?_
                refine j_iconst hC dL_law_135 ?_
                obtain ⟨cp38, h⟩ := zchk_ex h
                obtain ⟨r39, M40, S41, hy, h⟩ := zb3_ex h
                refine j_callTi hC hE lk_L_230 dL_law_136 (c_L_take l hlt g (-1) kR_m1 M34 S35 hFr33 hy) [zr g 1, .int (zi (-1))] [] rfl rfl rfl (Nat.le_of_ble_eq_true rfl) (Nat.le_of_ble_eq_true rfl) (Nat.le_of_ble_eq_true rfl) (by omega) (by omega) (fun hp42 => ?_)
                obtain ⟨hr39, hFr39⟩ := hp42
                refine j_tightL hK0 hFr39 ?_
                refine j_iconst hC dL_law_139 ?_
                refine j_icmp_ne hC dL_law_140 rfl (w_id hr39) (w_id kR_1) (fun c43 => ?_) (fun c43 => ?_)
                · have h := zf c43 h
                  cases h
                · have h := zt c43 h
                  refine j_aload_n hC 5 dL_law_143 rfl rfl ?_
                  refine j_iload hC 2 dL_law_144 rfl ?_
                  refine j_aload hC 1 dL_law_146 rfl ?_
                  obtain ⟨cp44, h⟩ := zchk_ex h
                  obtain ⟨r45, M46, S47, hy, h⟩ := zb3_ex h
                  refine j_callSi hC hE lk_L_234 dL_law_148 (c_L_areSizes l hlt g r11 q17 hr11 M40 S41 hFr39 hy) [zr g 1, .int (zi r11), zr g q17] [] rfl rfl rfl (zcat (Nat.le_of_ble_eq_true rfl)) (Nat.le_of_ble_eq_true rfl) (Nat.le_of_ble_eq_true rfl) (by omega) (by omega) (fun hp48 => ?_)
                  obtain ⟨hr45, hFr45⟩ := hp48
                  refine j_tightL hK0 hFr45 ?_
                  refine j_if_eq hC dL_law_151 rfl (w_id hr45) (fun c49 => ?_) (fun c49 => ?_)
                  · have h := zt c49 h
                    cases h
                  · have h := zf c49 h
                    refine j_aload_n hC 5 dL_law_154 rfl rfl ?_
                    refine j_sload_n hC 4 dL_law_155 rfl rfl ?_
                    refine j_iload_n hC 3 dL_law_156 rfl rfl ?_
                    refine j_iload hC 2 dL_law_157 rfl ?_
                    refine j_aload hC 0 dL_law_159 rfl ?_
                    obtain ⟨cp50, h⟩ := zchk_ex h
                    obtain ⟨r51, M52, S53, hy, h⟩ := zb3_ex h
                    refine j_callSi hC hE lk_L_238 dL_law_161 (c_L_areContexts l hlt g x4 r11 q22 hx4 hr11 M46 S47 hFr45 hy) [zr g 1, .ref (zgb g), .int (zi x4), .int (zi r11), zr g q22] [] rfl rfl rfl (zcat (Nat.le_of_ble_eq_true rfl)) (Nat.le_of_ble_eq_true rfl) (Nat.le_of_ble_eq_true rfl) (by omega) (by omega) (fun hp54 => ?_)
                    obtain ⟨hr51, hFr51⟩ := hp54
                    refine j_tightL hK0 hFr51 ?_
                    refine j_if_eq hC dL_law_164 rfl (w_id hr51) (fun c55 => ?_) (fun c55 => ?_)
                    · have h := zt c55 h
                      cases h
                    · have h := zf c55 h
                      refine j_aload_n hC 5 dL_law_167 rfl rfl ?_
                      refine j_iload hC 2 dL_law_168 rfl ?_
                      obtain ⟨cp56, h⟩ := zchk_ex h
                      obtain ⟨r57, M58, S59, hy, h⟩ := zb3_ex h
                      refine j_callSi hC hE lk_L_242 dL_law_170 (c_L_areFollowing l hlt g r11 hr11 M52 S53 hFr51 hy) [zr g 1, .int (zi r11)] [] rfl rfl rfl (zcat (Nat.le_of_ble_eq_true rfl)) (Nat.le_of_ble_eq_true rfl) (Nat.le_of_ble_eq_true rfl) (by omega) (by omega) (fun hp60 => ?_)
                      obtain ⟨hr57, hFr57⟩ := hp60
                      refine j_tightL hK0 hFr57 ?_
                      refine j_if_ne hC dL_law_173 rfl (w_id hr57) (fun c61 => ?_) (fun c61 => ?_)
                      · have h := zf c61 h
                        refine j_sub [4, 5, 6] rfl ?_
                        exact J_178 v2 hv2 M58 S59 hFr57 _ h hT
                      · have h := zt c61 h
                        cases h
          · have h := zt c15 h
            refine j_goto hC dL_law_97 rfl ?_
            refine j_sub [2, 3, 4] rfl ?_
            exact J_178 v2 hv2 M12 S13 hFr11 _ h hT
    exact main zN v2 hv2 M S hF hl
  obtain ⟨c62, h⟩ := zchk_ex h
  obtain ⟨S63, eS63, h⟩ := zlet_ex h
  refine j_new hC hE n_L_26 pF_X10 dL_law_0 c62.symm eS63 (Or.inl (by omega)) (Nat.le_of_ble_eq_true rfl) (Nat.le_of_ble_eq_true rfl) ?_
  refine j_dup hC dL_law_3 (zr_cat _ _) ?_
  obtain ⟨M64, S65, hy, h⟩ := zb2_ex h
  refine j_callIv hC hE lk_L_218 dL_law_4 (c_X10_init l hlt g 1 M S63 hy) [] [zr g 1] (by decide) rfl rfl rfl (zcat (Nat.le_of_ble_eq_true rfl)) (Nat.le_of_ble_eq_true rfl) (Nat.le_of_ble_eq_true rfl) (by omega) (by omega) (fun hp66 => ?_)
  obtain ⟨c67, h⟩ := zchk_ex h
  obtain ⟨S68, eS68, h⟩ := zlet_ex h
  refine j_jump c67 eS68 ?_
  obtain ⟨c69, h⟩ := zchkP_ex h
  refine j_tightL hK0 c69 ?_
  refine j_astore_n (lv1 := [(1, zr g 1), (0, .ref (zgb g))]) hC dL_law_7 rfl (Nat.le_of_ble_eq_true rfl) (by simp only [List.filter_cons, List.filter_nil, zr_cat, zc_i, zc_l, zc_d, zc_r] <;> first | rfl | simp [zr_cat]) ?_
  refine j_aload_n hC 0 dL_law_8 rfl rfl ?_
  obtain ⟨cp70, h⟩ := zchk_ex h
  obtain ⟨r71, M72, S73, hy, h⟩ := zb3_ex h
  refine j_callTi hC hE lk_L_209 dL_law_9 (c_L_size l hlt g M64 S68 c69 hy) [zr g 1] [] rfl rfl rfl (Nat.le_of_ble_eq_true rfl) (Nat.le_of_ble_eq_true rfl) (Nat.le_of_ble_eq_true rfl) (by omega) (by omega) (fun hp74 => ?_)
  obtain ⟨hr71, hFr71⟩ := hp74
  refine j_tightL hK0 hFr71 ?_
  refine j_if_ne hC dL_law_12 rfl (w_id hr71) (fun c75 => ?_) (fun c75 => ?_)
  · have h := zf c75 h
    cases h
  · have h := zt c75 h
    refine j_aload_n hC 0 dL_law_15 rfl rfl ?_
    refine j_iconst hC dL_law_16 ?_
    obtain ⟨cp76, h⟩ := zchk_ex h
    obtain ⟨r80, M78, S79, hy, hx81, hk82⟩ := zbx_ex h
    refine j_callXVi (ci := 7) hC hE hN lk_L_90 dL_law_17 (c_X10_count l hlt g 2 kR_2 M72 S73 hFr71 hy) [.int (zi 2)] [] (zFx_kd hFr71 1 rfl) ⟨_, rfl, by decide, rfl⟩ rfl rfl rfl (zcat (Nat.le_of_ble_eq_true rfl)) (Nat.le_of_ble_eq_true rfl) (Nat.le_of_ble_eq_true rfl) (by omega) (by omega) (fun e he hp83 => by cases hx81 e he) (fun r77 he hp83 => ?_)
    have h := hk82 r77 he
    subst he
    dsimp only [zRXi, zRXl] at hp83
    obtain ⟨hr77, hF84⟩ := hp83
    refine j_tightL hK0 hF84 ?_
    refine j_iconst hC dL_law_20 ?_
    refine j_icmp_ne hC dL_law_21 rfl (w_id hr77) (w_id kR_1) (fun c85 => ?_) (fun c85 => ?_)
    · have h := zf c85 h
      cases h
    · have h := zt c85 h
      refine j_aload_n hC 0 dL_law_24 rfl rfl ?_
      refine j_iconst hC dL_law_25 ?_
      obtain ⟨cp86, h⟩ := zchk_ex h
      obtain ⟨r90, M88, S89, hy, hx91, hk92⟩ := zbx_ex h
      refine j_callXVi (ci := 7) hC hE hN lk_L_90 dL_law_26 (c_X10_count l hlt g 3 kR_3 M78 S79 hF84 hy) [.int (zi 3)] [] (zFx_kd hF84 1 rfl) ⟨_, rfl, by decide, rfl⟩ rfl rfl rfl (zcat (Nat.le_of_ble_eq_true rfl)) (Nat.le_of_ble_eq_true rfl) (Nat.le_of_ble_eq_true rfl) (by omega) (by omega) (fun e he hp93 => by cases hx91 e he) (fun r87 he hp93 => ?_)
      have h := hk92 r87 he
      subst he
      dsimp only [zRXi, zRXl] at hp93
      obtain ⟨hr87, hF94⟩ := hp93
      refine j_tightL hK0 hF94 ?_
      refine j_bipush hC dL_law_29 rfl ?_
      refine j_icmp_ne hC dL_law_31 rfl (w_id hr87) (w_id kR_6) (fun c95 => ?_) (fun c95 => ?_)
      · have h := zf c95 h
        cases h
      · have h := zt c95 h
        refine j_aload_n hC 0 dL_law_34 rfl rfl ?_
        obtain ⟨cp96, h⟩ := zchk_ex h
        obtain ⟨r100, M98, S99, hy, hx101, hk102⟩ := zbx_ex h
        refine j_callXVi (ci := 7) hC hE hN lk_L_191 dL_law_35 (c_X10_minimalContexts l hlt g M88 S89 hF94 hy) [] [] (zFx_kd hF94 1 rfl) ⟨_, rfl, by decide, rfl⟩ rfl rfl rfl (zcat (Nat.le_of_ble_eq_true rfl)) (Nat.le_of_ble_eq_true rfl) (Nat.le_of_ble_eq_true rfl) (by omega) (by omega) (fun e he hp103 => by cases hx101 e he) (fun r97 he hp103 => ?_)
        have h := hk102 r97 he
        subst he
        dsimp only [zRXi, zRXl] at hp103
        obtain ⟨hr97, hF104⟩ := hp103
        refine j_tightL hK0 hF104 ?_
        refine j_if_ne hC dL_law_38 rfl (w_id hr97) (fun c105 => ?_) (fun c105 => ?_)
        · have h := zf c105 h
          cases h
        · have h := zt c105 h
          refine j_aload_n hC 0 dL_law_41 rfl rfl ?_
          obtain ⟨cp106, h⟩ := zchk_ex h
          obtain ⟨r110, M108, S109, hy, hx111, hk112⟩ := zbx_ex h
          refine j_callXVi (ci := 7) hC hE hN lk_L_153 dL_law_42 (c_X10_isGenerated l hlt g M98 S99 hF104 hy) [] [] (zFx_kd hF104 1 rfl) ⟨_, rfl, by decide, rfl⟩ rfl rfl rfl (zcat (Nat.le_of_ble_eq_true rfl)) (Nat.le_of_ble_eq_true rfl) (Nat.le_of_ble_eq_true rfl) (by omega) (by omega) (fun e he hp113 => by cases hx111 e he) (fun r107 he hp113 => ?_)
          have h := hk112 r107 he
          subst he
          dsimp only [zRXi, zRXl] at hp113
          obtain ⟨hr107, hF114⟩ := hp113
          refine j_tightL hK0 hF114 ?_
          refine j_if_ne hC dL_law_45 rfl (w_id hr107) (fun c115 => ?_) (fun c115 => ?_)
          · have h := zf c115 h
            cases h
          · have h := zt c115 h
            refine j_aload_n hC 0 dL_law_48 rfl rfl ?_
            obtain ⟨cp116, h⟩ := zchk_ex h
            obtain ⟨r117, M118, S119, hy, h⟩ := zb3_ex h
            refine j_callTi hC hE lk_L_157 dL_law_49 (c_L_rank l hlt g M108 S109 hF114 hy) [zr g 1] [] rfl rfl rfl (Nat.le_of_ble_eq_true rfl) (Nat.le_of_ble_eq_true rfl) (Nat.le_of_ble_eq_true rfl) (by omega) (by omega) (fun hp120 => ?_)
            obtain ⟨hr117, hFr117⟩ := hp120
            refine j_tightL hK0 hFr117 ?_
            refine j_iconst hC dL_law_52 ?_
            refine j_icmp_ne hC dL_law_53 rfl (w_id hr117) (w_id kR_m1) (fun c121 => ?_) (fun c121 => ?_)
            · have h := zf c121 h
              cases h
            · have h := zt c121 h
              refine j_aload_n hC 0 dL_law_56 rfl rfl ?_
              obtain ⟨cp122, h⟩ := zchk_ex h
              obtain ⟨r126, M124, S125, hy, hx127, hk128⟩ := zbx_ex h
              refine j_callXVi (ci := 7) hC hE hN lk_L_219 dL_law_57 (c_X10_isConfluent l hlt g M118 S119 hFr117 hy) [] [] (zFx_kd hFr117 1 rfl) ⟨_, rfl, by decide, rfl⟩ rfl rfl rfl (zcat (Nat.le_of_ble_eq_true rfl)) (Nat.le_of_ble_eq_true rfl) (Nat.le_of_ble_eq_true rfl) (by omega) (by omega) (fun e he hp129 => by cases hx127 e he) (fun r123 he hp129 => ?_)
              have h := hk128 r123 he
              subst he
              dsimp only [zRXi, zRXl] at hp129
              obtain ⟨hr123, hF130⟩ := hp129
              refine j_tightL hK0 hF130 ?_
              refine j_if_ne hC dL_law_60 rfl (w_id hr123) (fun c131 => ?_) (fun c131 => ?_)
              · have h := zf c131 h
                refine j_iconst hC dL_law_65 ?_
                refine j_istore_n hC dL_law_66 rfl (Nat.le_of_ble_eq_true rfl) rfl ?_
                refine j_sub [2, 1, 0] rfl ?_
                exact L_67 0 kR_0 M124 S125 hF130 h
              · have h := zt c131 h
                cases h
