/-! THE LAW: a program has written it -/
set_option maxHeartbeats 8000000 in
set_option maxRecDepth 100000 in
theorem c_L_law (K : zK) (l : Launch) (hlt : l.stackTraces = false) (g : zG) (hK0 : zK0L K g) (hL : zgL g ≤ 260) (ln : Int) (hln : ln = (zgL g : Int)) (scr : Int → Int) (hscr : scr = zscr (zgx g)) (M : zM) (S : zS) {r : Int} {M' : zM} {S' : zS} (hC : zC K l g cL_law 7 RL) (nm : String) (hE : zE K g nm (some .boolean) 256 600130 7301080 (.inl (some (.int (zi r)))) M' S' (inR r ∧ zFx S')) (hN : zNt K) (h : F_L_law ln scr M S = some (r, M', S')) : zJ K g 0 0 0 7 [(0, .ref (zgb g))] [] M S := by
  have hlnR : inR ln := by rw [hln]; exact ⟨by omega, by omega⟩
  have hscrR : ∀ i, inR (scr i) := by intro i; rw [hscr]; exact cR_zscr _ i
  unfold F_L_law at h
  have J_184 : ∀ (M : zM) (S : zS) (hF : zFx S) (_ : F_L_law_J184 ln scr M S = some (r, M', S')), zJ K g (47 + (S.1 - 89)) (400000 + 1000 * (S.1 - 89)) 184 7 [] [] M S := by
    intro M S hF h
    unfold F_L_law_J184 at h
    refine j_iconst hC dL_law_184 ?_
    obtain ⟨e1, e2, e3⟩ := zpr3 (Option.some.inj h)
    exact j_iret hC hE dL_law_185 (w_id kR_1) (zn_z zb01_1) (by rw [← e1]) e2 e3 ⟨(by rw [← e1]; exact kR_1), (by rw [← e3]; exact hF)⟩ (by omega) (by omega)
  have L_67 : ∀ (v2 : Int) (hv2 : inR v2) (M : zM) (S : zS) (hF : zFx S) (_ : F_L_law_L67 ln scr v2 M S = some (r, M', S')), zJ K g (47 + (S.1 - 89)) (400000 + 1000 * (S.1 - 89)) 67 7 [(0, .ref (zgb g)), (1, zr g 1), (2, .int (zi v2))] [] M S := by
    intro v2 hv2 M S hF h
    unfold F_L_law_L67 at h
    obtain ⟨ex67, hl, hd67⟩ := zb1_ex h
    obtain ⟨bd67, ebd⟩ : ∃ f, f = (fun (s : Int × zM × zS) => F_L_law_B67 ln scr s.1 s.2.1 s.2.2) := ⟨_, rfl⟩
    rw [← ebd] at hl
    have main : ∀ (n67 : Nat) (v2 : Int) (hv2 : inR v2) (M : zM) (S : zS) (hF : zFx S) (_ : zloop bd67 n67 (v2, M, S) = some ex67), zJ K g (47 + (S.1 - 89)) (400000 + 1000 * (S.1 - 89)) 67 7 [(0, .ref (zgb g)), (1, zr g 1), (2, .int (zi v2))] [] M S := by
      intro n67
      induction n67 with
      | zero => intro v2 hv2 M S hF hl; exact zloop_0 hl
      | succ n67 ih67 =>
        have J_178 : ∀ (v2 : Int) (hv2 : inR v2) (M : zM) (S : zS) (hF : zFx S) (o : _) (_ : F_L_law_J178 ln scr v2 M S = some o), zAft (bd67) n67 ex67 o → zJ K g (47 + (S.1 - 89)) (400000 + 1000 * (S.1 - 89)) 178 7 [(0, .ref (zgb g)), (1, zr g 1), (2, .int (zi v2))] [] M S := by
          intro v2 hv2 M S hF o h hT
          unfold F_L_law_J178 at h
          obtain ⟨x1, ex1, h⟩ := zlet_ex h
          have hx1 : inR x1 := by rw [ex1]; exact inR_w _
          refine j_iinc hC 2 dL_law_178 rfl ex1 (Nat.le_of_ble_eq_true rfl) rfl ?_
          refine j_goto hC dL_law_181 rfl ?_
          obtain rfl := Option.some.inj h
          refine j_sub [1, 2, 0] rfl ?_
          exact ih67 x1 hx1 M S hF hT
        intro v2 hv2 M S hF hl
        obtain ⟨o, h, hT⟩ := zloop_ex hl
        have h : F_L_law_B67 ln scr v2 M S = some o := by rw [ebd] at h; exact h
        unfold F_L_law_B67 at h
        refine j_iload_n hC 2 dL_law_67 rfl rfl ?_
        refine j_iconst hC dL_law_68 ?_
        refine j_icmp_ge hC dL_law_69 rfl (w_id hv2) (w_id kR_2) (fun c2 => ?_) (fun c2 => ?_)
        · have h := zf c2 h
          obtain rfl := Option.some.inj h
          have hx67 := hd67
          rw [← show _ = ex67 from hT] at hx67
          refine j_sub [] rfl ?_
          exact J_184 M S hF hx67
        · have h := zt c2 h
          refine j_bipush hC dL_law_72 rfl ?_
          refine j_bipush hC dL_law_74 rfl ?_
          refine j_iload_n hC 2 dL_law_76 rfl rfl ?_
          refine j_imul hC dL_law_77 ?_
          refine j_iadd hC dL_law_78 ?_
          obtain ⟨x3, ex3, h⟩ := zlet_ex h
          have hx3 : inR x3 := by rw [ex3]; exact inR_w _
          refine j_namei ex3 ?_
          refine j_istore_n hC dL_law_79 rfl (Nat.le_of_ble_eq_true rfl) rfl ?_
          refine j_aload_n hC 2 dL_law_80 rfl rfl ?_
          refine j_sload_n hC 1 dL_law_81 rfl rfl ?_
          refine j_iload_n hC 0 dL_law_82 rfl rfl ?_
          obtain ⟨M4, S5, hy, h⟩ := zb2_ex h
          refine j_callSv hC hE lk_L_222 dL_law_83 (c_L_build l hlt g hL ln hln scr hscr x3 hx3 M S hF hy) [zr g 1, .ref (zgb g), .int (zi x3)] [] rfl rfl rfl (zcat (Nat.le_of_ble_eq_true rfl)) (Nat.le_of_ble_eq_true rfl) (Nat.le_of_ble_eq_true rfl) (by omega) (by omega) (fun hp6 => ?_)
          have hF7 := hp6
          refine j_tightL hK0 hF7 ?_
          refine j_aload_n hC 2 dL_law_86 rfl rfl ?_
          obtain ⟨r8, M9, S10, hy, h⟩ := zb3_ex h
          refine j_callTi hC hE lk_L_209 dL_law_87 (c_L_size l hlt g M4 S5 hF7 hy) [zr g 1] [] rfl rfl rfl (Nat.le_of_ble_eq_true rfl) (Nat.le_of_ble_eq_true rfl) (Nat.le_of_ble_eq_true rfl) (by omega) (by omega) (fun hp11 => ?_)
          obtain ⟨hr8, hFr8⟩ := hp11
          refine j_tightL hK0 hFr8 ?_
          refine j_istore hC dL_law_90 (Nat.le_of_ble_eq_true rfl) rfl ?_
          refine j_iload hC 0 dL_law_92 rfl ?_
          refine j_if_ge hC dL_law_94 rfl (w_id hr8) (fun c12 => ?_) (fun c12 => ?_)
          · have h := zf c12 h
            refine j_bipush hC dL_law_100 rfl ?_
            obtain ⟨q13, eq13, h⟩ := zlet_ex h
            obtain ⟨S14, eS14, h⟩ := zlet_ex h
            refine j_newa20 (N := 10) (mx := 10) hC hE ka_20 dL_law_102 (w_id kR_10) rfl (Nat.le_of_ble_eq_true rfl) (Nat.le_of_ble_eq_true rfl) eq13 eS14 (Or.inr ⟨zFx_cnt hFr8, (Nat.le_of_ble_eq_true rfl)⟩) (by omega) (by omega) ?_
            have hF15 : zFx S14 := zFx_zn hFr8 eS14
            refine j_tightL hK0 hF15 ?_
            refine j_astore hC dL_law_104 (Nat.le_of_ble_eq_true rfl) rfl ?_
            refine j_iconst hC dL_law_106 ?_
            obtain ⟨q16, eq16, h⟩ := zlet_ex h
            obtain ⟨S17, eS17, h⟩ := zlet_ex h
            refine j_newa22 (N := 5) (mx := 5) hC hE ka_22 dL_law_107 (w_id kR_5) rfl (Nat.le_of_ble_eq_true rfl) (Nat.le_of_ble_eq_true rfl) eq16 eS17 (Or.inr ⟨zFx_cnt hF15, (Nat.le_of_ble_eq_true rfl)⟩) (by omega) (by omega) ?_
            have hF18 : zFx S17 := zFx_zn hF15 eS17
            refine j_tightL hK0 hF18 ?_
            refine j_astore (lv1 := [(6, zr g q16), (5, zr g q13), (4, .int (zi r8)), (3, .int (zi x3)), (0, .ref (zgb g)), (1, zr g 1), (2, .int (zi v2))]) hC dL_law_109 (Nat.le_of_ble_eq_true rfl) (by simp only [List.filter_cons, List.filter_nil, zr_cat, zc_i, zc_l, zc_d, zc_r] <;> first | rfl | simp) ?_
            refine j_aload_n hC 5 dL_law_111 rfl rfl ?_
            refine j_iload hC 2 dL_law_112 rfl ?_
            refine j_aload hC 1 dL_law_114 rfl ?_
            refine j_aload hC 0 dL_law_116 rfl ?_
            obtain ⟨r19, M20, S21, hy, h⟩ := zb3_ex h
            refine j_callSi hC hE lk_L_226 dL_law_118 (c_L_areWords l hlt g r8 q13 q16 hr8 M9 S17 hF18 hy) [zr g 1, .int (zi r8), zr g q13, zr g q16] [] rfl rfl rfl (zcat (Nat.le_of_ble_eq_true rfl)) (Nat.le_of_ble_eq_true rfl) (Nat.le_of_ble_eq_true rfl) (by omega) (by omega) (fun hp22 => ?_)
            obtain ⟨hr19, hFr19⟩ := hp22
            refine j_tightL hK0 hFr19 ?_
            refine j_if_eq hC dL_law_121 rfl (w_id hr19) (fun c23 => ?_) (fun c23 => ?_)
            · have h := zt c23 h
              cases h
            · have h := zf c23 h
              refine j_aload_n hC 5 dL_law_124 rfl rfl ?_
              refine j_iload hC 2 dL_law_125 rfl ?_
              obtain ⟨r24, M25, S26, hy, h⟩ := zb3_ex h
              refine j_callTi hC hE lk_L_230 dL_law_127 (c_L_take l hlt g r8 hr8 M20 S21 hFr19 hy) [zr g 1, .int (zi r8)] [] rfl rfl rfl (Nat.le_of_ble_eq_true rfl) (Nat.le_of_ble_eq_true rfl) (Nat.le_of_ble_eq_true rfl) (by omega) (by omega) (fun hp27 => ?_)
              obtain ⟨hr24, hFr24⟩ := hp27
              refine j_tightL hK0 hFr24 ?_
              refine j_iconst hC dL_law_130 ?_
              refine j_icmp_ne hC dL_law_131 rfl (w_id hr24) (w_id kR_1) (fun c28 => ?_) (fun c28 => ?_)
              · have h := zf c28 h
                cases h
              · have h := zt c28 h
                refine j_aload_n hC 5 dL_law_134 rfl rfl ?_
                refine j_iconst hC dL_law_135 ?_
                obtain ⟨r29, M30, S31, hy, h⟩ := zb3_ex h
                refine j_callTi hC hE lk_L_230 dL_law_136 (c_L_take l hlt g (-1) kR_m1 M25 S26 hFr24 hy) [zr g 1, .int (zi (-1))] [] rfl rfl rfl (Nat.le_of_ble_eq_true rfl) (Nat.le_of_ble_eq_true rfl) (Nat.le_of_ble_eq_true rfl) (by omega) (by omega) (fun hp32 => ?_)
                obtain ⟨hr29, hFr29⟩ := hp32
                refine j_tightL hK0 hFr29 ?_
                refine j_iconst hC dL_law_139 ?_
                refine j_icmp_ne hC dL_law_140 rfl (w_id hr29) (w_id kR_1) (fun c33 => ?_) (fun c33 => ?_)
                · have h := zf c33 h
                  cases h
                · have h := zt c33 h
                  refine j_aload_n hC 5 dL_law_143 rfl rfl ?_
                  refine j_iload hC 2 dL_law_144 rfl ?_
                  refine j_aload hC 1 dL_law_146 rfl ?_
                  obtain ⟨r34, M35, S36, hy, h⟩ := zb3_ex h
                  refine j_callSi hC hE lk_L_234 dL_law_148 (c_L_areSizes l hlt g r8 q13 hr8 M30 S31 hFr29 hy) [zr g 1, .int (zi r8), zr g q13] [] rfl rfl rfl (zcat (Nat.le_of_ble_eq_true rfl)) (Nat.le_of_ble_eq_true rfl) (Nat.le_of_ble_eq_true rfl) (by omega) (by omega) (fun hp37 => ?_)
                  obtain ⟨hr34, hFr34⟩ := hp37
                  refine j_tightL hK0 hFr34 ?_
                  refine j_if_eq hC dL_law_151 rfl (w_id hr34) (fun c38 => ?_) (fun c38 => ?_)
                  · have h := zt c38 h
                    cases h
                  · have h := zf c38 h
                    refine j_aload_n hC 5 dL_law_154 rfl rfl ?_
                    refine j_sload_n hC 4 dL_law_155 rfl rfl ?_
                    refine j_iload_n hC 3 dL_law_156 rfl rfl ?_
                    refine j_iload hC 2 dL_law_157 rfl ?_
                    refine j_aload hC 0 dL_law_159 rfl ?_
                    obtain ⟨r39, M40, S41, hy, h⟩ := zb3_ex h
                    refine j_callSi hC hE lk_L_238 dL_law_161 (c_L_areContexts l hlt g x3 r8 q16 hx3 hr8 M35 S36 hFr34 hy) [zr g 1, .ref (zgb g), .int (zi x3), .int (zi r8), zr g q16] [] rfl rfl rfl (zcat (Nat.le_of_ble_eq_true rfl)) (Nat.le_of_ble_eq_true rfl) (Nat.le_of_ble_eq_true rfl) (by omega) (by omega) (fun hp42 => ?_)
                    obtain ⟨hr39, hFr39⟩ := hp42
                    refine j_tightL hK0 hFr39 ?_
                    refine j_if_eq hC dL_law_164 rfl (w_id hr39) (fun c43 => ?_) (fun c43 => ?_)
                    · have h := zt c43 h
                      cases h
                    · have h := zf c43 h
                      refine j_aload_n hC 5 dL_law_167 rfl rfl ?_
                      refine j_iload hC 2 dL_law_168 rfl ?_
                      obtain ⟨r44, M45, S46, hy, h⟩ := zb3_ex h
                      refine j_callSi hC hE lk_L_242 dL_law_170 (c_L_areFollowing l hlt g r8 hr8 M40 S41 hFr39 hy) [zr g 1, .int (zi r8)] [] rfl rfl rfl (zcat (Nat.le_of_ble_eq_true rfl)) (Nat.le_of_ble_eq_true rfl) (Nat.le_of_ble_eq_true rfl) (by omega) (by omega) (fun hp47 => ?_)
                      obtain ⟨hr44, hFr44⟩ := hp47
                      refine j_tightL hK0 hFr44 ?_
                      refine j_if_ne hC dL_law_173 rfl (w_id hr44) (fun c48 => ?_) (fun c48 => ?_)
                      · have h := zf c48 h
                        refine j_sub [4, 5, 6] rfl ?_
                        exact J_178 v2 hv2 M45 S46 hFr44 _ h hT
                      · have h := zt c48 h
                        cases h
          · have h := zt c12 h
            refine j_goto hC dL_law_97 rfl ?_
            refine j_sub [2, 3, 4] rfl ?_
            exact J_178 v2 hv2 M9 S10 hFr8 _ h hT
    exact main zN v2 hv2 M S hF hl
  obtain ⟨c49, h⟩ := zchk_ex h
  obtain ⟨S50, eS50, h⟩ := zlet_ex h
  refine j_new hC hE n_L_26 pF_X10 dL_law_0 c49.symm eS50 (Or.inl (by omega)) (Nat.le_of_ble_eq_true rfl) (Nat.le_of_ble_eq_true rfl) ?_
  refine j_dup hC dL_law_3 (zr_cat _ _) ?_
  obtain ⟨M51, S52, hy, h⟩ := zb2_ex h
  refine j_callIv hC hE lk_L_218 dL_law_4 (c_X10_init l hlt g 1 M S50 hy) [] [zr g 1] (by decide) rfl rfl rfl (zcat (Nat.le_of_ble_eq_true rfl)) (Nat.le_of_ble_eq_true rfl) (Nat.le_of_ble_eq_true rfl) (by omega) (by omega) (fun hp53 => ?_)
  obtain ⟨c54, h⟩ := zchk_ex h
  obtain ⟨S55, eS55, h⟩ := zlet_ex h
  refine j_jump c54 eS55 ?_
  obtain ⟨c56, h⟩ := zchkP_ex h
  refine j_tightL hK0 c56 ?_
  refine j_astore_n (lv1 := [(1, zr g 1), (0, .ref (zgb g))]) hC dL_law_7 rfl (Nat.le_of_ble_eq_true rfl) (by simp only [List.filter_cons, List.filter_nil, zr_cat, zc_i, zc_l, zc_d, zc_r] <;> first | rfl | simp) ?_
  refine j_aload_n hC 0 dL_law_8 rfl rfl ?_
  obtain ⟨r57, M58, S59, hy, h⟩ := zb3_ex h
  refine j_callTi hC hE lk_L_209 dL_law_9 (c_L_size l hlt g M51 S55 c56 hy) [zr g 1] [] rfl rfl rfl (Nat.le_of_ble_eq_true rfl) (Nat.le_of_ble_eq_true rfl) (Nat.le_of_ble_eq_true rfl) (by omega) (by omega) (fun hp60 => ?_)
  obtain ⟨hr57, hFr57⟩ := hp60
  refine j_tightL hK0 hFr57 ?_
  refine j_if_ne hC dL_law_12 rfl (w_id hr57) (fun c61 => ?_) (fun c61 => ?_)
  · have h := zf c61 h
    cases h
  · have h := zt c61 h
    refine j_aload_n hC 0 dL_law_15 rfl rfl ?_
    refine j_iconst hC dL_law_16 ?_
    obtain ⟨r65, M63, S64, hy, hx66, hk67⟩ := zbx_ex h
    refine j_callXVi (ci := 7) hC hE hN lk_L_90 dL_law_17 (c_X10_count l hlt g 2 kR_2 M58 S59 hFr57 hy) [.int (zi 2)] [] (zFx_kd hFr57 1 rfl) ⟨_, rfl, by decide, rfl⟩ rfl rfl rfl (zcat (Nat.le_of_ble_eq_true rfl)) (Nat.le_of_ble_eq_true rfl) (Nat.le_of_ble_eq_true rfl) (by omega) (by omega) (fun e he hp68 => by cases hx66 e he) (fun r62 he hp68 => ?_)
    have h := hk67 r62 he
    subst he
    dsimp only [zRXi, zRXl] at hp68
    obtain ⟨hr62, hF69⟩ := hp68
    refine j_tightL hK0 hF69 ?_
    refine j_iconst hC dL_law_20 ?_
    refine j_icmp_ne hC dL_law_21 rfl (w_id hr62) (w_id kR_1) (fun c70 => ?_) (fun c70 => ?_)
    · have h := zf c70 h
      cases h
    · have h := zt c70 h
      refine j_aload_n hC 0 dL_law_24 rfl rfl ?_
      refine j_iconst hC dL_law_25 ?_
      obtain ⟨r74, M72, S73, hy, hx75, hk76⟩ := zbx_ex h
      refine j_callXVi (ci := 7) hC hE hN lk_L_90 dL_law_26 (c_X10_count l hlt g 3 kR_3 M63 S64 hF69 hy) [.int (zi 3)] [] (zFx_kd hF69 1 rfl) ⟨_, rfl, by decide, rfl⟩ rfl rfl rfl (zcat (Nat.le_of_ble_eq_true rfl)) (Nat.le_of_ble_eq_true rfl) (Nat.le_of_ble_eq_true rfl) (by omega) (by omega) (fun e he hp77 => by cases hx75 e he) (fun r71 he hp77 => ?_)
      have h := hk76 r71 he
      subst he
      dsimp only [zRXi, zRXl] at hp77
      obtain ⟨hr71, hF78⟩ := hp77
      refine j_tightL hK0 hF78 ?_
      refine j_bipush hC dL_law_29 rfl ?_
      refine j_icmp_ne hC dL_law_31 rfl (w_id hr71) (w_id kR_6) (fun c79 => ?_) (fun c79 => ?_)
      · have h := zf c79 h
        cases h
      · have h := zt c79 h
        refine j_aload_n hC 0 dL_law_34 rfl rfl ?_
        obtain ⟨r83, M81, S82, hy, hx84, hk85⟩ := zbx_ex h
        refine j_callXVi (ci := 7) hC hE hN lk_L_191 dL_law_35 (c_X10_minimalContexts l hlt g M72 S73 hF78 hy) [] [] (zFx_kd hF78 1 rfl) ⟨_, rfl, by decide, rfl⟩ rfl rfl rfl (zcat (Nat.le_of_ble_eq_true rfl)) (Nat.le_of_ble_eq_true rfl) (Nat.le_of_ble_eq_true rfl) (by omega) (by omega) (fun e he hp86 => by cases hx84 e he) (fun r80 he hp86 => ?_)
        have h := hk85 r80 he
        subst he
        dsimp only [zRXi, zRXl] at hp86
        obtain ⟨hr80, hF87⟩ := hp86
        refine j_tightL hK0 hF87 ?_
        refine j_if_ne hC dL_law_38 rfl (w_id hr80) (fun c88 => ?_) (fun c88 => ?_)
        · have h := zf c88 h
          cases h
        · have h := zt c88 h
          refine j_aload_n hC 0 dL_law_41 rfl rfl ?_
          obtain ⟨r92, M90, S91, hy, hx93, hk94⟩ := zbx_ex h
          refine j_callXVi (ci := 7) hC hE hN lk_L_153 dL_law_42 (c_X10_isGenerated l hlt g M81 S82 hF87 hy) [] [] (zFx_kd hF87 1 rfl) ⟨_, rfl, by decide, rfl⟩ rfl rfl rfl (zcat (Nat.le_of_ble_eq_true rfl)) (Nat.le_of_ble_eq_true rfl) (Nat.le_of_ble_eq_true rfl) (by omega) (by omega) (fun e he hp95 => by cases hx93 e he) (fun r89 he hp95 => ?_)
          have h := hk94 r89 he
          subst he
          dsimp only [zRXi, zRXl] at hp95
          obtain ⟨hr89, hF96⟩ := hp95
          refine j_tightL hK0 hF96 ?_
          refine j_if_ne hC dL_law_45 rfl (w_id hr89) (fun c97 => ?_) (fun c97 => ?_)
          · have h := zf c97 h
            cases h
          · have h := zt c97 h
            refine j_aload_n hC 0 dL_law_48 rfl rfl ?_
            obtain ⟨r98, M99, S100, hy, h⟩ := zb3_ex h
            refine j_callTi hC hE lk_L_157 dL_law_49 (c_L_rank l hlt g M90 S91 hF96 hy) [zr g 1] [] rfl rfl rfl (Nat.le_of_ble_eq_true rfl) (Nat.le_of_ble_eq_true rfl) (Nat.le_of_ble_eq_true rfl) (by omega) (by omega) (fun hp101 => ?_)
            obtain ⟨hr98, hFr98⟩ := hp101
            refine j_tightL hK0 hFr98 ?_
            refine j_iconst hC dL_law_52 ?_
            refine j_icmp_ne hC dL_law_53 rfl (w_id hr98) (w_id kR_m1) (fun c102 => ?_) (fun c102 => ?_)
            · have h := zf c102 h
              cases h
            · have h := zt c102 h
              refine j_aload_n hC 0 dL_law_56 rfl rfl ?_
              obtain ⟨r106, M104, S105, hy, hx107, hk108⟩ := zbx_ex h
              refine j_callXVi (ci := 7) hC hE hN lk_L_219 dL_law_57 (c_X10_isConfluent l hlt g M99 S100 hFr98 hy) [] [] (zFx_kd hFr98 1 rfl) ⟨_, rfl, by decide, rfl⟩ rfl rfl rfl (zcat (Nat.le_of_ble_eq_true rfl)) (Nat.le_of_ble_eq_true rfl) (Nat.le_of_ble_eq_true rfl) (by omega) (by omega) (fun e he hp109 => by cases hx107 e he) (fun r103 he hp109 => ?_)
              have h := hk108 r103 he
              subst he
              dsimp only [zRXi, zRXl] at hp109
              obtain ⟨hr103, hF110⟩ := hp109
              refine j_tightL hK0 hF110 ?_
              refine j_if_ne hC dL_law_60 rfl (w_id hr103) (fun c111 => ?_) (fun c111 => ?_)
              · have h := zf c111 h
                refine j_iconst hC dL_law_65 ?_
                refine j_istore_n hC dL_law_66 rfl (Nat.le_of_ble_eq_true rfl) rfl ?_
                refine j_sub [2, 1, 0] rfl ?_
                exact L_67 0 kR_0 M104 S105 hF110 h
              · have h := zt c111 h
                cases h
