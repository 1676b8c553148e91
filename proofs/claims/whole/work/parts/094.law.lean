/-! THE LAW: a program has written it -/
set_option maxHeartbeats 8000000 in
set_option maxRecDepth 100000 in
theorem c_L_law (K : zK) (l : Launch) (hlt : l.stackTraces = false) (g : zG) (bb L : Nat) (xs : Nat → Int32) (hXs : zSc K g bb L xs) (hL : L ≤ 2048) (ln : Int) (hln : ln = (L : Int)) (scr : Int → Int) (hscr : scr = zscr xs) (M : zM) (S : zS) {r : Int} {M' : zM} {S' : zS} (hC : zC K l g cL_law 9 RL) {nm : String} (hE : zE K g nm (some .boolean) 256 601024 7293034 (.inl (some (.int (zi r)))) M' S' (inR r ∧ zFx S')) (h : F_L_law ln scr M S = some (r, M', S')) : zJ K g 0 0 0 9 [(0, .ref bb)] [] M S := by
  have hlnR : inR ln := by rw [hln]; exact ⟨by omega, by omega⟩
  have hscrR : ∀ i, inR (scr i) := by intro i; rw [hscr]; exact cR_zscr xs i
  unfold F_L_law at h
  have J_1876 : ∀ (M : zM) (S : zS) (hF : zFx S) (_ : F_L_law_J1876 ln scr M S = some (r, M', S')), zJ K g 60000 2000000 1876 9 [] [] M S := by
    intro M S hF h
    unfold F_L_law_J1876 at h
    refine j_iconst hC dL_law_1876 ?_
    obtain ⟨e1, e2, e3⟩ := zpr3 (Option.some.inj h)
    exact j_iret hC hE dL_law_1877 (w_id kR_1) (zn_z zb01_1) (by rw [← e1]) e2 e3 ⟨(by rw [← e1]; exact kR_1), (by rw [← e3]; exact hF)⟩ (Nat.le_of_ble_eq_true rfl) (Nat.le_of_ble_eq_true rfl)
  have L_28 : ∀ (v5 : Int) (hv5 : inR v5) (M : zM) (S : zS) (hF : zFx S) (hv50 : v5 = 4 * ((0 : Nat) : Int)) (_ : F_L_law_L28 ln scr v5 M S = some (r, M', S')), zJ K g 200 400000 28 9 [(0, .ref bb), (1, zr g 1), (2, zr g 48), (3, zr g 76), (4, zr g 77), (5, .int (zi v5))] [] M S := by
    intro v5 hv5 M S hF hv50 h
    unfold F_L_law_L28 at h
    obtain ⟨ex28, hl, hd28⟩ := zb1_ex h
    obtain ⟨bd28, ebd⟩ : ∃ f, f = (fun (s : Int × zM × zS) => F_L_law_B28 ln scr s.1 s.2.1 s.2.2) := ⟨_, rfl⟩
    rw [← ebd] at hl
    have main : ∀ (n28 : Nat) (v5 : Int) (hv5 : inR v5) (M : zM) (S : zS) (hF : zFx S) (tt : Nat) (htt0 : (v5 : Int) = 4 * (tt : Int) ∧ tt ≤ 512) (_ : zloop bd28 n28 (v5, M, S) = some ex28), zJ K g (200 + 100 * tt + 0) (400000 + 2000 * tt + 0) 28 9 [(0, .ref bb), (1, zr g 1), (2, zr g 48), (3, zr g 76), (4, zr g 77), (5, .int (zi v5))] [] M S := by
      intro n28
      induction n28 with
      | zero => intro v5 hv5 M S hF tt htt0 hl; exact zloop_0 hl
      | succ n28 ih28 =>
        have J_1870 : ∀ (v5 : Int) (hv5 : inR v5) (M : zM) (S : zS) (hF : zFx S) (tt : Nat) (htt : (v5 : Int) = 4 * (tt : Int) ∧ tt < 512) (o : _) (_ : F_L_law_J1870 ln scr v5 M S = some o), zAft (bd28) n28 ex28 o → zJ K g (200 + 100 * tt + 100) (400000 + 2000 * tt + 2000) 1870 9 [(0, .ref bb), (1, zr g 1), (2, zr g 48), (3, zr g 76), (4, zr g 77), (5, .int (zi v5))] [] M S := by
          intro v5 hv5 M S hF tt htt o h hT
          unfold F_L_law_J1870 at h
          obtain ⟨x1, ex1, h⟩ := zlet_ex h
          have hx1 : inR x1 := by rw [ex1]; exact inR_w _
          refine j_iinc hC 5 dL_law_1870 rfl ex1 (Nat.le_of_ble_eq_true rfl) rfl ?_
          refine j_goto hC dL_law_1873 rfl ?_
          obtain rfl := Option.some.inj h
          refine j_sub [1, 2, 3, 4, 5, 0] rfl ?_
          refine j_widen (k := (200 + 100 * (tt + 1) + 0)) (n := (400000 + 2000 * (tt + 1) + 0)) (by omega) (by omega) ?_
          exact ih28 x1 hx1 M S hF (tt + 1) (zlw_step htt ex1) hT
        have J_212 : ∀ (v5 : Int) (hv5 : inR v5) (M : zM) (S : zS) (hF : zFx S) (tt : Nat) (htt : (v5 : Int) = 4 * (tt : Int) ∧ tt < 512) (o : _) (_ : F_L_law_J212 ln scr v5 M S = some o), zAft (bd28) n28 ex28 o → zJ K g (200 + 100 * tt + 0) (400000 + 2000 * tt + 0) 212 9 [(0, .ref bb), (1, zr g 1), (2, zr g 48), (3, zr g 76), (4, zr g 77), (5, .int (zi v5))] [] M S := by
          intro v5 hv5 M S hF tt htt o h hT
          unfold F_L_law_J212 at h
          refine j_aload_n hC 1 dL_law_212 rfl rfl ?_
          refine j_sload_n hC 0 dL_law_213 rfl rfl ?_
          refine j_iload hC 5 dL_law_214 rfl ?_
          refine j_iconst hC dL_law_216 ?_
          refine j_iadd hC dL_law_217 ?_
          obtain ⟨c2, h⟩ := zchk_ex h
          refine j_scld hC hXs hln dL_law_218 rfl c2.1 c2.2 ?_
          rw [← hscr]
          refine j_i2c hC dL_law_219 ?_
          obtain ⟨r3, M4, S5, hy, h⟩ := zb3_ex h
          refine j_callTi hC hE lk_L_128 dL_law_220 (c_L_append l hlt g (zi2c (scr (w (v5 + 1)))) (cR_zi2c _) M S hF hy) [zr g 1, .int (zi (zi2c (scr (w (v5 + 1)))))] [] rfl rfl rfl (Nat.le_of_ble_eq_true rfl) (Nat.le_of_ble_eq_true rfl) (Nat.le_of_ble_eq_true rfl) (by omega) (by omega) (fun hp6 => ?_)
          obtain ⟨hr3, hFr3⟩ := hp6
          refine j_istore hC dL_law_223 (Nat.le_of_ble_eq_true rfl) rfl ?_
          refine j_aload_n hC 3 dL_law_225 rfl rfl ?_
          refine j_sload_n hC 1 dL_law_226 rfl rfl ?_
          refine j_iload hC 6 dL_law_227 rfl ?_
          refine j_iconst hC dL_law_229 ?_
          refine j_iadd hC dL_law_230 ?_
          obtain ⟨c7, h⟩ := zchk_ex h
          refine j_scld hC hXs hln dL_law_231 rfl c7.1 c7.2 ?_
          rw [← hscr]
          refine j_i2c hC dL_law_232 ?_
          obtain ⟨M8, hy, h⟩ := zb1_ex h
          refine j_callVv (ci := 8) hC hE lk_L_133 dL_law_233 (c_X11_append l hlt g (zi2c (scr (w (v5 + 1)))) (cR_zi2c _) M4 S5 hFr3 hy) [.int (zi (zi2c (scr (w (v5 + 1)))))] [] (zFx_kd hFr3 48 rfl) ⟨_, rfl, by decide, rfl⟩ rfl rfl rfl (zcat (Nat.le_of_ble_eq_true rfl)) (Nat.le_of_ble_eq_true rfl) (Nat.le_of_ble_eq_true rfl) (by omega) (by omega) (fun hp9 => ?_)
          refine j_aload_n hC 3 dL_law_236 rfl rfl ?_
          obtain ⟨r10, hy, h⟩ := zb1_ex h
          refine j_callVi (ci := 8) hC hE lk_L_134 dL_law_237 (c_X11_thrown l hlt g M8 S5 hFr3 hy) [] [] (zFx_kd hFr3 48 rfl) ⟨_, rfl, by decide, rfl⟩ rfl rfl rfl (zcat (Nat.le_of_ble_eq_true rfl)) (Nat.le_of_ble_eq_true rfl) (Nat.le_of_ble_eq_true rfl) (by omega) (by omega) (fun hp11 => ?_)
          have hr10 := hp11
          refine j_iload hC 0 dL_law_240 rfl ?_
          refine j_icmp_eq hC dL_law_242 rfl (w_id hr10) (w_id hr3) (fun c12 => ?_) (fun c12 => ?_)
          · have h := zt c12 h
            refine j_goto hC dL_law_247 rfl ?_
            refine j_sub [1, 2, 3, 4, 5, 6] rfl ?_
            refine j_widen (k := (200 + 100 * tt + 100)) (n := (400000 + 2000 * tt + 2000)) (by omega) (by omega) ?_
            exact J_1870 v5 hv5 M8 S5 hFr3 tt htt _ h hT
          · have h := zf c12 h
            cases h
        have J_291 : ∀ (v5 : Int) (hv5 : inR v5) (M : zM) (S : zS) (hF : zFx S) (tt : Nat) (htt : (v5 : Int) = 4 * (tt : Int) ∧ tt < 512) (o : _) (_ : F_L_law_J291 ln scr v5 M S = some o), zAft (bd28) n28 ex28 o → zJ K g (200 + 100 * tt + 90) (400000 + 2000 * tt + 1900) 291 9 [(0, .ref bb), (1, zr g 1), (2, zr g 48), (3, zr g 76), (4, zr g 77), (5, .int (zi v5))] [] M S := by
          intro v5 hv5 M S hF tt htt o h hT
          unfold F_L_law_J291 at h
          refine j_goto hC dL_law_291 rfl ?_
          refine j_widen (k := (200 + 100 * tt + 100)) (n := (400000 + 2000 * tt + 2000)) (by omega) (by omega) ?_
          exact J_1870 v5 hv5 M S hF tt htt _ h hT
        have J_250 : ∀ (v5 : Int) (hv5 : inR v5) (M : zM) (S : zS) (hF : zFx S) (tt : Nat) (htt : (v5 : Int) = 4 * (tt : Int) ∧ tt < 512) (o : _) (_ : F_L_law_J250 ln scr v5 M S = some o), zAft (bd28) n28 ex28 o → zJ K g (200 + 100 * tt + 0) (400000 + 2000 * tt + 0) 250 9 [(0, .ref bb), (1, zr g 1), (2, zr g 48), (3, zr g 76), (4, zr g 77), (5, .int (zi v5))] [] M S := by
          intro v5 hv5 M S hF tt htt o h hT
          unfold F_L_law_J250 at h
          refine j_aload_n hC 1 dL_law_250 rfl rfl ?_
          refine j_aload_n hC 3 dL_law_251 rfl rfl ?_
          obtain ⟨r13, M14, S15, hy, h⟩ := zb3_ex h
          refine j_callTi hC hE lk_L_137 dL_law_252 (c_L_define l hlt g M S hF hy) [zr g 1, zr g 76] [] rfl rfl rfl (Nat.le_of_ble_eq_true rfl) (Nat.le_of_ble_eq_true rfl) (Nat.le_of_ble_eq_true rfl) (by omega) (by omega) (fun hp16 => ?_)
          obtain ⟨hr13, hFr13⟩ := hp16
          refine j_istore hC dL_law_255 (Nat.le_of_ble_eq_true rfl) rfl ?_
          refine j_aload_n hC 3 dL_law_257 rfl rfl ?_
          obtain ⟨r17, M18, hy, h⟩ := zb2_ex h
          refine j_callVi (ci := 8) hC hE lk_L_140 dL_law_258 (c_X11_define l hlt g M14 S15 hFr13 hy) [] [] (zFx_kd hFr13 48 rfl) ⟨_, rfl, by decide, rfl⟩ rfl rfl rfl (zcat (Nat.le_of_ble_eq_true rfl)) (Nat.le_of_ble_eq_true rfl) (Nat.le_of_ble_eq_true rfl) (by omega) (by omega) (fun hp19 => ?_)
          have hr17 := hp19
          refine j_istore hC dL_law_261 (Nat.le_of_ble_eq_true rfl) rfl ?_
          refine j_aload_n hC 4 dL_law_263 rfl rfl ?_
          obtain ⟨r20, hy, h⟩ := zb1_ex h
          refine j_callVi (ci := 8) hC hE lk_L_134 dL_law_264 (c_X11_thrown l hlt g M18 S15 hFr13 hy) [] [] (zFx_kd hFr13 48 rfl) ⟨_, rfl, by decide, rfl⟩ rfl rfl rfl (zcat (Nat.le_of_ble_eq_true rfl)) (Nat.le_of_ble_eq_true rfl) (Nat.le_of_ble_eq_true rfl) (by omega) (by omega) (fun hp21 => ?_)
          have hr20 := hp21
          refine j_iload hC 1 dL_law_267 rfl ?_
          refine j_icmp_eq hC dL_law_269 rfl (w_id hr20) (w_id hr13) (fun c22 => ?_) (fun c22 => ?_)
          · have h := zt c22 h
            refine j_iload hC 1 dL_law_274 rfl ?_
            refine j_if_ne hC dL_law_276 rfl (w_id hr13) (fun c23 => ?_) (fun c23 => ?_)
            · have h := zf c23 h
              refine j_sub [2, 3, 4, 5, 6, 7] rfl ?_
              refine j_widen (k := (200 + 100 * tt + 90)) (n := (400000 + 2000 * tt + 1900)) (by omega) (by omega) ?_
              exact J_291 v5 hv5 M18 S15 hFr13 tt htt _ h hT
            · have h := zt c23 h
              refine j_aload_n hC 5 dL_law_279 rfl rfl ?_
              refine j_iconst hC dL_law_280 ?_
              refine j_lald (n := 1) hC dL_law_281 (w_id kR_0) (zFx_kd hFr13 76 rfl) (zFx_ln hFr13 76 rfl) (by decide) (by decide) (fun hg24 => ?_)
              refine j_iload hC 0 dL_law_282 rfl ?_
              refine j_i2l hC dL_law_284 (w_id hr17) ?_
              refine j_lcmp hC dL_law_285 hg24 (inL_R hr17) ?_
              refine j_if_eq hC dL_law_286 rfl (w_id (inR_cmp _ _)) (fun c25 => ?_) (fun c25 => ?_)
              · have h := zt c25 h
                refine j_sub [2, 3, 4, 5, 6, 7] rfl ?_
                refine j_widen (k := (200 + 100 * tt + 90)) (n := (400000 + 2000 * tt + 1900)) (by omega) (by omega) ?_
                exact J_291 v5 hv5 M18 S15 hFr13 tt htt _ h hT
              · have h := zf c25 h
                cases h
          · have h := zf c22 h
            cases h
        have J_294 : ∀ (v5 : Int) (hv5 : inR v5) (M : zM) (S : zS) (hF : zFx S) (tt : Nat) (htt : (v5 : Int) = 4 * (tt : Int) ∧ tt < 512) (o : _) (_ : F_L_law_J294 ln scr v5 M S = some o), zAft (bd28) n28 ex28 o → zJ K g (200 + 100 * tt + 0) (400000 + 2000 * tt + 0) 294 9 [(0, .ref bb), (1, zr g 1), (2, zr g 48), (3, zr g 76), (4, zr g 77), (5, .int (zi v5))] [] M S := by
          intro v5 hv5 M S hF tt htt o h hT
          unfold F_L_law_J294 at h
          refine j_aload_n hC 1 dL_law_294 rfl rfl ?_
          obtain ⟨r26, hy, h⟩ := zb1_ex h
          refine j_callVi (ci := 7) hC hE lk_L_141 dL_law_295 (c_X10_faultPosition l hlt g M S hF hy) [] [] (zFx_kd hF 1 rfl) ⟨_, rfl, by decide, rfl⟩ rfl rfl rfl (zcat (Nat.le_of_ble_eq_true rfl)) (Nat.le_of_ble_eq_true rfl) (Nat.le_of_ble_eq_true rfl) (by omega) (by omega) (fun hp27 => ?_)
          have hr26 := hp27
          refine j_aload_n hC 2 dL_law_298 rfl rfl ?_
          obtain ⟨r28, M29, hy, h⟩ := zb2_ex h
          refine j_callVi (ci := 8) hC hE lk_L_144 dL_law_299 (c_X11_faultPosition l hlt g M S hF hy) [] [.int (zi r26)] (zFx_kd hF 48 rfl) ⟨_, rfl, by decide, rfl⟩ rfl rfl rfl (zcat (Nat.le_of_ble_eq_true rfl)) (Nat.le_of_ble_eq_true rfl) (Nat.le_of_ble_eq_true rfl) (by omega) (by omega) (fun hp30 => ?_)
          have hr28 := hp30
          refine j_icmp_eq hC dL_law_302 rfl (w_id hr26) (w_id hr28) (fun c31 => ?_) (fun c31 => ?_)
          · have h := zt c31 h
            refine j_widen (k := (200 + 100 * tt + 100)) (n := (400000 + 2000 * tt + 2000)) (by omega) (by omega) ?_
            exact J_1870 v5 hv5 M29 S hF tt htt _ h hT
          · have h := zf c31 h
            cases h
        have J_307 : ∀ (v5 : Int) (hv5 : inR v5) (M : zM) (S : zS) (hF : zFx S) (tt : Nat) (htt : (v5 : Int) = 4 * (tt : Int) ∧ tt < 512) (o : _) (_ : F_L_law_J307 ln scr v5 M S = some o), zAft (bd28) n28 ex28 o → zJ K g (200 + 100 * tt + 0) (400000 + 2000 * tt + 0) 307 9 [(0, .ref bb), (1, zr g 1), (2, zr g 48), (3, zr g 76), (4, zr g 77), (5, .int (zi v5))] [] M S := by
          intro v5 hv5 M S hF tt htt o h hT
          unfold F_L_law_J307 at h
          refine j_aload_n hC 1 dL_law_307 rfl rfl ?_
          refine j_sload_n hC 0 dL_law_308 rfl rfl ?_
          refine j_iload hC 5 dL_law_309 rfl ?_
          refine j_iconst hC dL_law_311 ?_
          refine j_iadd hC dL_law_312 ?_
          obtain ⟨c32, h⟩ := zchk_ex h
          refine j_scld hC hXs hln dL_law_313 rfl c32.1 c32.2 ?_
          rw [← hscr]
          obtain ⟨r33, M34, S35, hy, h⟩ := zb3_ex h
          refine j_callTi hC hE lk_L_145 dL_law_314 (c_L_removeAxiom l hlt g (scr (w (v5 + 1))) (hscrR _) M S hF hy) [zr g 1, .int (zi (scr (w (v5 + 1))))] [] rfl rfl rfl (Nat.le_of_ble_eq_true rfl) (Nat.le_of_ble_eq_true rfl) (Nat.le_of_ble_eq_true rfl) (by omega) (by omega) (fun hp36 => ?_)
          obtain ⟨hr33, hFr33⟩ := hp36
          refine j_istore hC dL_law_317 (Nat.le_of_ble_eq_true rfl) rfl ?_
          refine j_aload_n hC 3 dL_law_319 rfl rfl ?_
          refine j_sload_n hC 1 dL_law_320 rfl rfl ?_
          refine j_iload hC 6 dL_law_321 rfl ?_
          refine j_iconst hC dL_law_323 ?_
          refine j_iadd hC dL_law_324 ?_
          obtain ⟨c37, h⟩ := zchk_ex h
          refine j_scld hC hXs hln dL_law_325 rfl c37.1 c37.2 ?_
          rw [← hscr]
          obtain ⟨M38, hy, h⟩ := zb1_ex h
          refine j_callVv (ci := 8) hC hE lk_L_148 dL_law_326 (c_X11_removeAxiom l hlt g (scr (w (v5 + 1))) (hscrR _) M34 S35 hFr33 hy) [.int (zi (scr (w (v5 + 1))))] [] (zFx_kd hFr33 48 rfl) ⟨_, rfl, by decide, rfl⟩ rfl rfl rfl (zcat (Nat.le_of_ble_eq_true rfl)) (Nat.le_of_ble_eq_true rfl) (Nat.le_of_ble_eq_true rfl) (by omega) (by omega) (fun hp39 => ?_)
          refine j_aload_n hC 3 dL_law_329 rfl rfl ?_
          obtain ⟨r40, hy, h⟩ := zb1_ex h
          refine j_callVi (ci := 8) hC hE lk_L_134 dL_law_330 (c_X11_thrown l hlt g M38 S35 hFr33 hy) [] [] (zFx_kd hFr33 48 rfl) ⟨_, rfl, by decide, rfl⟩ rfl rfl rfl (zcat (Nat.le_of_ble_eq_true rfl)) (Nat.le_of_ble_eq_true rfl) (Nat.le_of_ble_eq_true rfl) (by omega) (by omega) (fun hp41 => ?_)
          have hr40 := hp41
          refine j_iload hC 0 dL_law_333 rfl ?_
          refine j_icmp_eq hC dL_law_335 rfl (w_id hr40) (w_id hr33) (fun c42 => ?_) (fun c42 => ?_)
          · have h := zt c42 h
            refine j_goto hC dL_law_340 rfl ?_
            refine j_sub [1, 2, 3, 4, 5, 6] rfl ?_
            refine j_widen (k := (200 + 100 * tt + 100)) (n := (400000 + 2000 * tt + 2000)) (by omega) (by omega) ?_
            exact J_1870 v5 hv5 M38 S35 hFr33 tt htt _ h hT
          · have h := zf c42 h
            cases h
        have J_343 : ∀ (v5 : Int) (hv5 : inR v5) (M : zM) (S : zS) (hF : zFx S) (tt : Nat) (htt : (v5 : Int) = 4 * (tt : Int) ∧ tt < 512) (o : _) (_ : F_L_law_J343 ln scr v5 M S = some o), zAft (bd28) n28 ex28 o → zJ K g (200 + 100 * tt + 0) (400000 + 2000 * tt + 0) 343 9 [(0, .ref bb), (1, zr g 1), (2, zr g 48), (3, zr g 76), (4, zr g 77), (5, .int (zi v5))] [] M S := by
          intro v5 hv5 M S hF tt htt o h hT
          unfold F_L_law_J343 at h
          refine j_aload_n hC 1 dL_law_343 rfl rfl ?_
          refine j_sload_n hC 0 dL_law_344 rfl rfl ?_
          refine j_iload hC 5 dL_law_345 rfl ?_
          refine j_iconst hC dL_law_347 ?_
          refine j_iadd hC dL_law_348 ?_
          obtain ⟨c43, h⟩ := zchk_ex h
          refine j_scld hC hXs hln dL_law_349 rfl c43.1 c43.2 ?_
          rw [← hscr]
          obtain ⟨r44, M45, S46, hy, h⟩ := zb3_ex h
          refine j_callTi hC hE lk_L_149 dL_law_350 (c_L_removeContext l hlt g (scr (w (v5 + 1))) (hscrR _) M S hF hy) [zr g 1, .int (zi (scr (w (v5 + 1))))] [] rfl rfl rfl (Nat.le_of_ble_eq_true rfl) (Nat.le_of_ble_eq_true rfl) (Nat.le_of_ble_eq_true rfl) (by omega) (by omega) (fun hp47 => ?_)
          obtain ⟨hr44, hFr44⟩ := hp47
          refine j_istore hC dL_law_353 (Nat.le_of_ble_eq_true rfl) rfl ?_
          refine j_aload_n hC 3 dL_law_355 rfl rfl ?_
          refine j_sload_n hC 1 dL_law_356 rfl rfl ?_
          refine j_iload hC 6 dL_law_357 rfl ?_
          refine j_iconst hC dL_law_359 ?_
          refine j_iadd hC dL_law_360 ?_
          obtain ⟨c48, h⟩ := zchk_ex h
          refine j_scld hC hXs hln dL_law_361 rfl c48.1 c48.2 ?_
          rw [← hscr]
          obtain ⟨M49, hy, h⟩ := zb1_ex h
          refine j_callVv (ci := 8) hC hE lk_L_151 dL_law_362 (c_X11_removeContext l hlt g (scr (w (v5 + 1))) (hscrR _) M45 S46 hFr44 hy) [.int (zi (scr (w (v5 + 1))))] [] (zFx_kd hFr44 48 rfl) ⟨_, rfl, by decide, rfl⟩ rfl rfl rfl (zcat (Nat.le_of_ble_eq_true rfl)) (Nat.le_of_ble_eq_true rfl) (Nat.le_of_ble_eq_true rfl) (by omega) (by omega) (fun hp50 => ?_)
          refine j_aload_n hC 3 dL_law_365 rfl rfl ?_
          obtain ⟨r51, hy, h⟩ := zb1_ex h
          refine j_callVi (ci := 8) hC hE lk_L_134 dL_law_366 (c_X11_thrown l hlt g M49 S46 hFr44 hy) [] [] (zFx_kd hFr44 48 rfl) ⟨_, rfl, by decide, rfl⟩ rfl rfl rfl (zcat (Nat.le_of_ble_eq_true rfl)) (Nat.le_of_ble_eq_true rfl) (Nat.le_of_ble_eq_true rfl) (by omega) (by omega) (fun hp52 => ?_)
          have hr51 := hp52
          refine j_iload hC 0 dL_law_369 rfl ?_
          refine j_icmp_eq hC dL_law_371 rfl (w_id hr51) (w_id hr44) (fun c53 => ?_) (fun c53 => ?_)
          · have h := zt c53 h
            refine j_goto hC dL_law_376 rfl ?_
            refine j_sub [1, 2, 3, 4, 5, 6] rfl ?_
            refine j_widen (k := (200 + 100 * tt + 100)) (n := (400000 + 2000 * tt + 2000)) (by omega) (by omega) ?_
            exact J_1870 v5 hv5 M49 S46 hFr44 tt htt _ h hT
          · have h := zf c53 h
            cases h
        have J_432 : ∀ (v5 : Int) (hv5 : inR v5) (M : zM) (S : zS) (hF : zFx S) (tt : Nat) (htt : (v5 : Int) = 4 * (tt : Int) ∧ tt < 512) (o : _) (_ : F_L_law_J432 ln scr v5 M S = some o), zAft (bd28) n28 ex28 o → zJ K g (200 + 100 * tt + 90) (400000 + 2000 * tt + 1900) 432 9 [(0, .ref bb), (1, zr g 1), (2, zr g 48), (3, zr g 76), (4, zr g 77), (5, .int (zi v5))] [] M S := by
          intro v5 hv5 M S hF tt htt o h hT
          unfold F_L_law_J432 at h
          refine j_goto hC dL_law_432 rfl ?_
          refine j_widen (k := (200 + 100 * tt + 100)) (n := (400000 + 2000 * tt + 2000)) (by omega) (by omega) ?_
          exact J_1870 v5 hv5 M S hF tt htt _ h hT
        have J_379 : ∀ (v5 : Int) (hv5 : inR v5) (M : zM) (S : zS) (hF : zFx S) (tt : Nat) (htt : (v5 : Int) = 4 * (tt : Int) ∧ tt < 512) (o : _) (_ : F_L_law_J379 ln scr v5 M S = some o), zAft (bd28) n28 ex28 o → zJ K g (200 + 100 * tt + 0) (400000 + 2000 * tt + 0) 379 9 [(0, .ref bb), (1, zr g 1), (2, zr g 48), (3, zr g 76), (4, zr g 77), (5, .int (zi v5))] [] M S := by
          intro v5 hv5 M S hF tt htt o h hT
          unfold F_L_law_J379 at h
          refine j_aload_n hC 1 dL_law_379 rfl rfl ?_
          refine j_sload_n hC 0 dL_law_380 rfl rfl ?_
          refine j_iload hC 5 dL_law_381 rfl ?_
          refine j_iconst hC dL_law_383 ?_
          refine j_iadd hC dL_law_384 ?_
          obtain ⟨c54, h⟩ := zchk_ex h
          refine j_scld hC hXs hln dL_law_385 rfl c54.1 c54.2 ?_
          rw [← hscr]
          refine j_aload_n hC 3 dL_law_386 rfl rfl ?_
          obtain ⟨r55, M56, S57, hy, h⟩ := zb3_ex h
          refine j_callTi hC hE lk_L_152 dL_law_387 (c_L_count l hlt g (scr (w (v5 + 1))) (hscrR _) M S hF hy) [zr g 1, .int (zi (scr (w (v5 + 1)))), zr g 76] [] rfl rfl rfl (Nat.le_of_ble_eq_true rfl) (Nat.le_of_ble_eq_true rfl) (Nat.le_of_ble_eq_true rfl) (by omega) (by omega) (fun hp58 => ?_)
          obtain ⟨hr55, hFr55⟩ := hp58
          refine j_istore hC dL_law_390 (Nat.le_of_ble_eq_true rfl) rfl ?_
          refine j_aload_n hC 3 dL_law_392 rfl rfl ?_
          refine j_sload_n hC 1 dL_law_393 rfl rfl ?_
          refine j_iload hC 6 dL_law_394 rfl ?_
          refine j_iconst hC dL_law_396 ?_
          refine j_iadd hC dL_law_397 ?_
          obtain ⟨c59, h⟩ := zchk_ex h
          refine j_scld hC hXs hln dL_law_398 rfl c59.1 c59.2 ?_
          rw [← hscr]
          obtain ⟨r60, M61, hy, h⟩ := zb2_ex h
          refine j_callVi (ci := 8) hC hE lk_L_155 dL_law_399 (c_X11_count l hlt g (scr (w (v5 + 1))) (hscrR _) M56 S57 hFr55 hy) [.int (zi (scr (w (v5 + 1))))] [] (zFx_kd hFr55 48 rfl) ⟨_, rfl, by decide, rfl⟩ rfl rfl rfl (zcat (Nat.le_of_ble_eq_true rfl)) (Nat.le_of_ble_eq_true rfl) (Nat.le_of_ble_eq_true rfl) (by omega) (by omega) (fun hp62 => ?_)
          have hr60 := hp62
          refine j_istore hC dL_law_402 (Nat.le_of_ble_eq_true rfl) rfl ?_
          refine j_aload_n hC 4 dL_law_404 rfl rfl ?_
          obtain ⟨r63, hy, h⟩ := zb1_ex h
          refine j_callVi (ci := 8) hC hE lk_L_134 dL_law_405 (c_X11_thrown l hlt g M61 S57 hFr55 hy) [] [] (zFx_kd hFr55 48 rfl) ⟨_, rfl, by decide, rfl⟩ rfl rfl rfl (zcat (Nat.le_of_ble_eq_true rfl)) (Nat.le_of_ble_eq_true rfl) (Nat.le_of_ble_eq_true rfl) (by omega) (by omega) (fun hp64 => ?_)
          have hr63 := hp64
          refine j_iload hC 1 dL_law_408 rfl ?_
          refine j_icmp_eq hC dL_law_410 rfl (w_id hr63) (w_id hr55) (fun c65 => ?_) (fun c65 => ?_)
          · have h := zt c65 h
            refine j_iload hC 1 dL_law_415 rfl ?_
            refine j_if_ne hC dL_law_417 rfl (w_id hr55) (fun c66 => ?_) (fun c66 => ?_)
            · have h := zf c66 h
              refine j_sub [2, 3, 4, 5, 6, 7] rfl ?_
              refine j_widen (k := (200 + 100 * tt + 90)) (n := (400000 + 2000 * tt + 1900)) (by omega) (by omega) ?_
              exact J_432 v5 hv5 M61 S57 hFr55 tt htt _ h hT
            · have h := zt c66 h
              refine j_aload_n hC 5 dL_law_420 rfl rfl ?_
              refine j_iconst hC dL_law_421 ?_
              refine j_lald (n := 1) hC dL_law_422 (w_id kR_0) (zFx_kd hFr55 76 rfl) (zFx_ln hFr55 76 rfl) (by decide) (by decide) (fun hg67 => ?_)
              refine j_iload hC 0 dL_law_423 rfl ?_
              refine j_i2l hC dL_law_425 (w_id hr60) ?_
              refine j_lcmp hC dL_law_426 hg67 (inL_R hr60) ?_
              refine j_if_eq hC dL_law_427 rfl (w_id (inR_cmp _ _)) (fun c68 => ?_) (fun c68 => ?_)
              · have h := zt c68 h
                refine j_sub [2, 3, 4, 5, 6, 7] rfl ?_
                refine j_widen (k := (200 + 100 * tt + 90)) (n := (400000 + 2000 * tt + 1900)) (by omega) (by omega) ?_
                exact J_432 v5 hv5 M61 S57 hFr55 tt htt _ h hT
              · have h := zf c68 h
                cases h
          · have h := zf c65 h
            cases h
        have J_476 : ∀ (v5 : Int) (hv5 : inR v5) (M : zM) (S : zS) (hF : zFx S) (tt : Nat) (htt : (v5 : Int) = 4 * (tt : Int) ∧ tt < 512) (o : _) (_ : F_L_law_J476 ln scr v5 M S = some o), zAft (bd28) n28 ex28 o → zJ K g (200 + 100 * tt + 90) (400000 + 2000 * tt + 1900) 476 9 [(0, .ref bb), (1, zr g 1), (2, zr g 48), (3, zr g 76), (4, zr g 77), (5, .int (zi v5))] [] M S := by
          intro v5 hv5 M S hF tt htt o h hT
          unfold F_L_law_J476 at h
          refine j_goto hC dL_law_476 rfl ?_
          refine j_widen (k := (200 + 100 * tt + 100)) (n := (400000 + 2000 * tt + 2000)) (by omega) (by omega) ?_
          exact J_1870 v5 hv5 M S hF tt htt _ h hT
        have J_435 : ∀ (v5 : Int) (hv5 : inR v5) (M : zM) (S : zS) (hF : zFx S) (tt : Nat) (htt : (v5 : Int) = 4 * (tt : Int) ∧ tt < 512) (o : _) (_ : F_L_law_J435 ln scr v5 M S = some o), zAft (bd28) n28 ex28 o → zJ K g (200 + 100 * tt + 0) (400000 + 2000 * tt + 0) 435 9 [(0, .ref bb), (1, zr g 1), (2, zr g 48), (3, zr g 76), (4, zr g 77), (5, .int (zi v5))] [] M S := by
          intro v5 hv5 M S hF tt htt o h hT
          unfold F_L_law_J435 at h
          refine j_aload_n hC 1 dL_law_435 rfl rfl ?_
          refine j_aload_n hC 3 dL_law_436 rfl rfl ?_
          obtain ⟨r69, M70, S71, hy, h⟩ := zb3_ex h
          refine j_callTi hC hE lk_L_156 dL_law_437 (c_L_size l hlt g M S hF hy) [zr g 1, zr g 76] [] rfl rfl rfl (Nat.le_of_ble_eq_true rfl) (Nat.le_of_ble_eq_true rfl) (Nat.le_of_ble_eq_true rfl) (by omega) (by omega) (fun hp72 => ?_)
          obtain ⟨hr69, hFr69⟩ := hp72
          refine j_istore hC dL_law_440 (Nat.le_of_ble_eq_true rfl) rfl ?_
          refine j_aload_n hC 3 dL_law_442 rfl rfl ?_
          obtain ⟨r73, M74, hy, h⟩ := zb2_ex h
          refine j_callVi (ci := 8) hC hE lk_L_158 dL_law_443 (c_X11_size l hlt g M70 S71 hFr69 hy) [] [] (zFx_kd hFr69 48 rfl) ⟨_, rfl, by decide, rfl⟩ rfl rfl rfl (zcat (Nat.le_of_ble_eq_true rfl)) (Nat.le_of_ble_eq_true rfl) (Nat.le_of_ble_eq_true rfl) (by omega) (by omega) (fun hp75 => ?_)
          have hr73 := hp75
          refine j_istore hC dL_law_446 (Nat.le_of_ble_eq_true rfl) rfl ?_
          refine j_aload_n hC 4 dL_law_448 rfl rfl ?_
          obtain ⟨r76, hy, h⟩ := zb1_ex h
          refine j_callVi (ci := 8) hC hE lk_L_134 dL_law_449 (c_X11_thrown l hlt g M74 S71 hFr69 hy) [] [] (zFx_kd hFr69 48 rfl) ⟨_, rfl, by decide, rfl⟩ rfl rfl rfl (zcat (Nat.le_of_ble_eq_true rfl)) (Nat.le_of_ble_eq_true rfl) (Nat.le_of_ble_eq_true rfl) (by omega) (by omega) (fun hp77 => ?_)
          have hr76 := hp77
          refine j_iload hC 1 dL_law_452 rfl ?_
          refine j_icmp_eq hC dL_law_454 rfl (w_id hr76) (w_id hr69) (fun c78 => ?_) (fun c78 => ?_)
          · have h := zt c78 h
            refine j_iload hC 1 dL_law_459 rfl ?_
            refine j_if_ne hC dL_law_461 rfl (w_id hr69) (fun c79 => ?_) (fun c79 => ?_)
            · have h := zf c79 h
              refine j_sub [2, 3, 4, 5, 6, 7] rfl ?_
              refine j_widen (k := (200 + 100 * tt + 90)) (n := (400000 + 2000 * tt + 1900)) (by omega) (by omega) ?_
              exact J_476 v5 hv5 M74 S71 hFr69 tt htt _ h hT
            · have h := zt c79 h
              refine j_aload_n hC 5 dL_law_464 rfl rfl ?_
              refine j_iconst hC dL_law_465 ?_
              refine j_lald (n := 1) hC dL_law_466 (w_id kR_0) (zFx_kd hFr69 76 rfl) (zFx_ln hFr69 76 rfl) (by decide) (by decide) (fun hg80 => ?_)
              refine j_iload hC 0 dL_law_467 rfl ?_
              refine j_i2l hC dL_law_469 (w_id hr73) ?_
              refine j_lcmp hC dL_law_470 hg80 (inL_R hr73) ?_
              refine j_if_eq hC dL_law_471 rfl (w_id (inR_cmp _ _)) (fun c81 => ?_) (fun c81 => ?_)
              · have h := zt c81 h
                refine j_sub [2, 3, 4, 5, 6, 7] rfl ?_
                refine j_widen (k := (200 + 100 * tt + 90)) (n := (400000 + 2000 * tt + 1900)) (by omega) (by omega) ?_
                exact J_476 v5 hv5 M74 S71 hFr69 tt htt _ h hT
              · have h := zf c81 h
                cases h
          · have h := zf c78 h
            cases h
        have J_532 : ∀ (v5 : Int) (hv5 : inR v5) (M : zM) (S : zS) (hF : zFx S) (tt : Nat) (htt : (v5 : Int) = 4 * (tt : Int) ∧ tt < 512) (o : _) (_ : F_L_law_J532 ln scr v5 M S = some o), zAft (bd28) n28 ex28 o → zJ K g (200 + 100 * tt + 90) (400000 + 2000 * tt + 1900) 532 9 [(0, .ref bb), (1, zr g 1), (2, zr g 48), (3, zr g 76), (4, zr g 77), (5, .int (zi v5))] [] M S := by
          intro v5 hv5 M S hF tt htt o h hT
          unfold F_L_law_J532 at h
          refine j_goto hC dL_law_532 rfl ?_
          refine j_widen (k := (200 + 100 * tt + 100)) (n := (400000 + 2000 * tt + 2000)) (by omega) (by omega) ?_
          exact J_1870 v5 hv5 M S hF tt htt _ h hT
        have J_479 : ∀ (v5 : Int) (hv5 : inR v5) (M : zM) (S : zS) (hF : zFx S) (tt : Nat) (htt : (v5 : Int) = 4 * (tt : Int) ∧ tt < 512) (o : _) (_ : F_L_law_J479 ln scr v5 M S = some o), zAft (bd28) n28 ex28 o → zJ K g (200 + 100 * tt + 0) (400000 + 2000 * tt + 0) 479 9 [(0, .ref bb), (1, zr g 1), (2, zr g 48), (3, zr g 76), (4, zr g 77), (5, .int (zi v5))] [] M S := by
          intro v5 hv5 M S hF tt htt o h hT
          unfold F_L_law_J479 at h
          refine j_aload_n hC 1 dL_law_479 rfl rfl ?_
          refine j_sload_n hC 0 dL_law_480 rfl rfl ?_
          refine j_iload hC 5 dL_law_481 rfl ?_
          refine j_iconst hC dL_law_483 ?_
          refine j_iadd hC dL_law_484 ?_
          obtain ⟨c82, h⟩ := zchk_ex h
          refine j_scld hC hXs hln dL_law_485 rfl c82.1 c82.2 ?_
          rw [← hscr]
          refine j_aload_n hC 3 dL_law_486 rfl rfl ?_
          obtain ⟨r83, M84, S85, hy, h⟩ := zb3_ex h
          refine j_callTi hC hE lk_L_159 dL_law_487 (c_L_sizeOf l hlt g (scr (w (v5 + 1))) (hscrR _) M S hF hy) [zr g 1, .int (zi (scr (w (v5 + 1)))), zr g 76] [] rfl rfl rfl (Nat.le_of_ble_eq_true rfl) (Nat.le_of_ble_eq_true rfl) (Nat.le_of_ble_eq_true rfl) (by omega) (by omega) (fun hp86 => ?_)
          obtain ⟨hr83, hFr83⟩ := hp86
          refine j_istore hC dL_law_490 (Nat.le_of_ble_eq_true rfl) rfl ?_
          refine j_aload_n hC 3 dL_law_492 rfl rfl ?_
          refine j_sload_n hC 1 dL_law_493 rfl rfl ?_
          refine j_iload hC 6 dL_law_494 rfl ?_
          refine j_iconst hC dL_law_496 ?_
          refine j_iadd hC dL_law_497 ?_
          obtain ⟨c87, h⟩ := zchk_ex h
          refine j_scld hC hXs hln dL_law_498 rfl c87.1 c87.2 ?_
          rw [← hscr]
          obtain ⟨r88, M89, hy, h⟩ := zb2_ex h
          refine j_callVi (ci := 8) hC hE lk_L_161 dL_law_499 (c_X11_sizeOf l hlt g (scr (w (v5 + 1))) (hscrR _) M84 S85 hFr83 hy) [.int (zi (scr (w (v5 + 1))))] [] (zFx_kd hFr83 48 rfl) ⟨_, rfl, by decide, rfl⟩ rfl rfl rfl (zcat (Nat.le_of_ble_eq_true rfl)) (Nat.le_of_ble_eq_true rfl) (Nat.le_of_ble_eq_true rfl) (by omega) (by omega) (fun hp90 => ?_)
          have hr88 := hp90
          refine j_istore hC dL_law_502 (Nat.le_of_ble_eq_true rfl) rfl ?_
          refine j_aload_n hC 4 dL_law_504 rfl rfl ?_
          obtain ⟨r91, hy, h⟩ := zb1_ex h
          refine j_callVi (ci := 8) hC hE lk_L_134 dL_law_505 (c_X11_thrown l hlt g M89 S85 hFr83 hy) [] [] (zFx_kd hFr83 48 rfl) ⟨_, rfl, by decide, rfl⟩ rfl rfl rfl (zcat (Nat.le_of_ble_eq_true rfl)) (Nat.le_of_ble_eq_true rfl) (Nat.le_of_ble_eq_true rfl) (by omega) (by omega) (fun hp92 => ?_)
          have hr91 := hp92
          refine j_iload hC 1 dL_law_508 rfl ?_
          refine j_icmp_eq hC dL_law_510 rfl (w_id hr91) (w_id hr83) (fun c93 => ?_) (fun c93 => ?_)
          · have h := zt c93 h
            refine j_iload hC 1 dL_law_515 rfl ?_
            refine j_if_ne hC dL_law_517 rfl (w_id hr83) (fun c94 => ?_) (fun c94 => ?_)
            · have h := zf c94 h
              refine j_sub [2, 3, 4, 5, 6, 7] rfl ?_
              refine j_widen (k := (200 + 100 * tt + 90)) (n := (400000 + 2000 * tt + 1900)) (by omega) (by omega) ?_
              exact J_532 v5 hv5 M89 S85 hFr83 tt htt _ h hT
            · have h := zt c94 h
              refine j_aload_n hC 5 dL_law_520 rfl rfl ?_
              refine j_iconst hC dL_law_521 ?_
              refine j_lald (n := 1) hC dL_law_522 (w_id kR_0) (zFx_kd hFr83 76 rfl) (zFx_ln hFr83 76 rfl) (by decide) (by decide) (fun hg95 => ?_)
              refine j_iload hC 0 dL_law_523 rfl ?_
              refine j_i2l hC dL_law_525 (w_id hr88) ?_
              refine j_lcmp hC dL_law_526 hg95 (inL_R hr88) ?_
              refine j_if_eq hC dL_law_527 rfl (w_id (inR_cmp _ _)) (fun c96 => ?_) (fun c96 => ?_)
              · have h := zt c96 h
                refine j_sub [2, 3, 4, 5, 6, 7] rfl ?_
                refine j_widen (k := (200 + 100 * tt + 90)) (n := (400000 + 2000 * tt + 1900)) (by omega) (by omega) ?_
                exact J_532 v5 hv5 M89 S85 hFr83 tt htt _ h hT
              · have h := zf c96 h
                cases h
          · have h := zf c93 h
            cases h
        have J_609 : ∀ (v5 : Int) (hv5 : inR v5) (M : zM) (S : zS) (hF : zFx S) (tt : Nat) (htt : (v5 : Int) = 4 * (tt : Int) ∧ tt < 512) (o : _) (_ : F_L_law_J609 ln scr v5 M S = some o), zAft (bd28) n28 ex28 o → zJ K g (200 + 100 * tt + 90) (400000 + 2000 * tt + 1900) 609 9 [(0, .ref bb), (1, zr g 1), (2, zr g 48), (3, zr g 76), (4, zr g 77), (5, .int (zi v5))] [] M S := by
          intro v5 hv5 M S hF tt htt o h hT
          unfold F_L_law_J609 at h
          refine j_goto hC dL_law_609 rfl ?_
          refine j_widen (k := (200 + 100 * tt + 100)) (n := (400000 + 2000 * tt + 2000)) (by omega) (by omega) ?_
          exact J_1870 v5 hv5 M S hF tt htt _ h hT
        have J_535 : ∀ (v5 : Int) (hv5 : inR v5) (M : zM) (S : zS) (hF : zFx S) (tt : Nat) (htt : (v5 : Int) = 4 * (tt : Int) ∧ tt < 512) (o : _) (_ : F_L_law_J535 ln scr v5 M S = some o), zAft (bd28) n28 ex28 o → zJ K g (200 + 100 * tt + 0) (400000 + 2000 * tt + 0) 535 9 [(0, .ref bb), (1, zr g 1), (2, zr g 48), (3, zr g 76), (4, zr g 77), (5, .int (zi v5))] [] M S := by
          intro v5 hv5 M S hF tt htt o h hT
          unfold F_L_law_J535 at h
          refine j_aload_n hC 1 dL_law_535 rfl rfl ?_
          refine j_sload_n hC 0 dL_law_536 rfl rfl ?_
          refine j_iload hC 5 dL_law_537 rfl ?_
          refine j_iconst hC dL_law_539 ?_
          refine j_iadd hC dL_law_540 ?_
          obtain ⟨c97, h⟩ := zchk_ex h
          refine j_scld hC hXs hln dL_law_541 rfl c97.1 c97.2 ?_
          rw [← hscr]
          refine j_aload hC 4 dL_law_542 rfl ?_
          obtain ⟨r98, M99, S100, hy, h⟩ := zb3_ex h
          refine j_callTi hC hE lk_L_162 dL_law_544 (c_L_density l hlt g (scr (w (v5 + 1))) (hscrR _) M S hF hy) [zr g 1, .int (zi (scr (w (v5 + 1)))), zr g 77] [] rfl rfl rfl (Nat.le_of_ble_eq_true rfl) (Nat.le_of_ble_eq_true rfl) (Nat.le_of_ble_eq_true rfl) (by omega) (by omega) (fun hp101 => ?_)
          obtain ⟨hr98, hFr98⟩ := hp101
          refine j_istore hC dL_law_547 (Nat.le_of_ble_eq_true rfl) rfl ?_
          refine j_aload_n hC 3 dL_law_549 rfl rfl ?_
          refine j_sload_n hC 1 dL_law_550 rfl rfl ?_
          refine j_iload hC 6 dL_law_551 rfl ?_
          refine j_iconst hC dL_law_553 ?_
          refine j_iadd hC dL_law_554 ?_
          obtain ⟨c102, h⟩ := zchk_ex h
          refine j_scld hC hXs hln dL_law_555 rfl c102.1 c102.2 ?_
          rw [← hscr]
          obtain ⟨r103, M104, hy, h⟩ := zb2_ex h
          refine j_callVd (ci := 8) hC hE lk_L_165 dL_law_556 (c_X11_density l hlt g (scr (w (v5 + 1))) (hscrR _) M99 S100 hFr98 hy) [.int (zi (scr (w (v5 + 1))))] [] (zFx_kd hFr98 48 rfl) ⟨_, rfl, by decide, rfl⟩ rfl rfl rfl (zcat (Nat.le_of_ble_eq_true rfl)) (Nat.le_of_ble_eq_true rfl) (Nat.le_of_ble_eq_true rfl) (by omega) (by omega) (fun hp105 => ?_)
          refine j_dstore hC dL_law_559 (Nat.le_of_ble_eq_true rfl) rfl ?_
          refine j_aload_n hC 4 dL_law_561 rfl rfl ?_
          obtain ⟨r106, hy, h⟩ := zb1_ex h
          refine j_callVi (ci := 8) hC hE lk_L_134 dL_law_562 (c_X11_thrown l hlt g M104 S100 hFr98 hy) [] [] (zFx_kd hFr98 48 rfl) ⟨_, rfl, by decide, rfl⟩ rfl rfl rfl (zcat (Nat.le_of_ble_eq_true rfl)) (Nat.le_of_ble_eq_true rfl) (Nat.le_of_ble_eq_true rfl) (by omega) (by omega) (fun hp107 => ?_)
          have hr106 := hp107
          refine j_iload hC 1 dL_law_565 rfl ?_
          refine j_icmp_eq hC dL_law_567 rfl (w_id hr106) (w_id hr98) (fun c108 => ?_) (fun c108 => ?_)
          · have h := zt c108 h
            refine j_iload hC 1 dL_law_572 rfl ?_
            refine j_if_ne hC dL_law_574 rfl (w_id hr98) (fun c109 => ?_) (fun c109 => ?_)
            · have h := zf c109 h
              refine j_sub [2, 3, 4, 5, 6, 7] rfl ?_
              refine j_widen (k := (200 + 100 * tt + 90)) (n := (400000 + 2000 * tt + 1900)) (by omega) (by omega) ?_
              exact J_609 v5 hv5 M104 S100 hFr98 tt htt _ h hT
            · have h := zt c109 h
              refine j_aload hC 6 dL_law_577 rfl ?_
              refine j_iconst hC dL_law_579 ?_
              refine j_dald (n := 1) hC dL_law_580 (w_id kR_0) (zFx_kd hFr98 77 rfl) (zFx_ln hFr98 77 rfl) (by decide) (by decide) (fun hg110 => ?_)
              refine j_dload hC 0 dL_law_581 rfl ?_
              refine j_dcmpl hC dL_law_583 ?_
              refine j_if_eq hC dL_law_584 rfl (w_id (cR_zdcl _ _)) (fun c111 => ?_) (fun c111 => ?_)
              · have h := zt c111 h
                refine j_sub [2, 3, 4, 5, 6, 7] rfl ?_
                refine j_widen (k := (200 + 100 * tt + 90)) (n := (400000 + 2000 * tt + 1900)) (by omega) (by omega) ?_
                exact J_609 v5 hv5 M104 S100 hFr98 tt htt _ h hT
              · have h := zf c111 h
                refine j_aload hC 6 dL_law_587 rfl ?_
                refine j_iconst hC dL_law_589 ?_
                refine j_dald (n := 1) hC dL_law_590 (w_id kR_0) (zFx_kd hFr98 77 rfl) (zFx_ln hFr98 77 rfl) (by decide) (by decide) (fun hg112 => ?_)
                refine j_aload hC 6 dL_law_591 rfl ?_
                refine j_iconst hC dL_law_593 ?_
                refine j_dald (n := 1) hC dL_law_594 (w_id kR_0) (zFx_kd hFr98 77 rfl) (zFx_ln hFr98 77 rfl) (by decide) (by decide) (fun hg113 => ?_)
                refine j_dcmpl hC dL_law_595 ?_
                refine j_if_eq hC dL_law_596 rfl (w_id (cR_zdcl _ _)) (fun c114 => ?_) (fun c114 => ?_)
                · have h := zt c114 h
                  cases h
                · have h := zf c114 h
                  refine j_dload hC 0 dL_law_599 rfl ?_
                  refine j_dload hC 0 dL_law_601 rfl ?_
                  refine j_dcmpl hC dL_law_603 ?_
                  refine j_if_ne hC dL_law_604 rfl (w_id (cR_zdcl _ _)) (fun c115 => ?_) (fun c115 => ?_)
                  · have h := zf c115 h
                    refine j_sub [2, 3, 4, 5, 6, 7] rfl ?_
                    refine j_widen (k := (200 + 100 * tt + 90)) (n := (400000 + 2000 * tt + 1900)) (by omega) (by omega) ?_
                    exact J_609 v5 hv5 M104 S100 hFr98 tt htt _ h hT
                  · have h := zt c115 h
                    cases h
          · have h := zf c108 h
            cases h
        have J_672 : ∀ (v5 : Int) (hv5 : inR v5) (M : zM) (S : zS) (hF : zFx S) (tt : Nat) (htt : (v5 : Int) = 4 * (tt : Int) ∧ tt < 512) (o : _) (_ : F_L_law_J672 ln scr v5 M S = some o), zAft (bd28) n28 ex28 o → zJ K g (200 + 100 * tt + 90) (400000 + 2000 * tt + 1900) 672 9 [(0, .ref bb), (1, zr g 1), (2, zr g 48), (3, zr g 76), (4, zr g 77), (5, .int (zi v5))] [] M S := by
          intro v5 hv5 M S hF tt htt o h hT
          unfold F_L_law_J672 at h
          refine j_goto hC dL_law_672 rfl ?_
          refine j_widen (k := (200 + 100 * tt + 100)) (n := (400000 + 2000 * tt + 2000)) (by omega) (by omega) ?_
          exact J_1870 v5 hv5 M S hF tt htt _ h hT
        have J_666 : ∀ (v5 : Int) (t0 : Int) (t1 : Int) (hv5 : inR v5) (ht0 : inL t0) (ht1 : inL t1) (M : zM) (S : zS) (hF : zFx S) (tt : Nat) (htt : (v5 : Int) = 4 * (tt : Int) ∧ tt < 512) (o : _) (_ : F_L_law_J666 ln scr v5 t0 t1 M S = some o), zAft (bd28) n28 ex28 o → zJ K g (200 + 100 * tt + 90) (400000 + 2000 * tt + 1900) 666 9 [(0, .ref bb), (1, zr g 1), (2, zr g 48), (3, zr g 76), (4, zr g 77), (5, .int (zi v5))] [.long (zl t1), .long (zl t0)] M S := by
          intro v5 t0 t1 hv5 ht0 ht1 M S hF tt htt o h hT
          unfold F_L_law_J666 at h
          refine j_lcmp hC dL_law_666 ht0 ht1 ?_
          refine j_if_eq hC dL_law_667 rfl (w_id (inR_cmp _ _)) (fun c116 => ?_) (fun c116 => ?_)
          · have h := zt c116 h
            refine j_widen (k := (200 + 100 * tt + 90)) (n := (400000 + 2000 * tt + 1900)) (by omega) (by omega) ?_
            exact J_672 v5 hv5 M S hF tt htt _ h hT
          · have h := zf c116 h
            cases h
        have J_612 : ∀ (v5 : Int) (hv5 : inR v5) (M : zM) (S : zS) (hF : zFx S) (tt : Nat) (htt : (v5 : Int) = 4 * (tt : Int) ∧ tt < 512) (o : _) (_ : F_L_law_J612 ln scr v5 M S = some o), zAft (bd28) n28 ex28 o → zJ K g (200 + 100 * tt + 0) (400000 + 2000 * tt + 0) 612 9 [(0, .ref bb), (1, zr g 1), (2, zr g 48), (3, zr g 76), (4, zr g 77), (5, .int (zi v5))] [] M S := by
          intro v5 hv5 M S hF tt htt o h hT
          unfold F_L_law_J612 at h
          refine j_aload_n hC 1 dL_law_612 rfl rfl ?_
          refine j_sload_n hC 0 dL_law_613 rfl rfl ?_
          refine j_iload hC 5 dL_law_614 rfl ?_
          refine j_iconst hC dL_law_616 ?_
          refine j_iadd hC dL_law_617 ?_
          obtain ⟨c117, h⟩ := zchk_ex h
          refine j_scld hC hXs hln dL_law_618 rfl c117.1 c117.2 ?_
          rw [← hscr]
          refine j_aload_n hC 3 dL_law_619 rfl rfl ?_
          obtain ⟨r118, M119, S120, hy, h⟩ := zb3_ex h
          refine j_callTi hC hE lk_L_166 dL_law_620 (c_L_isUsed l hlt g (scr (w (v5 + 1))) (hscrR _) M S hF hy) [zr g 1, .int (zi (scr (w (v5 + 1)))), zr g 76] [] rfl rfl rfl (Nat.le_of_ble_eq_true rfl) (Nat.le_of_ble_eq_true rfl) (Nat.le_of_ble_eq_true rfl) (by omega) (by omega) (fun hp121 => ?_)
          obtain ⟨hr118, hFr118⟩ := hp121
          refine j_istore hC dL_law_623 (Nat.le_of_ble_eq_true rfl) rfl ?_
          refine j_aload_n hC 3 dL_law_625 rfl rfl ?_
          refine j_sload_n hC 1 dL_law_626 rfl rfl ?_
          refine j_iload hC 6 dL_law_627 rfl ?_
          refine j_iconst hC dL_law_629 ?_
          refine j_iadd hC dL_law_630 ?_
          obtain ⟨c122, h⟩ := zchk_ex h
          refine j_scld hC hXs hln dL_law_631 rfl c122.1 c122.2 ?_
          rw [← hscr]
          obtain ⟨r123, M124, hy, h⟩ := zb2_ex h
          refine j_callVi (ci := 8) hC hE lk_L_168 dL_law_632 (c_X11_isUsed l hlt g (scr (w (v5 + 1))) (hscrR _) M119 S120 hFr118 hy) [.int (zi (scr (w (v5 + 1))))] [] (zFx_kd hFr118 48 rfl) ⟨_, rfl, by decide, rfl⟩ rfl rfl rfl (zcat (Nat.le_of_ble_eq_true rfl)) (Nat.le_of_ble_eq_true rfl) (Nat.le_of_ble_eq_true rfl) (by omega) (by omega) (fun hp125 => ?_)
          have hr123 := hp125
          refine j_istore hC dL_law_635 (Nat.le_of_ble_eq_true rfl) rfl ?_
          refine j_aload_n hC 4 dL_law_637 rfl rfl ?_
          obtain ⟨r126, hy, h⟩ := zb1_ex h
          refine j_callVi (ci := 8) hC hE lk_L_134 dL_law_638 (c_X11_thrown l hlt g M124 S120 hFr118 hy) [] [] (zFx_kd hFr118 48 rfl) ⟨_, rfl, by decide, rfl⟩ rfl rfl rfl (zcat (Nat.le_of_ble_eq_true rfl)) (Nat.le_of_ble_eq_true rfl) (Nat.le_of_ble_eq_true rfl) (by omega) (by omega) (fun hp127 => ?_)
          have hr126 := hp127
          refine j_iload hC 1 dL_law_641 rfl ?_
          refine j_icmp_eq hC dL_law_643 rfl (w_id hr126) (w_id hr118) (fun c128 => ?_) (fun c128 => ?_)
          · have h := zt c128 h
            refine j_iload hC 1 dL_law_648 rfl ?_
            refine j_if_ne hC dL_law_650 rfl (w_id hr118) (fun c129 => ?_) (fun c129 => ?_)
            · have h := zf c129 h
              refine j_sub [2, 3, 4, 5, 6, 7] rfl ?_
              refine j_widen (k := (200 + 100 * tt + 90)) (n := (400000 + 2000 * tt + 1900)) (by omega) (by omega) ?_
              exact J_672 v5 hv5 M124 S120 hFr118 tt htt _ h hT
            · have h := zt c129 h
              refine j_aload_n hC 5 dL_law_653 rfl rfl ?_
              refine j_iconst hC dL_law_654 ?_
              refine j_lald (n := 1) hC dL_law_655 (w_id kR_0) (zFx_kd hFr118 76 rfl) (zFx_ln hFr118 76 rfl) (by decide) (by decide) (fun hg130 => ?_)
              refine j_iload hC 0 dL_law_656 rfl ?_
              refine j_if_eq hC dL_law_658 rfl (w_id hr123) (fun c131 => ?_) (fun c131 => ?_)
              · have h := zt c131 h
                refine j_lconst (z := 0) hC dL_law_665 rfl ?_
                refine j_sub [2, 3, 4, 5, 6, 7] rfl ?_
                refine j_widen (k := (200 + 100 * tt + 90)) (n := (400000 + 2000 * tt + 1900)) (by omega) (by omega) ?_
                exact J_666 v5 (M124 76 0) 0 hv5 hg130 (inLc rfl) M124 S120 hFr118 tt htt _ h hT
              · have h := zf c131 h
                refine j_lconst (z := 1) hC dL_law_661 rfl ?_
                refine j_goto hC dL_law_662 rfl ?_
                refine j_sub [2, 3, 4, 5, 6, 7] rfl ?_
                refine j_widen (k := (200 + 100 * tt + 90)) (n := (400000 + 2000 * tt + 1900)) (by omega) (by omega) ?_
                exact J_666 v5 (M124 76 0) 1 hv5 hg130 (inLc rfl) M124 S120 hFr118 tt htt _ h hT
          · have h := zf c128 h
            cases h
        have J_735 : ∀ (v5 : Int) (hv5 : inR v5) (M : zM) (S : zS) (hF : zFx S) (tt : Nat) (htt : (v5 : Int) = 4 * (tt : Int) ∧ tt < 512) (o : _) (_ : F_L_law_J735 ln scr v5 M S = some o), zAft (bd28) n28 ex28 o → zJ K g (200 + 100 * tt + 90) (400000 + 2000 * tt + 1900) 735 9 [(0, .ref bb), (1, zr g 1), (2, zr g 48), (3, zr g 76), (4, zr g 77), (5, .int (zi v5))] [] M S := by
          intro v5 hv5 M S hF tt htt o h hT
          unfold F_L_law_J735 at h
          refine j_goto hC dL_law_735 rfl ?_
          refine j_widen (k := (200 + 100 * tt + 100)) (n := (400000 + 2000 * tt + 2000)) (by omega) (by omega) ?_
          exact J_1870 v5 hv5 M S hF tt htt _ h hT
        have J_729 : ∀ (v5 : Int) (t0 : Int) (t1 : Int) (hv5 : inR v5) (ht0 : inL t0) (ht1 : inL t1) (M : zM) (S : zS) (hF : zFx S) (tt : Nat) (htt : (v5 : Int) = 4 * (tt : Int) ∧ tt < 512) (o : _) (_ : F_L_law_J729 ln scr v5 t0 t1 M S = some o), zAft (bd28) n28 ex28 o → zJ K g (200 + 100 * tt + 90) (400000 + 2000 * tt + 1900) 729 9 [(0, .ref bb), (1, zr g 1), (2, zr g 48), (3, zr g 76), (4, zr g 77), (5, .int (zi v5))] [.long (zl t1), .long (zl t0)] M S := by
          intro v5 t0 t1 hv5 ht0 ht1 M S hF tt htt o h hT
          unfold F_L_law_J729 at h
          refine j_lcmp hC dL_law_729 ht0 ht1 ?_
          refine j_if_eq hC dL_law_730 rfl (w_id (inR_cmp _ _)) (fun c132 => ?_) (fun c132 => ?_)
          · have h := zt c132 h
            refine j_widen (k := (200 + 100 * tt + 90)) (n := (400000 + 2000 * tt + 1900)) (by omega) (by omega) ?_
            exact J_735 v5 hv5 M S hF tt htt _ h hT
          · have h := zf c132 h
            cases h
        have J_675 : ∀ (v5 : Int) (hv5 : inR v5) (M : zM) (S : zS) (hF : zFx S) (tt : Nat) (htt : (v5 : Int) = 4 * (tt : Int) ∧ tt < 512) (o : _) (_ : F_L_law_J675 ln scr v5 M S = some o), zAft (bd28) n28 ex28 o → zJ K g (200 + 100 * tt + 0) (400000 + 2000 * tt + 0) 675 9 [(0, .ref bb), (1, zr g 1), (2, zr g 48), (3, zr g 76), (4, zr g 77), (5, .int (zi v5))] [] M S := by
          intro v5 hv5 M S hF tt htt o h hT
          unfold F_L_law_J675 at h
          refine j_aload_n hC 1 dL_law_675 rfl rfl ?_
          refine j_sload_n hC 0 dL_law_676 rfl rfl ?_
          refine j_iload hC 5 dL_law_677 rfl ?_
          refine j_iconst hC dL_law_679 ?_
          refine j_iadd hC dL_law_680 ?_
          obtain ⟨c133, h⟩ := zchk_ex h
          refine j_scld hC hXs hln dL_law_681 rfl c133.1 c133.2 ?_
          rw [← hscr]
          refine j_aload_n hC 3 dL_law_682 rfl rfl ?_
          obtain ⟨r134, M135, S136, hy, h⟩ := zb3_ex h
          refine j_callTi hC hE lk_L_169 dL_law_683 (c_L_isRedundant l hlt g (scr (w (v5 + 1))) (hscrR _) M S hF hy) [zr g 1, .int (zi (scr (w (v5 + 1)))), zr g 76] [] rfl rfl rfl (Nat.le_of_ble_eq_true rfl) (Nat.le_of_ble_eq_true rfl) (Nat.le_of_ble_eq_true rfl) (by omega) (by omega) (fun hp137 => ?_)
          obtain ⟨hr134, hFr134⟩ := hp137
          refine j_istore hC dL_law_686 (Nat.le_of_ble_eq_true rfl) rfl ?_
          refine j_aload_n hC 3 dL_law_688 rfl rfl ?_
          refine j_sload_n hC 1 dL_law_689 rfl rfl ?_
          refine j_iload hC 6 dL_law_690 rfl ?_
          refine j_iconst hC dL_law_692 ?_
          refine j_iadd hC dL_law_693 ?_
          obtain ⟨c138, h⟩ := zchk_ex h
          refine j_scld hC hXs hln dL_law_694 rfl c138.1 c138.2 ?_
          rw [← hscr]
          obtain ⟨r139, M140, hy, h⟩ := zb2_ex h
          refine j_callVi (ci := 8) hC hE lk_L_171 dL_law_695 (c_X11_isRedundant l hlt g (scr (w (v5 + 1))) (hscrR _) M135 S136 hFr134 hy) [.int (zi (scr (w (v5 + 1))))] [] (zFx_kd hFr134 48 rfl) ⟨_, rfl, by decide, rfl⟩ rfl rfl rfl (zcat (Nat.le_of_ble_eq_true rfl)) (Nat.le_of_ble_eq_true rfl) (Nat.le_of_ble_eq_true rfl) (by omega) (by omega) (fun hp141 => ?_)
          have hr139 := hp141
          refine j_istore hC dL_law_698 (Nat.le_of_ble_eq_true rfl) rfl ?_
          refine j_aload_n hC 4 dL_law_700 rfl rfl ?_
          obtain ⟨r142, hy, h⟩ := zb1_ex h
          refine j_callVi (ci := 8) hC hE lk_L_134 dL_law_701 (c_X11_thrown l hlt g M140 S136 hFr134 hy) [] [] (zFx_kd hFr134 48 rfl) ⟨_, rfl, by decide, rfl⟩ rfl rfl rfl (zcat (Nat.le_of_ble_eq_true rfl)) (Nat.le_of_ble_eq_true rfl) (Nat.le_of_ble_eq_true rfl) (by omega) (by omega) (fun hp143 => ?_)
          have hr142 := hp143
          refine j_iload hC 1 dL_law_704 rfl ?_
          refine j_icmp_eq hC dL_law_706 rfl (w_id hr142) (w_id hr134) (fun c144 => ?_) (fun c144 => ?_)
          · have h := zt c144 h
            refine j_iload hC 1 dL_law_711 rfl ?_
            refine j_if_ne hC dL_law_713 rfl (w_id hr134) (fun c145 => ?_) (fun c145 => ?_)
            · have h := zf c145 h
              refine j_sub [2, 3, 4, 5, 6, 7] rfl ?_
              refine j_widen (k := (200 + 100 * tt + 90)) (n := (400000 + 2000 * tt + 1900)) (by omega) (by omega) ?_
              exact J_735 v5 hv5 M140 S136 hFr134 tt htt _ h hT
            · have h := zt c145 h
              refine j_aload_n hC 5 dL_law_716 rfl rfl ?_
              refine j_iconst hC dL_law_717 ?_
              refine j_lald (n := 1) hC dL_law_718 (w_id kR_0) (zFx_kd hFr134 76 rfl) (zFx_ln hFr134 76 rfl) (by decide) (by decide) (fun hg146 => ?_)
              refine j_iload hC 0 dL_law_719 rfl ?_
              refine j_if_eq hC dL_law_721 rfl (w_id hr139) (fun c147 => ?_) (fun c147 => ?_)
              · have h := zt c147 h
                refine j_lconst (z := 0) hC dL_law_728 rfl ?_
                refine j_sub [2, 3, 4, 5, 6, 7] rfl ?_
                refine j_widen (k := (200 + 100 * tt + 90)) (n := (400000 + 2000 * tt + 1900)) (by omega) (by omega) ?_
                exact J_729 v5 (M140 76 0) 0 hv5 hg146 (inLc rfl) M140 S136 hFr134 tt htt _ h hT
              · have h := zf c147 h
                refine j_lconst (z := 1) hC dL_law_724 rfl ?_
                refine j_goto hC dL_law_725 rfl ?_
                refine j_sub [2, 3, 4, 5, 6, 7] rfl ?_
                refine j_widen (k := (200 + 100 * tt + 90)) (n := (400000 + 2000 * tt + 1900)) (by omega) (by omega) ?_
                exact J_729 v5 (M140 76 0) 1 hv5 hg146 (inLc rfl) M140 S136 hFr134 tt htt _ h hT
          · have h := zf c144 h
            cases h
        have J_779 : ∀ (v5 : Int) (hv5 : inR v5) (M : zM) (S : zS) (hF : zFx S) (tt : Nat) (htt : (v5 : Int) = 4 * (tt : Int) ∧ tt < 512) (o : _) (_ : F_L_law_J779 ln scr v5 M S = some o), zAft (bd28) n28 ex28 o → zJ K g (200 + 100 * tt + 90) (400000 + 2000 * tt + 1900) 779 9 [(0, .ref bb), (1, zr g 1), (2, zr g 48), (3, zr g 76), (4, zr g 77), (5, .int (zi v5))] [] M S := by
          intro v5 hv5 M S hF tt htt o h hT
          unfold F_L_law_J779 at h
          refine j_goto hC dL_law_779 rfl ?_
          refine j_widen (k := (200 + 100 * tt + 100)) (n := (400000 + 2000 * tt + 2000)) (by omega) (by omega) ?_
          exact J_1870 v5 hv5 M S hF tt htt _ h hT
        have J_738 : ∀ (v5 : Int) (hv5 : inR v5) (M : zM) (S : zS) (hF : zFx S) (tt : Nat) (htt : (v5 : Int) = 4 * (tt : Int) ∧ tt < 512) (o : _) (_ : F_L_law_J738 ln scr v5 M S = some o), zAft (bd28) n28 ex28 o → zJ K g (200 + 100 * tt + 0) (400000 + 2000 * tt + 0) 738 9 [(0, .ref bb), (1, zr g 1), (2, zr g 48), (3, zr g 76), (4, zr g 77), (5, .int (zi v5))] [] M S := by
          intro v5 hv5 M S hF tt htt o h hT
          unfold F_L_law_J738 at h
          refine j_aload_n hC 1 dL_law_738 rfl rfl ?_
          refine j_aload_n hC 3 dL_law_739 rfl rfl ?_
          obtain ⟨r148, M149, S150, hy, h⟩ := zb3_ex h
          refine j_callTi hC hE lk_L_172 dL_law_740 (c_L_minimalContexts l hlt g M S hF hy) [zr g 1, zr g 76] [] rfl rfl rfl (Nat.le_of_ble_eq_true rfl) (Nat.le_of_ble_eq_true rfl) (Nat.le_of_ble_eq_true rfl) (by omega) (by omega) (fun hp151 => ?_)
          obtain ⟨hr148, hFr148⟩ := hp151
          refine j_istore hC dL_law_743 (Nat.le_of_ble_eq_true rfl) rfl ?_
          refine j_aload_n hC 3 dL_law_745 rfl rfl ?_
          obtain ⟨r152, M153, hy, h⟩ := zb2_ex h
          refine j_callVi (ci := 8) hC hE lk_L_174 dL_law_746 (c_X11_minimalContexts l hlt g M149 S150 hFr148 hy) [] [] (zFx_kd hFr148 48 rfl) ⟨_, rfl, by decide, rfl⟩ rfl rfl rfl (zcat (Nat.le_of_ble_eq_true rfl)) (Nat.le_of_ble_eq_true rfl) (Nat.le_of_ble_eq_true rfl) (by omega) (by omega) (fun hp154 => ?_)
          have hr152 := hp154
          refine j_istore hC dL_law_749 (Nat.le_of_ble_eq_true rfl) rfl ?_
          refine j_aload_n hC 4 dL_law_751 rfl rfl ?_
          obtain ⟨r155, hy, h⟩ := zb1_ex h
          refine j_callVi (ci := 8) hC hE lk_L_134 dL_law_752 (c_X11_thrown l hlt g M153 S150 hFr148 hy) [] [] (zFx_kd hFr148 48 rfl) ⟨_, rfl, by decide, rfl⟩ rfl rfl rfl (zcat (Nat.le_of_ble_eq_true rfl)) (Nat.le_of_ble_eq_true rfl) (Nat.le_of_ble_eq_true rfl) (by omega) (by omega) (fun hp156 => ?_)
          have hr155 := hp156
          refine j_iload hC 1 dL_law_755 rfl ?_
          refine j_icmp_eq hC dL_law_757 rfl (w_id hr155) (w_id hr148) (fun c157 => ?_) (fun c157 => ?_)
          · have h := zt c157 h
            refine j_iload hC 1 dL_law_762 rfl ?_
            refine j_if_ne hC dL_law_764 rfl (w_id hr148) (fun c158 => ?_) (fun c158 => ?_)
            · have h := zf c158 h
              refine j_sub [2, 3, 4, 5, 6, 7] rfl ?_
              refine j_widen (k := (200 + 100 * tt + 90)) (n := (400000 + 2000 * tt + 1900)) (by omega) (by omega) ?_
              exact J_779 v5 hv5 M153 S150 hFr148 tt htt _ h hT
            · have h := zt c158 h
              refine j_aload_n hC 5 dL_law_767 rfl rfl ?_
              refine j_iconst hC dL_law_768 ?_
              refine j_lald (n := 1) hC dL_law_769 (w_id kR_0) (zFx_kd hFr148 76 rfl) (zFx_ln hFr148 76 rfl) (by decide) (by decide) (fun hg159 => ?_)
              refine j_iload hC 0 dL_law_770 rfl ?_
              refine j_i2l hC dL_law_772 (w_id hr152) ?_
              refine j_lcmp hC dL_law_773 hg159 (inL_R hr152) ?_
              refine j_if_eq hC dL_law_774 rfl (w_id (inR_cmp _ _)) (fun c160 => ?_) (fun c160 => ?_)
              · have h := zt c160 h
                refine j_sub [2, 3, 4, 5, 6, 7] rfl ?_
                refine j_widen (k := (200 + 100 * tt + 90)) (n := (400000 + 2000 * tt + 1900)) (by omega) (by omega) ?_
                exact J_779 v5 hv5 M153 S150 hFr148 tt htt _ h hT
              · have h := zf c160 h
                cases h
          · have h := zf c157 h
            cases h
        have J_854 : ∀ (v5 : Int) (hv5 : inR v5) (M : zM) (S : zS) (hF : zFx S) (tt : Nat) (htt : (v5 : Int) = 4 * (tt : Int) ∧ tt < 512) (o : _) (_ : F_L_law_J854 ln scr v5 M S = some o), zAft (bd28) n28 ex28 o → zJ K g (200 + 100 * tt + 90) (400000 + 2000 * tt + 1900) 854 9 [(0, .ref bb), (1, zr g 1), (2, zr g 48), (3, zr g 76), (4, zr g 77), (5, .int (zi v5))] [] M S := by
          intro v5 hv5 M S hF tt htt o h hT
          unfold F_L_law_J854 at h
          refine j_goto hC dL_law_854 rfl ?_
          refine j_widen (k := (200 + 100 * tt + 100)) (n := (400000 + 2000 * tt + 2000)) (by omega) (by omega) ?_
          exact J_1870 v5 hv5 M S hF tt htt _ h hT
        have J_848 : ∀ (v5 : Int) (t0 : Int) (t1 : Int) (hv5 : inR v5) (ht0 : inL t0) (ht1 : inL t1) (M : zM) (S : zS) (hF : zFx S) (tt : Nat) (htt : (v5 : Int) = 4 * (tt : Int) ∧ tt < 512) (o : _) (_ : F_L_law_J848 ln scr v5 t0 t1 M S = some o), zAft (bd28) n28 ex28 o → zJ K g (200 + 100 * tt + 90) (400000 + 2000 * tt + 1900) 848 9 [(0, .ref bb), (1, zr g 1), (2, zr g 48), (3, zr g 76), (4, zr g 77), (5, .int (zi v5))] [.long (zl t1), .long (zl t0)] M S := by
          intro v5 t0 t1 hv5 ht0 ht1 M S hF tt htt o h hT
          unfold F_L_law_J848 at h
          refine j_lcmp hC dL_law_848 ht0 ht1 ?_
          refine j_if_eq hC dL_law_849 rfl (w_id (inR_cmp _ _)) (fun c161 => ?_) (fun c161 => ?_)
          · have h := zt c161 h
            refine j_widen (k := (200 + 100 * tt + 90)) (n := (400000 + 2000 * tt + 1900)) (by omega) (by omega) ?_
            exact J_854 v5 hv5 M S hF tt htt _ h hT
          · have h := zf c161 h
            cases h
        have J_782 : ∀ (v5 : Int) (hv5 : inR v5) (M : zM) (S : zS) (hF : zFx S) (tt : Nat) (htt : (v5 : Int) = 4 * (tt : Int) ∧ tt < 512) (o : _) (_ : F_L_law_J782 ln scr v5 M S = some o), zAft (bd28) n28 ex28 o → zJ K g (200 + 100 * tt + 0) (400000 + 2000 * tt + 0) 782 9 [(0, .ref bb), (1, zr g 1), (2, zr g 48), (3, zr g 76), (4, zr g 77), (5, .int (zi v5))] [] M S := by
          intro v5 hv5 M S hF tt htt o h hT
          unfold F_L_law_J782 at h
          refine j_aload_n hC 1 dL_law_782 rfl rfl ?_
          refine j_sload_n hC 0 dL_law_783 rfl rfl ?_
          refine j_iload hC 5 dL_law_784 rfl ?_
          refine j_iconst hC dL_law_786 ?_
          refine j_iadd hC dL_law_787 ?_
          obtain ⟨c162, h⟩ := zchk_ex h
          refine j_scld hC hXs hln dL_law_788 rfl c162.1 c162.2 ?_
          rw [← hscr]
          refine j_sload_n hC 0 dL_law_789 rfl rfl ?_
          refine j_iload hC 5 dL_law_790 rfl ?_
          refine j_iconst hC dL_law_792 ?_
          refine j_iadd hC dL_law_793 ?_
          obtain ⟨c163, h⟩ := zchk_ex h
          refine j_scld hC hXs hln dL_law_794 rfl c163.1 c163.2 ?_
          rw [← hscr]
          refine j_aload_n hC 3 dL_law_795 rfl rfl ?_
          obtain ⟨r164, M165, S166, hy, h⟩ := zb3_ex h
          refine j_callTi hC hE lk_L_175 dL_law_796 (c_L_canFollow l hlt g (scr (w (v5 + 1))) (scr (w (v5 + 2))) (hscrR _) (hscrR _) M S hF hy) [zr g 1, .int (zi (scr (w (v5 + 1)))), .int (zi (scr (w (v5 + 2)))), zr g 76] [] rfl rfl rfl (Nat.le_of_ble_eq_true rfl) (Nat.le_of_ble_eq_true rfl) (Nat.le_of_ble_eq_true rfl) (by omega) (by omega) (fun hp167 => ?_)
          obtain ⟨hr164, hFr164⟩ := hp167
          refine j_istore hC dL_law_799 (Nat.le_of_ble_eq_true rfl) rfl ?_
          refine j_aload_n hC 3 dL_law_801 rfl rfl ?_
          refine j_sload_n hC 1 dL_law_802 rfl rfl ?_
          refine j_iload hC 6 dL_law_803 rfl ?_
          refine j_iconst hC dL_law_805 ?_
          refine j_iadd hC dL_law_806 ?_
          obtain ⟨c168, h⟩ := zchk_ex h
          refine j_scld hC hXs hln dL_law_807 rfl c168.1 c168.2 ?_
          rw [← hscr]
          refine j_sload_n hC 1 dL_law_808 rfl rfl ?_
          refine j_iload hC 6 dL_law_809 rfl ?_
          refine j_iconst hC dL_law_811 ?_
          refine j_iadd hC dL_law_812 ?_
          obtain ⟨c169, h⟩ := zchk_ex h
          refine j_scld hC hXs hln dL_law_813 rfl c169.1 c169.2 ?_
          rw [← hscr]
          obtain ⟨r170, M171, hy, h⟩ := zb2_ex h
          refine j_callVi (ci := 8) hC hE lk_L_178 dL_law_814 (c_X11_canFollow l hlt g (scr (w (v5 + 1))) (scr (w (v5 + 2))) (hscrR _) (hscrR _) M165 S166 hFr164 hy) [.int (zi (scr (w (v5 + 1)))), .int (zi (scr (w (v5 + 2))))] [] (zFx_kd hFr164 48 rfl) ⟨_, rfl, by decide, rfl⟩ rfl rfl rfl (zcat (Nat.le_of_ble_eq_true rfl)) (Nat.le_of_ble_eq_true rfl) (Nat.le_of_ble_eq_true rfl) (by omega) (by omega) (fun hp172 => ?_)
          have hr170 := hp172
          refine j_istore hC dL_law_817 (Nat.le_of_ble_eq_true rfl) rfl ?_
          refine j_aload_n hC 4 dL_law_819 rfl rfl ?_
          obtain ⟨r173, hy, h⟩ := zb1_ex h
          refine j_callVi (ci := 8) hC hE lk_L_134 dL_law_820 (c_X11_thrown l hlt g M171 S166 hFr164 hy) [] [] (zFx_kd hFr164 48 rfl) ⟨_, rfl, by decide, rfl⟩ rfl rfl rfl (zcat (Nat.le_of_ble_eq_true rfl)) (Nat.le_of_ble_eq_true rfl) (Nat.le_of_ble_eq_true rfl) (by omega) (by omega) (fun hp174 => ?_)
          have hr173 := hp174
          refine j_iload hC 1 dL_law_823 rfl ?_
          refine j_icmp_eq hC dL_law_825 rfl (w_id hr173) (w_id hr164) (fun c175 => ?_) (fun c175 => ?_)
          · have h := zt c175 h
            refine j_iload hC 1 dL_law_830 rfl ?_
            refine j_if_ne hC dL_law_832 rfl (w_id hr164) (fun c176 => ?_) (fun c176 => ?_)
            · have h := zf c176 h
              refine j_sub [2, 3, 4, 5, 6, 7] rfl ?_
              refine j_widen (k := (200 + 100 * tt + 90)) (n := (400000 + 2000 * tt + 1900)) (by omega) (by omega) ?_
              exact J_854 v5 hv5 M171 S166 hFr164 tt htt _ h hT
            · have h := zt c176 h
              refine j_aload_n hC 5 dL_law_835 rfl rfl ?_
              refine j_iconst hC dL_law_836 ?_
              refine j_lald (n := 1) hC dL_law_837 (w_id kR_0) (zFx_kd hFr164 76 rfl) (zFx_ln hFr164 76 rfl) (by decide) (by decide) (fun hg177 => ?_)
              refine j_iload hC 0 dL_law_838 rfl ?_
              refine j_if_eq hC dL_law_840 rfl (w_id hr170) (fun c178 => ?_) (fun c178 => ?_)
              · have h := zt c178 h
                refine j_lconst (z := 0) hC dL_law_847 rfl ?_
                refine j_sub [2, 3, 4, 5, 6, 7] rfl ?_
                refine j_widen (k := (200 + 100 * tt + 90)) (n := (400000 + 2000 * tt + 1900)) (by omega) (by omega) ?_
                exact J_848 v5 (M171 76 0) 0 hv5 hg177 (inLc rfl) M171 S166 hFr164 tt htt _ h hT
              · have h := zf c178 h
                refine j_lconst (z := 1) hC dL_law_843 rfl ?_
                refine j_goto hC dL_law_844 rfl ?_
                refine j_sub [2, 3, 4, 5, 6, 7] rfl ?_
                refine j_widen (k := (200 + 100 * tt + 90)) (n := (400000 + 2000 * tt + 1900)) (by omega) (by omega) ?_
                exact J_848 v5 (M171 76 0) 1 hv5 hg177 (inLc rfl) M171 S166 hFr164 tt htt _ h hT
          · have h := zf c175 h
            cases h
        have J_910 : ∀ (v5 : Int) (hv5 : inR v5) (M : zM) (S : zS) (hF : zFx S) (tt : Nat) (htt : (v5 : Int) = 4 * (tt : Int) ∧ tt < 512) (o : _) (_ : F_L_law_J910 ln scr v5 M S = some o), zAft (bd28) n28 ex28 o → zJ K g (200 + 100 * tt + 90) (400000 + 2000 * tt + 1900) 910 9 [(0, .ref bb), (1, zr g 1), (2, zr g 48), (3, zr g 76), (4, zr g 77), (5, .int (zi v5))] [] M S := by
          intro v5 hv5 M S hF tt htt o h hT
          unfold F_L_law_J910 at h
          refine j_goto hC dL_law_910 rfl ?_
          refine j_widen (k := (200 + 100 * tt + 100)) (n := (400000 + 2000 * tt + 2000)) (by omega) (by omega) ?_
          exact J_1870 v5 hv5 M S hF tt htt _ h hT
        have J_857 : ∀ (v5 : Int) (hv5 : inR v5) (M : zM) (S : zS) (hF : zFx S) (tt : Nat) (htt : (v5 : Int) = 4 * (tt : Int) ∧ tt < 512) (o : _) (_ : F_L_law_J857 ln scr v5 M S = some o), zAft (bd28) n28 ex28 o → zJ K g (200 + 100 * tt + 0) (400000 + 2000 * tt + 0) 857 9 [(0, .ref bb), (1, zr g 1), (2, zr g 48), (3, zr g 76), (4, zr g 77), (5, .int (zi v5))] [] M S := by
          intro v5 hv5 M S hF tt htt o h hT
          unfold F_L_law_J857 at h
          refine j_aload_n hC 1 dL_law_857 rfl rfl ?_
          refine j_sload_n hC 0 dL_law_858 rfl rfl ?_
          refine j_iload hC 5 dL_law_859 rfl ?_
          refine j_iconst hC dL_law_861 ?_
          refine j_iadd hC dL_law_862 ?_
          obtain ⟨c179, h⟩ := zchk_ex h
          refine j_scld hC hXs hln dL_law_863 rfl c179.1 c179.2 ?_
          rw [← hscr]
          refine j_aload_n hC 3 dL_law_864 rfl rfl ?_
          obtain ⟨r180, M181, S182, hy, h⟩ := zb3_ex h
          refine j_callTi hC hE lk_L_179 dL_law_865 (c_L_shortestLoop l hlt g (scr (w (v5 + 1))) (hscrR _) M S hF hy) [zr g 1, .int (zi (scr (w (v5 + 1)))), zr g 76] [] rfl rfl rfl (Nat.le_of_ble_eq_true rfl) (Nat.le_of_ble_eq_true rfl) (Nat.le_of_ble_eq_true rfl) (by omega) (by omega) (fun hp183 => ?_)
          obtain ⟨hr180, hFr180⟩ := hp183
          refine j_istore hC dL_law_868 (Nat.le_of_ble_eq_true rfl) rfl ?_
          refine j_aload_n hC 3 dL_law_870 rfl rfl ?_
          refine j_sload_n hC 1 dL_law_871 rfl rfl ?_
          refine j_iload hC 6 dL_law_872 rfl ?_
          refine j_iconst hC dL_law_874 ?_
          refine j_iadd hC dL_law_875 ?_
          obtain ⟨c184, h⟩ := zchk_ex h
          refine j_scld hC hXs hln dL_law_876 rfl c184.1 c184.2 ?_
          rw [← hscr]
          obtain ⟨r185, M186, hy, h⟩ := zb2_ex h
          refine j_callVi (ci := 8) hC hE lk_L_181 dL_law_877 (c_X11_shortestLoop l hlt g (scr (w (v5 + 1))) (hscrR _) M181 S182 hFr180 hy) [.int (zi (scr (w (v5 + 1))))] [] (zFx_kd hFr180 48 rfl) ⟨_, rfl, by decide, rfl⟩ rfl rfl rfl (zcat (Nat.le_of_ble_eq_true rfl)) (Nat.le_of_ble_eq_true rfl) (Nat.le_of_ble_eq_true rfl) (by omega) (by omega) (fun hp187 => ?_)
          have hr185 := hp187
          refine j_istore hC dL_law_880 (Nat.le_of_ble_eq_true rfl) rfl ?_
          refine j_aload_n hC 4 dL_law_882 rfl rfl ?_
          obtain ⟨r188, hy, h⟩ := zb1_ex h
          refine j_callVi (ci := 8) hC hE lk_L_134 dL_law_883 (c_X11_thrown l hlt g M186 S182 hFr180 hy) [] [] (zFx_kd hFr180 48 rfl) ⟨_, rfl, by decide, rfl⟩ rfl rfl rfl (zcat (Nat.le_of_ble_eq_true rfl)) (Nat.le_of_ble_eq_true rfl) (Nat.le_of_ble_eq_true rfl) (by omega) (by omega) (fun hp189 => ?_)
          have hr188 := hp189
          refine j_iload hC 1 dL_law_886 rfl ?_
          refine j_icmp_eq hC dL_law_888 rfl (w_id hr188) (w_id hr180) (fun c190 => ?_) (fun c190 => ?_)
          · have h := zt c190 h
            refine j_iload hC 1 dL_law_893 rfl ?_
            refine j_if_ne hC dL_law_895 rfl (w_id hr180) (fun c191 => ?_) (fun c191 => ?_)
            · have h := zf c191 h
              refine j_sub [2, 3, 4, 5, 6, 7] rfl ?_
              refine j_widen (k := (200 + 100 * tt + 90)) (n := (400000 + 2000 * tt + 1900)) (by omega) (by omega) ?_
              exact J_910 v5 hv5 M186 S182 hFr180 tt htt _ h hT
            · have h := zt c191 h
              refine j_aload_n hC 5 dL_law_898 rfl rfl ?_
              refine j_iconst hC dL_law_899 ?_
              refine j_lald (n := 1) hC dL_law_900 (w_id kR_0) (zFx_kd hFr180 76 rfl) (zFx_ln hFr180 76 rfl) (by decide) (by decide) (fun hg192 => ?_)
              refine j_iload hC 0 dL_law_901 rfl ?_
              refine j_i2l hC dL_law_903 (w_id hr185) ?_
              refine j_lcmp hC dL_law_904 hg192 (inL_R hr185) ?_
              refine j_if_eq hC dL_law_905 rfl (w_id (inR_cmp _ _)) (fun c193 => ?_) (fun c193 => ?_)
              · have h := zt c193 h
                refine j_sub [2, 3, 4, 5, 6, 7] rfl ?_
                refine j_widen (k := (200 + 100 * tt + 90)) (n := (400000 + 2000 * tt + 1900)) (by omega) (by omega) ?_
                exact J_910 v5 hv5 M186 S182 hFr180 tt htt _ h hT
              · have h := zf c193 h
                cases h
          · have h := zf c190 h
            cases h
        have J_961 : ∀ (v5 : Int) (hv5 : inR v5) (M : zM) (S : zS) (hF : zFx S) (tt : Nat) (htt : (v5 : Int) = 4 * (tt : Int) ∧ tt < 512) (o : _) (_ : F_L_law_J961 ln scr v5 M S = some o), zAft (bd28) n28 ex28 o → zJ K g (200 + 100 * tt + 90) (400000 + 2000 * tt + 1900) 961 9 [(0, .ref bb), (1, zr g 1), (2, zr g 48), (3, zr g 76), (4, zr g 77), (5, .int (zi v5))] [] M S := by
          intro v5 hv5 M S hF tt htt o h hT
          unfold F_L_law_J961 at h
          refine j_goto hC dL_law_961 rfl ?_
          refine j_widen (k := (200 + 100 * tt + 100)) (n := (400000 + 2000 * tt + 2000)) (by omega) (by omega) ?_
          exact J_1870 v5 hv5 M S hF tt htt _ h hT
        have J_955 : ∀ (v5 : Int) (t0 : Int) (t1 : Int) (hv5 : inR v5) (ht0 : inL t0) (ht1 : inL t1) (M : zM) (S : zS) (hF : zFx S) (tt : Nat) (htt : (v5 : Int) = 4 * (tt : Int) ∧ tt < 512) (o : _) (_ : F_L_law_J955 ln scr v5 t0 t1 M S = some o), zAft (bd28) n28 ex28 o → zJ K g (200 + 100 * tt + 90) (400000 + 2000 * tt + 1900) 955 9 [(0, .ref bb), (1, zr g 1), (2, zr g 48), (3, zr g 76), (4, zr g 77), (5, .int (zi v5))] [.long (zl t1), .long (zl t0)] M S := by
          intro v5 t0 t1 hv5 ht0 ht1 M S hF tt htt o h hT
          unfold F_L_law_J955 at h
          refine j_lcmp hC dL_law_955 ht0 ht1 ?_
          refine j_if_eq hC dL_law_956 rfl (w_id (inR_cmp _ _)) (fun c194 => ?_) (fun c194 => ?_)
          · have h := zt c194 h
            refine j_widen (k := (200 + 100 * tt + 90)) (n := (400000 + 2000 * tt + 1900)) (by omega) (by omega) ?_
            exact J_961 v5 hv5 M S hF tt htt _ h hT
          · have h := zf c194 h
            cases h
        have J_913 : ∀ (v5 : Int) (hv5 : inR v5) (M : zM) (S : zS) (hF : zFx S) (tt : Nat) (htt : (v5 : Int) = 4 * (tt : Int) ∧ tt < 512) (o : _) (_ : F_L_law_J913 ln scr v5 M S = some o), zAft (bd28) n28 ex28 o → zJ K g (200 + 100 * tt + 0) (400000 + 2000 * tt + 0) 913 9 [(0, .ref bb), (1, zr g 1), (2, zr g 48), (3, zr g 76), (4, zr g 77), (5, .int (zi v5))] [] M S := by
          intro v5 hv5 M S hF tt htt o h hT
          unfold F_L_law_J913 at h
          refine j_aload_n hC 1 dL_law_913 rfl rfl ?_
          refine j_aload_n hC 3 dL_law_914 rfl rfl ?_
          obtain ⟨r195, M196, S197, hy, h⟩ := zb3_ex h
          refine j_callTi hC hE lk_L_182 dL_law_915 (c_L_isConfluent l hlt g M S hF hy) [zr g 1, zr g 76] [] rfl rfl rfl (Nat.le_of_ble_eq_true rfl) (Nat.le_of_ble_eq_true rfl) (Nat.le_of_ble_eq_true rfl) (by omega) (by omega) (fun hp198 => ?_)
          obtain ⟨hr195, hFr195⟩ := hp198
          refine j_istore hC dL_law_918 (Nat.le_of_ble_eq_true rfl) rfl ?_
          refine j_aload_n hC 3 dL_law_920 rfl rfl ?_
          obtain ⟨r199, M200, hy, h⟩ := zb2_ex h
          refine j_callVi (ci := 8) hC hE lk_L_184 dL_law_921 (c_X11_isConfluent l hlt g M196 S197 hFr195 hy) [] [] (zFx_kd hFr195 48 rfl) ⟨_, rfl, by decide, rfl⟩ rfl rfl rfl (zcat (Nat.le_of_ble_eq_true rfl)) (Nat.le_of_ble_eq_true rfl) (Nat.le_of_ble_eq_true rfl) (by omega) (by omega) (fun hp201 => ?_)
          have hr199 := hp201
          refine j_istore hC dL_law_924 (Nat.le_of_ble_eq_true rfl) rfl ?_
          refine j_aload_n hC 4 dL_law_926 rfl rfl ?_
          obtain ⟨r202, hy, h⟩ := zb1_ex h
          refine j_callVi (ci := 8) hC hE lk_L_134 dL_law_927 (c_X11_thrown l hlt g M200 S197 hFr195 hy) [] [] (zFx_kd hFr195 48 rfl) ⟨_, rfl, by decide, rfl⟩ rfl rfl rfl (zcat (Nat.le_of_ble_eq_true rfl)) (Nat.le_of_ble_eq_true rfl) (Nat.le_of_ble_eq_true rfl) (by omega) (by omega) (fun hp203 => ?_)
          have hr202 := hp203
          refine j_iload hC 1 dL_law_930 rfl ?_
          refine j_icmp_eq hC dL_law_932 rfl (w_id hr202) (w_id hr195) (fun c204 => ?_) (fun c204 => ?_)
          · have h := zt c204 h
            refine j_iload hC 1 dL_law_937 rfl ?_
            refine j_if_ne hC dL_law_939 rfl (w_id hr195) (fun c205 => ?_) (fun c205 => ?_)
            · have h := zf c205 h
              refine j_sub [2, 3, 4, 5, 6, 7] rfl ?_
              refine j_widen (k := (200 + 100 * tt + 90)) (n := (400000 + 2000 * tt + 1900)) (by omega) (by omega) ?_
              exact J_961 v5 hv5 M200 S197 hFr195 tt htt _ h hT
            · have h := zt c205 h
              refine j_aload_n hC 5 dL_law_942 rfl rfl ?_
              refine j_iconst hC dL_law_943 ?_
              refine j_lald (n := 1) hC dL_law_944 (w_id kR_0) (zFx_kd hFr195 76 rfl) (zFx_ln hFr195 76 rfl) (by decide) (by decide) (fun hg206 => ?_)
              refine j_iload hC 0 dL_law_945 rfl ?_
              refine j_if_eq hC dL_law_947 rfl (w_id hr199) (fun c207 => ?_) (fun c207 => ?_)
              · have h := zt c207 h
                refine j_lconst (z := 0) hC dL_law_954 rfl ?_
                refine j_sub [2, 3, 4, 5, 6, 7] rfl ?_
                refine j_widen (k := (200 + 100 * tt + 90)) (n := (400000 + 2000 * tt + 1900)) (by omega) (by omega) ?_
                exact J_955 v5 (M200 76 0) 0 hv5 hg206 (inLc rfl) M200 S197 hFr195 tt htt _ h hT
              · have h := zf c207 h
                refine j_lconst (z := 1) hC dL_law_950 rfl ?_
                refine j_goto hC dL_law_951 rfl ?_
                refine j_sub [2, 3, 4, 5, 6, 7] rfl ?_
                refine j_widen (k := (200 + 100 * tt + 90)) (n := (400000 + 2000 * tt + 1900)) (by omega) (by omega) ?_
                exact J_955 v5 (M200 76 0) 1 hv5 hg206 (inLc rfl) M200 S197 hFr195 tt htt _ h hT
          · have h := zf c204 h
            cases h
        have J_964 : ∀ (v5 : Int) (hv5 : inR v5) (M : zM) (S : zS) (hF : zFx S) (tt : Nat) (htt : (v5 : Int) = 4 * (tt : Int) ∧ tt < 512) (o : _) (_ : F_L_law_J964 ln scr v5 M S = some o), zAft (bd28) n28 ex28 o → zJ K g (200 + 100 * tt + 0) (400000 + 2000 * tt + 0) 964 9 [(0, .ref bb), (1, zr g 1), (2, zr g 48), (3, zr g 76), (4, zr g 77), (5, .int (zi v5))] [] M S := by
          intro v5 hv5 M S hF tt htt o h hT
          unfold F_L_law_J964 at h
          refine j_aload_n hC 1 dL_law_964 rfl rfl ?_
          obtain ⟨M208, hy, h⟩ := zb1_ex h
          refine j_callVv (ci := 7) hC hE lk_L_185 dL_law_965 (c_X10_clearWord l hlt g M S hF hy) [] [] (zFx_kd hF 1 rfl) ⟨_, rfl, by decide, rfl⟩ rfl rfl rfl (zcat (Nat.le_of_ble_eq_true rfl)) (Nat.le_of_ble_eq_true rfl) (Nat.le_of_ble_eq_true rfl) (by omega) (by omega) (fun hp209 => ?_)
          refine j_aload_n hC 2 dL_law_968 rfl rfl ?_
          obtain ⟨M210, hy, h⟩ := zb1_ex h
          refine j_callVv (ci := 8) hC hE lk_L_188 dL_law_969 (c_X11_clearWord l hlt g M208 S hF hy) [] [] (zFx_kd hF 48 rfl) ⟨_, rfl, by decide, rfl⟩ rfl rfl rfl (zcat (Nat.le_of_ble_eq_true rfl)) (Nat.le_of_ble_eq_true rfl) (Nat.le_of_ble_eq_true rfl) (by omega) (by omega) (fun hp211 => ?_)
          refine j_goto hC dL_law_972 rfl ?_
          refine j_widen (k := (200 + 100 * tt + 100)) (n := (400000 + 2000 * tt + 2000)) (by omega) (by omega) ?_
          exact J_1870 v5 hv5 M210 S hF tt htt _ h hT
        have J_975 : ∀ (v5 : Int) (hv5 : inR v5) (M : zM) (S : zS) (hF : zFx S) (tt : Nat) (htt : (v5 : Int) = 4 * (tt : Int) ∧ tt < 512) (o : _) (_ : F_L_law_J975 ln scr v5 M S = some o), zAft (bd28) n28 ex28 o → zJ K g (200 + 100 * tt + 0) (400000 + 2000 * tt + 0) 975 9 [(0, .ref bb), (1, zr g 1), (2, zr g 48), (3, zr g 76), (4, zr g 77), (5, .int (zi v5))] [] M S := by
          intro v5 hv5 M S hF tt htt o h hT
          unfold F_L_law_J975 at h
          refine j_aload_n hC 1 dL_law_975 rfl rfl ?_
          refine j_sload_n hC 0 dL_law_976 rfl rfl ?_
          refine j_iload hC 5 dL_law_977 rfl ?_
          refine j_iconst hC dL_law_979 ?_
          refine j_iadd hC dL_law_980 ?_
          obtain ⟨c212, h⟩ := zchk_ex h
          refine j_scld hC hXs hln dL_law_981 rfl c212.1 c212.2 ?_
          rw [← hscr]
          refine j_i2c hC dL_law_982 ?_
          obtain ⟨r213, M214, S215, hy, h⟩ := zb3_ex h
          refine j_callTi hC hE lk_L_189 dL_law_983 (c_L_addLetter l hlt g (zi2c (scr (w (v5 + 1)))) (cR_zi2c _) M S hF hy) [zr g 1, .int (zi (zi2c (scr (w (v5 + 1)))))] [] rfl rfl rfl (Nat.le_of_ble_eq_true rfl) (Nat.le_of_ble_eq_true rfl) (Nat.le_of_ble_eq_true rfl) (by omega) (by omega) (fun hp216 => ?_)
          obtain ⟨hr213, hFr213⟩ := hp216
          refine j_istore hC dL_law_986 (Nat.le_of_ble_eq_true rfl) rfl ?_
          refine j_aload_n hC 3 dL_law_988 rfl rfl ?_
          refine j_sload_n hC 1 dL_law_989 rfl rfl ?_
          refine j_iload hC 6 dL_law_990 rfl ?_
          refine j_iconst hC dL_law_992 ?_
          refine j_iadd hC dL_law_993 ?_
          obtain ⟨c217, h⟩ := zchk_ex h
          refine j_scld hC hXs hln dL_law_994 rfl c217.1 c217.2 ?_
          rw [← hscr]
          refine j_i2c hC dL_law_995 ?_
          obtain ⟨M218, hy, h⟩ := zb1_ex h
          refine j_callVv (ci := 8) hC hE lk_L_191 dL_law_996 (c_X11_addLetter l hlt g (zi2c (scr (w (v5 + 1)))) (cR_zi2c _) M214 S215 hFr213 hy) [.int (zi (zi2c (scr (w (v5 + 1)))))] [] (zFx_kd hFr213 48 rfl) ⟨_, rfl, by decide, rfl⟩ rfl rfl rfl (zcat (Nat.le_of_ble_eq_true rfl)) (Nat.le_of_ble_eq_true rfl) (Nat.le_of_ble_eq_true rfl) (by omega) (by omega) (fun hp219 => ?_)
          refine j_aload_n hC 3 dL_law_999 rfl rfl ?_
          obtain ⟨r220, hy, h⟩ := zb1_ex h
          refine j_callVi (ci := 8) hC hE lk_L_134 dL_law_1000 (c_X11_thrown l hlt g M218 S215 hFr213 hy) [] [] (zFx_kd hFr213 48 rfl) ⟨_, rfl, by decide, rfl⟩ rfl rfl rfl (zcat (Nat.le_of_ble_eq_true rfl)) (Nat.le_of_ble_eq_true rfl) (Nat.le_of_ble_eq_true rfl) (by omega) (by omega) (fun hp221 => ?_)
          have hr220 := hp221
          refine j_iload hC 0 dL_law_1003 rfl ?_
          refine j_icmp_eq hC dL_law_1005 rfl (w_id hr220) (w_id hr213) (fun c222 => ?_) (fun c222 => ?_)
          · have h := zt c222 h
            refine j_goto hC dL_law_1010 rfl ?_
            refine j_sub [1, 2, 3, 4, 5, 6] rfl ?_
            refine j_widen (k := (200 + 100 * tt + 100)) (n := (400000 + 2000 * tt + 2000)) (by omega) (by omega) ?_
            exact J_1870 v5 hv5 M218 S215 hFr213 tt htt _ h hT
          · have h := zf c222 h
            cases h
        have J_1013 : ∀ (v5 : Int) (hv5 : inR v5) (M : zM) (S : zS) (hF : zFx S) (tt : Nat) (htt : (v5 : Int) = 4 * (tt : Int) ∧ tt < 512) (o : _) (_ : F_L_law_J1013 ln scr v5 M S = some o), zAft (bd28) n28 ex28 o → zJ K g (200 + 100 * tt + 0) (400000 + 2000 * tt + 0) 1013 9 [(0, .ref bb), (1, zr g 1), (2, zr g 48), (3, zr g 76), (4, zr g 77), (5, .int (zi v5))] [] M S := by
          intro v5 hv5 M S hF tt htt o h hT
          unfold F_L_law_J1013 at h
          refine j_aload_n hC 1 dL_law_1013 rfl rfl ?_
          refine j_sload_n hC 0 dL_law_1014 rfl rfl ?_
          refine j_iload hC 5 dL_law_1015 rfl ?_
          refine j_iconst hC dL_law_1017 ?_
          refine j_iadd hC dL_law_1018 ?_
          obtain ⟨c223, h⟩ := zchk_ex h
          refine j_scld hC hXs hln dL_law_1019 rfl c223.1 c223.2 ?_
          rw [← hscr]
          obtain ⟨r224, M225, S226, hy, h⟩ := zb3_ex h
          refine j_callTi hC hE lk_L_192 dL_law_1020 (c_L_takeAxiom l hlt g (scr (w (v5 + 1))) (hscrR _) M S hF hy) [zr g 1, .int (zi (scr (w (v5 + 1))))] [] rfl rfl rfl (Nat.le_of_ble_eq_true rfl) (Nat.le_of_ble_eq_true rfl) (Nat.le_of_ble_eq_true rfl) (by omega) (by omega) (fun hp227 => ?_)
          obtain ⟨hr224, hFr224⟩ := hp227
          refine j_istore hC dL_law_1023 (Nat.le_of_ble_eq_true rfl) rfl ?_
          refine j_aload_n hC 3 dL_law_1025 rfl rfl ?_
          refine j_sload_n hC 1 dL_law_1026 rfl rfl ?_
          refine j_iload hC 6 dL_law_1027 rfl ?_
          refine j_iconst hC dL_law_1029 ?_
          refine j_iadd hC dL_law_1030 ?_
          obtain ⟨c228, h⟩ := zchk_ex h
          refine j_scld hC hXs hln dL_law_1031 rfl c228.1 c228.2 ?_
          rw [← hscr]
          obtain ⟨M229, hy, h⟩ := zb1_ex h
          refine j_callVv (ci := 8) hC hE lk_L_194 dL_law_1032 (c_X11_takeAxiom l hlt g (scr (w (v5 + 1))) (hscrR _) M225 S226 hFr224 hy) [.int (zi (scr (w (v5 + 1))))] [] (zFx_kd hFr224 48 rfl) ⟨_, rfl, by decide, rfl⟩ rfl rfl rfl (zcat (Nat.le_of_ble_eq_true rfl)) (Nat.le_of_ble_eq_true rfl) (Nat.le_of_ble_eq_true rfl) (by omega) (by omega) (fun hp230 => ?_)
          refine j_aload_n hC 3 dL_law_1035 rfl rfl ?_
          obtain ⟨r231, hy, h⟩ := zb1_ex h
          refine j_callVi (ci := 8) hC hE lk_L_134 dL_law_1036 (c_X11_thrown l hlt g M229 S226 hFr224 hy) [] [] (zFx_kd hFr224 48 rfl) ⟨_, rfl, by decide, rfl⟩ rfl rfl rfl (zcat (Nat.le_of_ble_eq_true rfl)) (Nat.le_of_ble_eq_true rfl) (Nat.le_of_ble_eq_true rfl) (by omega) (by omega) (fun hp232 => ?_)
          have hr231 := hp232
          refine j_iload hC 0 dL_law_1039 rfl ?_
          refine j_icmp_eq hC dL_law_1041 rfl (w_id hr231) (w_id hr224) (fun c233 => ?_) (fun c233 => ?_)
          · have h := zt c233 h
            refine j_goto hC dL_law_1046 rfl ?_
            refine j_sub [1, 2, 3, 4, 5, 6] rfl ?_
            refine j_widen (k := (200 + 100 * tt + 100)) (n := (400000 + 2000 * tt + 2000)) (by omega) (by omega) ?_
            exact J_1870 v5 hv5 M229 S226 hFr224 tt htt _ h hT
          · have h := zf c233 h
            cases h
        have J_1049 : ∀ (v5 : Int) (hv5 : inR v5) (M : zM) (S : zS) (hF : zFx S) (tt : Nat) (htt : (v5 : Int) = 4 * (tt : Int) ∧ tt < 512) (o : _) (_ : F_L_law_J1049 ln scr v5 M S = some o), zAft (bd28) n28 ex28 o → zJ K g (200 + 100 * tt + 0) (400000 + 2000 * tt + 0) 1049 9 [(0, .ref bb), (1, zr g 1), (2, zr g 48), (3, zr g 76), (4, zr g 77), (5, .int (zi v5))] [] M S := by
          intro v5 hv5 M S hF tt htt o h hT
          unfold F_L_law_J1049 at h
          refine j_aload_n hC 1 dL_law_1049 rfl rfl ?_
          refine j_sload_n hC 0 dL_law_1050 rfl rfl ?_
          refine j_iload hC 5 dL_law_1051 rfl ?_
          refine j_iconst hC dL_law_1053 ?_
          refine j_iadd hC dL_law_1054 ?_
          obtain ⟨c234, h⟩ := zchk_ex h
          refine j_scld hC hXs hln dL_law_1055 rfl c234.1 c234.2 ?_
          rw [← hscr]
          obtain ⟨r235, M236, S237, hy, h⟩ := zb3_ex h
          refine j_callTi hC hE lk_L_195 dL_law_1056 (c_L_takeWord l hlt g (scr (w (v5 + 1))) (hscrR _) M S hF hy) [zr g 1, .int (zi (scr (w (v5 + 1))))] [] rfl rfl rfl (Nat.le_of_ble_eq_true rfl) (Nat.le_of_ble_eq_true rfl) (Nat.le_of_ble_eq_true rfl) (by omega) (by omega) (fun hp238 => ?_)
          obtain ⟨hr235, hFr235⟩ := hp238
          refine j_istore hC dL_law_1059 (Nat.le_of_ble_eq_true rfl) rfl ?_
          refine j_aload_n hC 3 dL_law_1061 rfl rfl ?_
          refine j_sload_n hC 1 dL_law_1062 rfl rfl ?_
          refine j_iload hC 6 dL_law_1063 rfl ?_
          refine j_iconst hC dL_law_1065 ?_
          refine j_iadd hC dL_law_1066 ?_
          obtain ⟨c239, h⟩ := zchk_ex h
          refine j_scld hC hXs hln dL_law_1067 rfl c239.1 c239.2 ?_
          rw [← hscr]
          obtain ⟨M240, hy, h⟩ := zb1_ex h
          refine j_callVv (ci := 8) hC hE lk_L_197 dL_law_1068 (c_X11_takeWord l hlt g (scr (w (v5 + 1))) (hscrR _) M236 S237 hFr235 hy) [.int (zi (scr (w (v5 + 1))))] [] (zFx_kd hFr235 48 rfl) ⟨_, rfl, by decide, rfl⟩ rfl rfl rfl (zcat (Nat.le_of_ble_eq_true rfl)) (Nat.le_of_ble_eq_true rfl) (Nat.le_of_ble_eq_true rfl) (by omega) (by omega) (fun hp241 => ?_)
          refine j_aload_n hC 3 dL_law_1071 rfl rfl ?_
          obtain ⟨r242, hy, h⟩ := zb1_ex h
          refine j_callVi (ci := 8) hC hE lk_L_134 dL_law_1072 (c_X11_thrown l hlt g M240 S237 hFr235 hy) [] [] (zFx_kd hFr235 48 rfl) ⟨_, rfl, by decide, rfl⟩ rfl rfl rfl (zcat (Nat.le_of_ble_eq_true rfl)) (Nat.le_of_ble_eq_true rfl) (Nat.le_of_ble_eq_true rfl) (by omega) (by omega) (fun hp243 => ?_)
          have hr242 := hp243
          refine j_iload hC 0 dL_law_1075 rfl ?_
          refine j_icmp_eq hC dL_law_1077 rfl (w_id hr242) (w_id hr235) (fun c244 => ?_) (fun c244 => ?_)
          · have h := zt c244 h
            refine j_goto hC dL_law_1082 rfl ?_
            refine j_sub [1, 2, 3, 4, 5, 6] rfl ?_
            refine j_widen (k := (200 + 100 * tt + 100)) (n := (400000 + 2000 * tt + 2000)) (by omega) (by omega) ?_
            exact J_1870 v5 hv5 M240 S237 hFr235 tt htt _ h hT
          · have h := zf c244 h
            cases h
        have J_1085 : ∀ (v5 : Int) (hv5 : inR v5) (M : zM) (S : zS) (hF : zFx S) (tt : Nat) (htt : (v5 : Int) = 4 * (tt : Int) ∧ tt < 512) (o : _) (_ : F_L_law_J1085 ln scr v5 M S = some o), zAft (bd28) n28 ex28 o → zJ K g (200 + 100 * tt + 0) (400000 + 2000 * tt + 0) 1085 9 [(0, .ref bb), (1, zr g 1), (2, zr g 48), (3, zr g 76), (4, zr g 77), (5, .int (zi v5))] [] M S := by
          intro v5 hv5 M S hF tt htt o h hT
          unfold F_L_law_J1085 at h
          refine j_aload_n hC 1 dL_law_1085 rfl rfl ?_
          obtain ⟨r245, hy, h⟩ := zb1_ex h
          refine j_callVi (ci := 7) hC hE lk_L_198 dL_law_1086 (c_X10_wordLength l hlt g M S hF hy) [] [] (zFx_kd hF 1 rfl) ⟨_, rfl, by decide, rfl⟩ rfl rfl rfl (zcat (Nat.le_of_ble_eq_true rfl)) (Nat.le_of_ble_eq_true rfl) (Nat.le_of_ble_eq_true rfl) (by omega) (by omega) (fun hp246 => ?_)
          have hr245 := hp246
          refine j_aload_n hC 2 dL_law_1089 rfl rfl ?_
          obtain ⟨r247, M248, hy, h⟩ := zb2_ex h
          refine j_callVi (ci := 8) hC hE lk_L_201 dL_law_1090 (c_X11_wordLength l hlt g M S hF hy) [] [.int (zi r245)] (zFx_kd hF 48 rfl) ⟨_, rfl, by decide, rfl⟩ rfl rfl rfl (zcat (Nat.le_of_ble_eq_true rfl)) (Nat.le_of_ble_eq_true rfl) (Nat.le_of_ble_eq_true rfl) (by omega) (by omega) (fun hp249 => ?_)
          have hr247 := hp249
          refine j_icmp_eq hC dL_law_1093 rfl (w_id hr245) (w_id hr247) (fun c250 => ?_) (fun c250 => ?_)
          · have h := zt c250 h
            refine j_widen (k := (200 + 100 * tt + 100)) (n := (400000 + 2000 * tt + 2000)) (by omega) (by omega) ?_
            exact J_1870 v5 hv5 M248 S hF tt htt _ h hT
          · have h := zf c250 h
            cases h
        have J_1151 : ∀ (v5 : Int) (hv5 : inR v5) (M : zM) (S : zS) (hF : zFx S) (tt : Nat) (htt : (v5 : Int) = 4 * (tt : Int) ∧ tt < 512) (o : _) (_ : F_L_law_J1151 ln scr v5 M S = some o), zAft (bd28) n28 ex28 o → zJ K g (200 + 100 * tt + 90) (400000 + 2000 * tt + 1900) 1151 9 [(0, .ref bb), (1, zr g 1), (2, zr g 48), (3, zr g 76), (4, zr g 77), (5, .int (zi v5))] [] M S := by
          intro v5 hv5 M S hF tt htt o h hT
          unfold F_L_law_J1151 at h
          refine j_goto hC dL_law_1151 rfl ?_
          refine j_widen (k := (200 + 100 * tt + 100)) (n := (400000 + 2000 * tt + 2000)) (by omega) (by omega) ?_
          exact J_1870 v5 hv5 M S hF tt htt _ h hT
        have J_1098 : ∀ (v5 : Int) (hv5 : inR v5) (M : zM) (S : zS) (hF : zFx S) (tt : Nat) (htt : (v5 : Int) = 4 * (tt : Int) ∧ tt < 512) (o : _) (_ : F_L_law_J1098 ln scr v5 M S = some o), zAft (bd28) n28 ex28 o → zJ K g (200 + 100 * tt + 0) (400000 + 2000 * tt + 0) 1098 9 [(0, .ref bb), (1, zr g 1), (2, zr g 48), (3, zr g 76), (4, zr g 77), (5, .int (zi v5))] [] M S := by
          intro v5 hv5 M S hF tt htt o h hT
          unfold F_L_law_J1098 at h
          refine j_aload_n hC 1 dL_law_1098 rfl rfl ?_
          refine j_sload_n hC 0 dL_law_1099 rfl rfl ?_
          refine j_iload hC 5 dL_law_1100 rfl ?_
          refine j_iconst hC dL_law_1102 ?_
          refine j_iadd hC dL_law_1103 ?_
          obtain ⟨c251, h⟩ := zchk_ex h
          refine j_scld hC hXs hln dL_law_1104 rfl c251.1 c251.2 ?_
          rw [← hscr]
          refine j_aload_n hC 3 dL_law_1105 rfl rfl ?_
          obtain ⟨r252, M253, S254, hy, h⟩ := zb3_ex h
          refine j_callTi hC hE lk_L_202 dL_law_1106 (c_L_letterAt l hlt g (scr (w (v5 + 1))) (hscrR _) M S hF hy) [zr g 1, .int (zi (scr (w (v5 + 1)))), zr g 76] [] rfl rfl rfl (Nat.le_of_ble_eq_true rfl) (Nat.le_of_ble_eq_true rfl) (Nat.le_of_ble_eq_true rfl) (by omega) (by omega) (fun hp255 => ?_)
          obtain ⟨hr252, hFr252⟩ := hp255
          refine j_istore hC dL_law_1109 (Nat.le_of_ble_eq_true rfl) rfl ?_
          refine j_aload_n hC 3 dL_law_1111 rfl rfl ?_
          refine j_sload_n hC 1 dL_law_1112 rfl rfl ?_
          refine j_iload hC 6 dL_law_1113 rfl ?_
          refine j_iconst hC dL_law_1115 ?_
          refine j_iadd hC dL_law_1116 ?_
          obtain ⟨c256, h⟩ := zchk_ex h
          refine j_scld hC hXs hln dL_law_1117 rfl c256.1 c256.2 ?_
          rw [← hscr]
          obtain ⟨r257, M258, hy, h⟩ := zb2_ex h
          refine j_callVi (ci := 8) hC hE lk_L_204 dL_law_1118 (c_X11_letterAt l hlt g (scr (w (v5 + 1))) (hscrR _) M253 S254 hFr252 hy) [.int (zi (scr (w (v5 + 1))))] [] (zFx_kd hFr252 48 rfl) ⟨_, rfl, by decide, rfl⟩ rfl rfl rfl (zcat (Nat.le_of_ble_eq_true rfl)) (Nat.le_of_ble_eq_true rfl) (Nat.le_of_ble_eq_true rfl) (by omega) (by omega) (fun hp259 => ?_)
          have hr257 := hp259
          refine j_istore hC dL_law_1121 (Nat.le_of_ble_eq_true rfl) rfl ?_
          refine j_aload_n hC 4 dL_law_1123 rfl rfl ?_
          obtain ⟨r260, hy, h⟩ := zb1_ex h
          refine j_callVi (ci := 8) hC hE lk_L_134 dL_law_1124 (c_X11_thrown l hlt g M258 S254 hFr252 hy) [] [] (zFx_kd hFr252 48 rfl) ⟨_, rfl, by decide, rfl⟩ rfl rfl rfl (zcat (Nat.le_of_ble_eq_true rfl)) (Nat.le_of_ble_eq_true rfl) (Nat.le_of_ble_eq_true rfl) (by omega) (by omega) (fun hp261 => ?_)
          have hr260 := hp261
          refine j_iload hC 1 dL_law_1127 rfl ?_
          refine j_icmp_eq hC dL_law_1129 rfl (w_id hr260) (w_id hr252) (fun c262 => ?_) (fun c262 => ?_)
          · have h := zt c262 h
            refine j_iload hC 1 dL_law_1134 rfl ?_
            refine j_if_ne hC dL_law_1136 rfl (w_id hr252) (fun c263 => ?_) (fun c263 => ?_)
            · have h := zf c263 h
              refine j_sub [2, 3, 4, 5, 6, 7] rfl ?_
              refine j_widen (k := (200 + 100 * tt + 90)) (n := (400000 + 2000 * tt + 1900)) (by omega) (by omega) ?_
              exact J_1151 v5 hv5 M258 S254 hFr252 tt htt _ h hT
            · have h := zt c263 h
              refine j_aload_n hC 5 dL_law_1139 rfl rfl ?_
              refine j_iconst hC dL_law_1140 ?_
              refine j_lald (n := 1) hC dL_law_1141 (w_id kR_0) (zFx_kd hFr252 76 rfl) (zFx_ln hFr252 76 rfl) (by decide) (by decide) (fun hg264 => ?_)
              refine j_iload hC 0 dL_law_1142 rfl ?_
              refine j_i2l hC dL_law_1144 (w_id hr257) ?_
              refine j_lcmp hC dL_law_1145 hg264 (inL_R hr257) ?_
              refine j_if_eq hC dL_law_1146 rfl (w_id (inR_cmp _ _)) (fun c265 => ?_) (fun c265 => ?_)
              · have h := zt c265 h
                refine j_sub [2, 3, 4, 5, 6, 7] rfl ?_
                refine j_widen (k := (200 + 100 * tt + 90)) (n := (400000 + 2000 * tt + 1900)) (by omega) (by omega) ?_
                exact J_1151 v5 hv5 M258 S254 hFr252 tt htt _ h hT
              · have h := zf c265 h
                cases h
          · have h := zf c262 h
            cases h
        have J_1202 : ∀ (v5 : Int) (hv5 : inR v5) (M : zM) (S : zS) (hF : zFx S) (tt : Nat) (htt : (v5 : Int) = 4 * (tt : Int) ∧ tt < 512) (o : _) (_ : F_L_law_J1202 ln scr v5 M S = some o), zAft (bd28) n28 ex28 o → zJ K g (200 + 100 * tt + 90) (400000 + 2000 * tt + 1900) 1202 9 [(0, .ref bb), (1, zr g 1), (2, zr g 48), (3, zr g 76), (4, zr g 77), (5, .int (zi v5))] [] M S := by
          intro v5 hv5 M S hF tt htt o h hT
          unfold F_L_law_J1202 at h
          refine j_goto hC dL_law_1202 rfl ?_
          refine j_widen (k := (200 + 100 * tt + 100)) (n := (400000 + 2000 * tt + 2000)) (by omega) (by omega) ?_
          exact J_1870 v5 hv5 M S hF tt htt _ h hT
        have J_1196 : ∀ (v5 : Int) (t0 : Int) (t1 : Int) (hv5 : inR v5) (ht0 : inL t0) (ht1 : inL t1) (M : zM) (S : zS) (hF : zFx S) (tt : Nat) (htt : (v5 : Int) = 4 * (tt : Int) ∧ tt < 512) (o : _) (_ : F_L_law_J1196 ln scr v5 t0 t1 M S = some o), zAft (bd28) n28 ex28 o → zJ K g (200 + 100 * tt + 90) (400000 + 2000 * tt + 1900) 1196 9 [(0, .ref bb), (1, zr g 1), (2, zr g 48), (3, zr g 76), (4, zr g 77), (5, .int (zi v5))] [.long (zl t1), .long (zl t0)] M S := by
          intro v5 t0 t1 hv5 ht0 ht1 M S hF tt htt o h hT
          unfold F_L_law_J1196 at h
          refine j_lcmp hC dL_law_1196 ht0 ht1 ?_
          refine j_if_eq hC dL_law_1197 rfl (w_id (inR_cmp _ _)) (fun c266 => ?_) (fun c266 => ?_)
          · have h := zt c266 h
            refine j_widen (k := (200 + 100 * tt + 90)) (n := (400000 + 2000 * tt + 1900)) (by omega) (by omega) ?_
            exact J_1202 v5 hv5 M S hF tt htt _ h hT
          · have h := zf c266 h
            cases h
        have J_1154 : ∀ (v5 : Int) (hv5 : inR v5) (M : zM) (S : zS) (hF : zFx S) (tt : Nat) (htt : (v5 : Int) = 4 * (tt : Int) ∧ tt < 512) (o : _) (_ : F_L_law_J1154 ln scr v5 M S = some o), zAft (bd28) n28 ex28 o → zJ K g (200 + 100 * tt + 0) (400000 + 2000 * tt + 0) 1154 9 [(0, .ref bb), (1, zr g 1), (2, zr g 48), (3, zr g 76), (4, zr g 77), (5, .int (zi v5))] [] M S := by
          intro v5 hv5 M S hF tt htt o h hT
          unfold F_L_law_J1154 at h
          refine j_aload_n hC 1 dL_law_1154 rfl rfl ?_
          refine j_aload_n hC 3 dL_law_1155 rfl rfl ?_
          obtain ⟨r267, M268, S269, hy, h⟩ := zb3_ex h
          refine j_callTi hC hE lk_L_205 dL_law_1156 (c_L_isGenerated l hlt g M S hF hy) [zr g 1, zr g 76] [] rfl rfl rfl (Nat.le_of_ble_eq_true rfl) (Nat.le_of_ble_eq_true rfl) (Nat.le_of_ble_eq_true rfl) (by omega) (by omega) (fun hp270 => ?_)
          obtain ⟨hr267, hFr267⟩ := hp270
          refine j_istore hC dL_law_1159 (Nat.le_of_ble_eq_true rfl) rfl ?_
          refine j_aload_n hC 3 dL_law_1161 rfl rfl ?_
          obtain ⟨r271, M272, hy, h⟩ := zb2_ex h
          refine j_callVi (ci := 8) hC hE lk_L_207 dL_law_1162 (c_X11_isGenerated l hlt g M268 S269 hFr267 hy) [] [] (zFx_kd hFr267 48 rfl) ⟨_, rfl, by decide, rfl⟩ rfl rfl rfl (zcat (Nat.le_of_ble_eq_true rfl)) (Nat.le_of_ble_eq_true rfl) (Nat.le_of_ble_eq_true rfl) (by omega) (by omega) (fun hp273 => ?_)
          have hr271 := hp273
          refine j_istore hC dL_law_1165 (Nat.le_of_ble_eq_true rfl) rfl ?_
          refine j_aload_n hC 4 dL_law_1167 rfl rfl ?_
          obtain ⟨r274, hy, h⟩ := zb1_ex h
          refine j_callVi (ci := 8) hC hE lk_L_134 dL_law_1168 (c_X11_thrown l hlt g M272 S269 hFr267 hy) [] [] (zFx_kd hFr267 48 rfl) ⟨_, rfl, by decide, rfl⟩ rfl rfl rfl (zcat (Nat.le_of_ble_eq_true rfl)) (Nat.le_of_ble_eq_true rfl) (Nat.le_of_ble_eq_true rfl) (by omega) (by omega) (fun hp275 => ?_)
          have hr274 := hp275
          refine j_iload hC 1 dL_law_1171 rfl ?_
          refine j_icmp_eq hC dL_law_1173 rfl (w_id hr274) (w_id hr267) (fun c276 => ?_) (fun c276 => ?_)
          · have h := zt c276 h
            refine j_iload hC 1 dL_law_1178 rfl ?_
            refine j_if_ne hC dL_law_1180 rfl (w_id hr267) (fun c277 => ?_) (fun c277 => ?_)
            · have h := zf c277 h
              refine j_sub [2, 3, 4, 5, 6, 7] rfl ?_
              refine j_widen (k := (200 + 100 * tt + 90)) (n := (400000 + 2000 * tt + 1900)) (by omega) (by omega) ?_
              exact J_1202 v5 hv5 M272 S269 hFr267 tt htt _ h hT
            · have h := zt c277 h
              refine j_aload_n hC 5 dL_law_1183 rfl rfl ?_
              refine j_iconst hC dL_law_1184 ?_
              refine j_lald (n := 1) hC dL_law_1185 (w_id kR_0) (zFx_kd hFr267 76 rfl) (zFx_ln hFr267 76 rfl) (by decide) (by decide) (fun hg278 => ?_)
              refine j_iload hC 0 dL_law_1186 rfl ?_
              refine j_if_eq hC dL_law_1188 rfl (w_id hr271) (fun c279 => ?_) (fun c279 => ?_)
              · have h := zt c279 h
                refine j_lconst (z := 0) hC dL_law_1195 rfl ?_
                refine j_sub [2, 3, 4, 5, 6, 7] rfl ?_
                refine j_widen (k := (200 + 100 * tt + 90)) (n := (400000 + 2000 * tt + 1900)) (by omega) (by omega) ?_
                exact J_1196 v5 (M272 76 0) 0 hv5 hg278 (inLc rfl) M272 S269 hFr267 tt htt _ h hT
              · have h := zf c279 h
                refine j_lconst (z := 1) hC dL_law_1191 rfl ?_
                refine j_goto hC dL_law_1192 rfl ?_
                refine j_sub [2, 3, 4, 5, 6, 7] rfl ?_
                refine j_widen (k := (200 + 100 * tt + 90)) (n := (400000 + 2000 * tt + 1900)) (by omega) (by omega) ?_
                exact J_1196 v5 (M272 76 0) 1 hv5 hg278 (inLc rfl) M272 S269 hFr267 tt htt _ h hT
          · have h := zf c276 h
            cases h
        have J_1246 : ∀ (v5 : Int) (hv5 : inR v5) (M : zM) (S : zS) (hF : zFx S) (tt : Nat) (htt : (v5 : Int) = 4 * (tt : Int) ∧ tt < 512) (o : _) (_ : F_L_law_J1246 ln scr v5 M S = some o), zAft (bd28) n28 ex28 o → zJ K g (200 + 100 * tt + 90) (400000 + 2000 * tt + 1900) 1246 9 [(0, .ref bb), (1, zr g 1), (2, zr g 48), (3, zr g 76), (4, zr g 77), (5, .int (zi v5))] [] M S := by
          intro v5 hv5 M S hF tt htt o h hT
          unfold F_L_law_J1246 at h
          refine j_goto hC dL_law_1246 rfl ?_
          refine j_widen (k := (200 + 100 * tt + 100)) (n := (400000 + 2000 * tt + 2000)) (by omega) (by omega) ?_
          exact J_1870 v5 hv5 M S hF tt htt _ h hT
        have J_1205 : ∀ (v5 : Int) (hv5 : inR v5) (M : zM) (S : zS) (hF : zFx S) (tt : Nat) (htt : (v5 : Int) = 4 * (tt : Int) ∧ tt < 512) (o : _) (_ : F_L_law_J1205 ln scr v5 M S = some o), zAft (bd28) n28 ex28 o → zJ K g (200 + 100 * tt + 0) (400000 + 2000 * tt + 0) 1205 9 [(0, .ref bb), (1, zr g 1), (2, zr g 48), (3, zr g 76), (4, zr g 77), (5, .int (zi v5))] [] M S := by
          intro v5 hv5 M S hF tt htt o h hT
          unfold F_L_law_J1205 at h
          refine j_aload_n hC 1 dL_law_1205 rfl rfl ?_
          refine j_aload_n hC 3 dL_law_1206 rfl rfl ?_
          obtain ⟨r280, M281, S282, hy, h⟩ := zb3_ex h
          refine j_callTi hC hE lk_L_208 dL_law_1207 (c_L_rank l hlt g M S hF hy) [zr g 1, zr g 76] [] rfl rfl rfl (Nat.le_of_ble_eq_true rfl) (Nat.le_of_ble_eq_true rfl) (Nat.le_of_ble_eq_true rfl) (by omega) (by omega) (fun hp283 => ?_)
          obtain ⟨hr280, hFr280⟩ := hp283
          refine j_istore hC dL_law_1210 (Nat.le_of_ble_eq_true rfl) rfl ?_
          refine j_aload_n hC 3 dL_law_1212 rfl rfl ?_
          obtain ⟨r284, M285, hy, h⟩ := zb2_ex h
          refine j_callVi (ci := 8) hC hE lk_L_210 dL_law_1213 (c_X11_rank l hlt g M281 S282 hFr280 hy) [] [] (zFx_kd hFr280 48 rfl) ⟨_, rfl, by decide, rfl⟩ rfl rfl rfl (zcat (Nat.le_of_ble_eq_true rfl)) (Nat.le_of_ble_eq_true rfl) (Nat.le_of_ble_eq_true rfl) (by omega) (by omega) (fun hp286 => ?_)
          have hr284 := hp286
          refine j_istore hC dL_law_1216 (Nat.le_of_ble_eq_true rfl) rfl ?_
          refine j_aload_n hC 4 dL_law_1218 rfl rfl ?_
          obtain ⟨r287, hy, h⟩ := zb1_ex h
          refine j_callVi (ci := 8) hC hE lk_L_134 dL_law_1219 (c_X11_thrown l hlt g M285 S282 hFr280 hy) [] [] (zFx_kd hFr280 48 rfl) ⟨_, rfl, by decide, rfl⟩ rfl rfl rfl (zcat (Nat.le_of_ble_eq_true rfl)) (Nat.le_of_ble_eq_true rfl) (Nat.le_of_ble_eq_true rfl) (by omega) (by omega) (fun hp288 => ?_)
          have hr287 := hp288
          refine j_iload hC 1 dL_law_1222 rfl ?_
          refine j_icmp_eq hC dL_law_1224 rfl (w_id hr287) (w_id hr280) (fun c289 => ?_) (fun c289 => ?_)
          · have h := zt c289 h
            refine j_iload hC 1 dL_law_1229 rfl ?_
            refine j_if_ne hC dL_law_1231 rfl (w_id hr280) (fun c290 => ?_) (fun c290 => ?_)
            · have h := zf c290 h
              refine j_sub [2, 3, 4, 5, 6, 7] rfl ?_
              refine j_widen (k := (200 + 100 * tt + 90)) (n := (400000 + 2000 * tt + 1900)) (by omega) (by omega) ?_
              exact J_1246 v5 hv5 M285 S282 hFr280 tt htt _ h hT
            · have h := zt c290 h
              refine j_aload_n hC 5 dL_law_1234 rfl rfl ?_
              refine j_iconst hC dL_law_1235 ?_
              refine j_lald (n := 1) hC dL_law_1236 (w_id kR_0) (zFx_kd hFr280 76 rfl) (zFx_ln hFr280 76 rfl) (by decide) (by decide) (fun hg291 => ?_)
              refine j_iload hC 0 dL_law_1237 rfl ?_
              refine j_i2l hC dL_law_1239 (w_id hr284) ?_
              refine j_lcmp hC dL_law_1240 hg291 (inL_R hr284) ?_
              refine j_if_eq hC dL_law_1241 rfl (w_id (inR_cmp _ _)) (fun c292 => ?_) (fun c292 => ?_)
              · have h := zt c292 h
                refine j_sub [2, 3, 4, 5, 6, 7] rfl ?_
                refine j_widen (k := (200 + 100 * tt + 90)) (n := (400000 + 2000 * tt + 1900)) (by omega) (by omega) ?_
                exact J_1246 v5 hv5 M285 S282 hFr280 tt htt _ h hT
              · have h := zf c292 h
                cases h
          · have h := zf c289 h
            cases h
        have J_1290 : ∀ (v5 : Int) (hv5 : inR v5) (M : zM) (S : zS) (hF : zFx S) (tt : Nat) (htt : (v5 : Int) = 4 * (tt : Int) ∧ tt < 512) (o : _) (_ : F_L_law_J1290 ln scr v5 M S = some o), zAft (bd28) n28 ex28 o → zJ K g (200 + 100 * tt + 90) (400000 + 2000 * tt + 1900) 1290 9 [(0, .ref bb), (1, zr g 1), (2, zr g 48), (3, zr g 76), (4, zr g 77), (5, .int (zi v5))] [] M S := by
          intro v5 hv5 M S hF tt htt o h hT
          unfold F_L_law_J1290 at h
          refine j_goto hC dL_law_1290 rfl ?_
          refine j_widen (k := (200 + 100 * tt + 100)) (n := (400000 + 2000 * tt + 2000)) (by omega) (by omega) ?_
          exact J_1870 v5 hv5 M S hF tt htt _ h hT
        have J_1249 : ∀ (v5 : Int) (hv5 : inR v5) (M : zM) (S : zS) (hF : zFx S) (tt : Nat) (htt : (v5 : Int) = 4 * (tt : Int) ∧ tt < 512) (o : _) (_ : F_L_law_J1249 ln scr v5 M S = some o), zAft (bd28) n28 ex28 o → zJ K g (200 + 100 * tt + 0) (400000 + 2000 * tt + 0) 1249 9 [(0, .ref bb), (1, zr g 1), (2, zr g 48), (3, zr g 76), (4, zr g 77), (5, .int (zi v5))] [] M S := by
          intro v5 hv5 M S hF tt htt o h hT
          unfold F_L_law_J1249 at h
          refine j_aload_n hC 1 dL_law_1249 rfl rfl ?_
          refine j_aload_n hC 3 dL_law_1250 rfl rfl ?_
          obtain ⟨r293, M294, S295, hy, h⟩ := zb3_ex h
          refine j_callTi hC hE lk_L_211 dL_law_1251 (c_L_derivationLength l hlt g M S hF hy) [zr g 1, zr g 76] [] rfl rfl rfl (Nat.le_of_ble_eq_true rfl) (Nat.le_of_ble_eq_true rfl) (Nat.le_of_ble_eq_true rfl) (by omega) (by omega) (fun hp296 => ?_)
          obtain ⟨hr293, hFr293⟩ := hp296
          refine j_istore hC dL_law_1254 (Nat.le_of_ble_eq_true rfl) rfl ?_
          refine j_aload_n hC 3 dL_law_1256 rfl rfl ?_
          obtain ⟨r297, M298, hy, h⟩ := zb2_ex h
          refine j_callVi (ci := 8) hC hE lk_L_213 dL_law_1257 (c_X11_derivationLength l hlt g M294 S295 hFr293 hy) [] [] (zFx_kd hFr293 48 rfl) ⟨_, rfl, by decide, rfl⟩ rfl rfl rfl (zcat (Nat.le_of_ble_eq_true rfl)) (Nat.le_of_ble_eq_true rfl) (Nat.le_of_ble_eq_true rfl) (by omega) (by omega) (fun hp299 => ?_)
          have hr297 := hp299
          refine j_istore hC dL_law_1260 (Nat.le_of_ble_eq_true rfl) rfl ?_
          refine j_aload_n hC 4 dL_law_1262 rfl rfl ?_
          obtain ⟨r300, hy, h⟩ := zb1_ex h
          refine j_callVi (ci := 8) hC hE lk_L_134 dL_law_1263 (c_X11_thrown l hlt g M298 S295 hFr293 hy) [] [] (zFx_kd hFr293 48 rfl) ⟨_, rfl, by decide, rfl⟩ rfl rfl rfl (zcat (Nat.le_of_ble_eq_true rfl)) (Nat.le_of_ble_eq_true rfl) (Nat.le_of_ble_eq_true rfl) (by omega) (by omega) (fun hp301 => ?_)
          have hr300 := hp301
          refine j_iload hC 1 dL_law_1266 rfl ?_
          refine j_icmp_eq hC dL_law_1268 rfl (w_id hr300) (w_id hr293) (fun c302 => ?_) (fun c302 => ?_)
          · have h := zt c302 h
            refine j_iload hC 1 dL_law_1273 rfl ?_
            refine j_if_ne hC dL_law_1275 rfl (w_id hr293) (fun c303 => ?_) (fun c303 => ?_)
            · have h := zf c303 h
              refine j_sub [2, 3, 4, 5, 6, 7] rfl ?_
              refine j_widen (k := (200 + 100 * tt + 90)) (n := (400000 + 2000 * tt + 1900)) (by omega) (by omega) ?_
              exact J_1290 v5 hv5 M298 S295 hFr293 tt htt _ h hT
            · have h := zt c303 h
              refine j_aload_n hC 5 dL_law_1278 rfl rfl ?_
              refine j_iconst hC dL_law_1279 ?_
              refine j_lald (n := 1) hC dL_law_1280 (w_id kR_0) (zFx_kd hFr293 76 rfl) (zFx_ln hFr293 76 rfl) (by decide) (by decide) (fun hg304 => ?_)
              refine j_iload hC 0 dL_law_1281 rfl ?_
              refine j_i2l hC dL_law_1283 (w_id hr297) ?_
              refine j_lcmp hC dL_law_1284 hg304 (inL_R hr297) ?_
              refine j_if_eq hC dL_law_1285 rfl (w_id (inR_cmp _ _)) (fun c305 => ?_) (fun c305 => ?_)
              · have h := zt c305 h
                refine j_sub [2, 3, 4, 5, 6, 7] rfl ?_
                refine j_widen (k := (200 + 100 * tt + 90)) (n := (400000 + 2000 * tt + 1900)) (by omega) (by omega) ?_
                exact J_1290 v5 hv5 M298 S295 hFr293 tt htt _ h hT
              · have h := zf c305 h
                cases h
          · have h := zf c302 h
            cases h
        have J_1358 : ∀ (v5 : Int) (hv5 : inR v5) (M : zM) (S : zS) (hF : zFx S) (tt : Nat) (htt : (v5 : Int) = 4 * (tt : Int) ∧ tt < 512) (o : _) (_ : F_L_law_J1358 ln scr v5 M S = some o), zAft (bd28) n28 ex28 o → zJ K g (200 + 100 * tt + 90) (400000 + 2000 * tt + 1900) 1358 9 [(0, .ref bb), (1, zr g 1), (2, zr g 48), (3, zr g 76), (4, zr g 77), (5, .int (zi v5))] [] M S := by
          intro v5 hv5 M S hF tt htt o h hT
          unfold F_L_law_J1358 at h
          refine j_goto hC dL_law_1358 rfl ?_
          refine j_widen (k := (200 + 100 * tt + 100)) (n := (400000 + 2000 * tt + 2000)) (by omega) (by omega) ?_
          exact J_1870 v5 hv5 M S hF tt htt _ h hT
        have J_1293 : ∀ (v5 : Int) (hv5 : inR v5) (M : zM) (S : zS) (hF : zFx S) (tt : Nat) (htt : (v5 : Int) = 4 * (tt : Int) ∧ tt < 512) (o : _) (_ : F_L_law_J1293 ln scr v5 M S = some o), zAft (bd28) n28 ex28 o → zJ K g (200 + 100 * tt + 0) (400000 + 2000 * tt + 0) 1293 9 [(0, .ref bb), (1, zr g 1), (2, zr g 48), (3, zr g 76), (4, zr g 77), (5, .int (zi v5))] [] M S := by
          intro v5 hv5 M S hF tt htt o h hT
          unfold F_L_law_J1293 at h
          refine j_aload_n hC 1 dL_law_1293 rfl rfl ?_
          refine j_sload_n hC 0 dL_law_1294 rfl rfl ?_
          refine j_iload hC 5 dL_law_1295 rfl ?_
          refine j_iconst hC dL_law_1297 ?_
          refine j_iadd hC dL_law_1298 ?_
          obtain ⟨c306, h⟩ := zchk_ex h
          refine j_scld hC hXs hln dL_law_1299 rfl c306.1 c306.2 ?_
          rw [← hscr]
          refine j_sload_n hC 0 dL_law_1300 rfl rfl ?_
          refine j_iload hC 5 dL_law_1301 rfl ?_
          refine j_iconst hC dL_law_1303 ?_
          refine j_iadd hC dL_law_1304 ?_
          obtain ⟨c307, h⟩ := zchk_ex h
          refine j_scld hC hXs hln dL_law_1305 rfl c307.1 c307.2 ?_
          rw [← hscr]
          refine j_aload_n hC 3 dL_law_1306 rfl rfl ?_
          obtain ⟨r308, M309, S310, hy, h⟩ := zb3_ex h
          refine j_callTi hC hE lk_L_214 dL_law_1307 (c_L_derivationStep l hlt g (scr (w (v5 + 1))) (scr (w (v5 + 2))) (hscrR _) (hscrR _) M S hF hy) [zr g 1, .int (zi (scr (w (v5 + 1)))), .int (zi (scr (w (v5 + 2)))), zr g 76] [] rfl rfl rfl (Nat.le_of_ble_eq_true rfl) (Nat.le_of_ble_eq_true rfl) (Nat.le_of_ble_eq_true rfl) (by omega) (by omega) (fun hp311 => ?_)
          obtain ⟨hr308, hFr308⟩ := hp311
          refine j_istore hC dL_law_1310 (Nat.le_of_ble_eq_true rfl) rfl ?_
          refine j_aload_n hC 3 dL_law_1312 rfl rfl ?_
          refine j_sload_n hC 1 dL_law_1313 rfl rfl ?_
          refine j_iload hC 6 dL_law_1314 rfl ?_
          refine j_iconst hC dL_law_1316 ?_
          refine j_iadd hC dL_law_1317 ?_
          obtain ⟨c312, h⟩ := zchk_ex h
          refine j_scld hC hXs hln dL_law_1318 rfl c312.1 c312.2 ?_
          rw [← hscr]
          refine j_sload_n hC 1 dL_law_1319 rfl rfl ?_
          refine j_iload hC 6 dL_law_1320 rfl ?_
          refine j_iconst hC dL_law_1322 ?_
          refine j_iadd hC dL_law_1323 ?_
          obtain ⟨c313, h⟩ := zchk_ex h
          refine j_scld hC hXs hln dL_law_1324 rfl c313.1 c313.2 ?_
          rw [← hscr]
          obtain ⟨r314, M315, hy, h⟩ := zb2_ex h
          refine j_callVi (ci := 8) hC hE lk_L_216 dL_law_1325 (c_X11_derivationStep l hlt g (scr (w (v5 + 1))) (scr (w (v5 + 2))) (hscrR _) (hscrR _) M309 S310 hFr308 hy) [.int (zi (scr (w (v5 + 1)))), .int (zi (scr (w (v5 + 2))))] [] (zFx_kd hFr308 48 rfl) ⟨_, rfl, by decide, rfl⟩ rfl rfl rfl (zcat (Nat.le_of_ble_eq_true rfl)) (Nat.le_of_ble_eq_true rfl) (Nat.le_of_ble_eq_true rfl) (by omega) (by omega) (fun hp316 => ?_)
          have hr314 := hp316
          refine j_istore hC dL_law_1328 (Nat.le_of_ble_eq_true rfl) rfl ?_
          refine j_aload_n hC 4 dL_law_1330 rfl rfl ?_
          obtain ⟨r317, hy, h⟩ := zb1_ex h
          refine j_callVi (ci := 8) hC hE lk_L_134 dL_law_1331 (c_X11_thrown l hlt g M315 S310 hFr308 hy) [] [] (zFx_kd hFr308 48 rfl) ⟨_, rfl, by decide, rfl⟩ rfl rfl rfl (zcat (Nat.le_of_ble_eq_true rfl)) (Nat.le_of_ble_eq_true rfl) (Nat.le_of_ble_eq_true rfl) (by omega) (by omega) (fun hp318 => ?_)
          have hr317 := hp318
          refine j_iload hC 1 dL_law_1334 rfl ?_
          refine j_icmp_eq hC dL_law_1336 rfl (w_id hr317) (w_id hr308) (fun c319 => ?_) (fun c319 => ?_)
          · have h := zt c319 h
            refine j_iload hC 1 dL_law_1341 rfl ?_
            refine j_if_ne hC dL_law_1343 rfl (w_id hr308) (fun c320 => ?_) (fun c320 => ?_)
            · have h := zf c320 h
              refine j_sub [2, 3, 4, 5, 6, 7] rfl ?_
              refine j_widen (k := (200 + 100 * tt + 90)) (n := (400000 + 2000 * tt + 1900)) (by omega) (by omega) ?_
              exact J_1358 v5 hv5 M315 S310 hFr308 tt htt _ h hT
            · have h := zt c320 h
              refine j_aload_n hC 5 dL_law_1346 rfl rfl ?_
              refine j_iconst hC dL_law_1347 ?_
              refine j_lald (n := 1) hC dL_law_1348 (w_id kR_0) (zFx_kd hFr308 76 rfl) (zFx_ln hFr308 76 rfl) (by decide) (by decide) (fun hg321 => ?_)
              refine j_iload hC 0 dL_law_1349 rfl ?_
              refine j_i2l hC dL_law_1351 (w_id hr314) ?_
              refine j_lcmp hC dL_law_1352 hg321 (inL_R hr314) ?_
              refine j_if_eq hC dL_law_1353 rfl (w_id (inR_cmp _ _)) (fun c322 => ?_) (fun c322 => ?_)
              · have h := zt c322 h
                refine j_sub [2, 3, 4, 5, 6, 7] rfl ?_
                refine j_widen (k := (200 + 100 * tt + 90)) (n := (400000 + 2000 * tt + 1900)) (by omega) (by omega) ?_
                exact J_1358 v5 hv5 M315 S310 hFr308 tt htt _ h hT
              · have h := zf c322 h
                cases h
          · have h := zf c319 h
            cases h
        have J_1401 : ∀ (v5 : Int) (hv5 : inR v5) (M : zM) (S : zS) (hF : zFx S) (tt : Nat) (htt : (v5 : Int) = 4 * (tt : Int) ∧ tt < 512) (o : _) (_ : F_L_law_J1401 ln scr v5 M S = some o), zAft (bd28) n28 ex28 o → zJ K g (200 + 100 * tt + 90) (400000 + 2000 * tt + 1900) 1401 9 [(0, .ref bb), (1, zr g 1), (2, zr g 48), (3, zr g 76), (4, zr g 77), (5, .int (zi v5))] [] M S := by
          intro v5 hv5 M S hF tt htt o h hT
          unfold F_L_law_J1401 at h
          refine j_goto hC dL_law_1401 rfl ?_
          refine j_widen (k := (200 + 100 * tt + 100)) (n := (400000 + 2000 * tt + 2000)) (by omega) (by omega) ?_
          exact J_1870 v5 hv5 M S hF tt htt _ h hT
        have J_1361 : ∀ (v5 : Int) (hv5 : inR v5) (M : zM) (S : zS) (hF : zFx S) (tt : Nat) (htt : (v5 : Int) = 4 * (tt : Int) ∧ tt < 512) (o : _) (_ : F_L_law_J1361 ln scr v5 M S = some o), zAft (bd28) n28 ex28 o → zJ K g (200 + 100 * tt + 0) (400000 + 2000 * tt + 0) 1361 9 [(0, .ref bb), (1, zr g 1), (2, zr g 48), (3, zr g 76), (4, zr g 77), (5, .int (zi v5))] [] M S := by
          intro v5 hv5 M S hF tt htt o h hT
          unfold F_L_law_J1361 at h
          refine j_aload_n hC 1 dL_law_1361 rfl rfl ?_
          refine j_aload_n hC 3 dL_law_1362 rfl rfl ?_
          obtain ⟨r323, M324, S325, hy, h⟩ := zb3_ex h
          refine j_callTi hC hE lk_L_217 dL_law_1363 (c_L_derivations l hlt g M S hF hy) [zr g 1, zr g 76] [] rfl rfl rfl (Nat.le_of_ble_eq_true rfl) (Nat.le_of_ble_eq_true rfl) (Nat.le_of_ble_eq_true rfl) (by omega) (by omega) (fun hp326 => ?_)
          obtain ⟨hr323, hFr323⟩ := hp326
          refine j_istore hC dL_law_1366 (Nat.le_of_ble_eq_true rfl) rfl ?_
          refine j_aload_n hC 3 dL_law_1368 rfl rfl ?_
          obtain ⟨r327, M328, hy, h⟩ := zb2_ex h
          refine j_callVl (ci := 8) hC hE lk_L_219 dL_law_1369 (c_X11_derivations l hlt g M324 S325 hFr323 hy) [] [] (zFx_kd hFr323 48 rfl) ⟨_, rfl, by decide, rfl⟩ rfl rfl rfl (zcat (Nat.le_of_ble_eq_true rfl)) (Nat.le_of_ble_eq_true rfl) (Nat.le_of_ble_eq_true rfl) (by omega) (by omega) (fun hp329 => ?_)
          have hr327 := hp329
          refine j_lstore hC dL_law_1372 (Nat.le_of_ble_eq_true rfl) rfl ?_
          refine j_aload_n hC 4 dL_law_1374 rfl rfl ?_
          obtain ⟨r330, hy, h⟩ := zb1_ex h
          refine j_callVi (ci := 8) hC hE lk_L_134 dL_law_1375 (c_X11_thrown l hlt g M328 S325 hFr323 hy) [] [] (zFx_kd hFr323 48 rfl) ⟨_, rfl, by decide, rfl⟩ rfl rfl rfl (zcat (Nat.le_of_ble_eq_true rfl)) (Nat.le_of_ble_eq_true rfl) (Nat.le_of_ble_eq_true rfl) (by omega) (by omega) (fun hp331 => ?_)
          have hr330 := hp331
          refine j_iload hC 1 dL_law_1378 rfl ?_
          refine j_icmp_eq hC dL_law_1380 rfl (w_id hr330) (w_id hr323) (fun c332 => ?_) (fun c332 => ?_)
          · have h := zt c332 h
            refine j_iload hC 1 dL_law_1385 rfl ?_
            refine j_if_ne hC dL_law_1387 rfl (w_id hr323) (fun c333 => ?_) (fun c333 => ?_)
            · have h := zf c333 h
              refine j_sub [2, 3, 4, 5, 6, 7] rfl ?_
              refine j_widen (k := (200 + 100 * tt + 90)) (n := (400000 + 2000 * tt + 1900)) (by omega) (by omega) ?_
              exact J_1401 v5 hv5 M328 S325 hFr323 tt htt _ h hT
            · have h := zt c333 h
              refine j_aload_n hC 5 dL_law_1390 rfl rfl ?_
              refine j_iconst hC dL_law_1391 ?_
              refine j_lald (n := 1) hC dL_law_1392 (w_id kR_0) (zFx_kd hFr323 76 rfl) (zFx_ln hFr323 76 rfl) (by decide) (by decide) (fun hg334 => ?_)
              refine j_lload hC 0 dL_law_1393 rfl ?_
              refine j_lcmp hC dL_law_1395 hg334 hr327 ?_
              refine j_if_eq hC dL_law_1396 rfl (w_id (inR_cmp _ _)) (fun c335 => ?_) (fun c335 => ?_)
              · have h := zt c335 h
                refine j_sub [2, 3, 4, 5, 6, 7] rfl ?_
                refine j_widen (k := (200 + 100 * tt + 90)) (n := (400000 + 2000 * tt + 1900)) (by omega) (by omega) ?_
                exact J_1401 v5 hv5 M328 S325 hFr323 tt htt _ h hT
              · have h := zf c335 h
                cases h
          · have h := zf c332 h
            cases h
        have J_1404 : ∀ (v5 : Int) (hv5 : inR v5) (M : zM) (S : zS) (hF : zFx S) (tt : Nat) (htt : (v5 : Int) = 4 * (tt : Int) ∧ tt < 512) (o : _) (_ : F_L_law_J1404 ln scr v5 M S = some o), zAft (bd28) n28 ex28 o → zJ K g (200 + 100 * tt + 0) (400000 + 2000 * tt + 0) 1404 9 [(0, .ref bb), (1, zr g 1), (2, zr g 48), (3, zr g 76), (4, zr g 77), (5, .int (zi v5))] [] M S := by
          intro v5 hv5 M S hF tt htt o h hT
          unfold F_L_law_J1404 at h
          refine j_aload_n hC 1 dL_law_1404 rfl rfl ?_
          obtain ⟨r336, M337, hy, h⟩ := zb2_ex h
          refine j_callVi (ci := 7) hC hE lk_L_220 dL_law_1405 (c_X10_insertions l hlt g M S hF hy) [] [] (zFx_kd hF 1 rfl) ⟨_, rfl, by decide, rfl⟩ rfl rfl rfl (zcat (Nat.le_of_ble_eq_true rfl)) (Nat.le_of_ble_eq_true rfl) (Nat.le_of_ble_eq_true rfl) (by omega) (by omega) (fun hp338 => ?_)
          have hr336 := hp338
          refine j_aload_n hC 2 dL_law_1408 rfl rfl ?_
          obtain ⟨r339, M340, hy, h⟩ := zb2_ex h
          refine j_callVi (ci := 8) hC hE lk_L_223 dL_law_1409 (c_X11_insertions l hlt g M337 S hF hy) [] [.int (zi r336)] (zFx_kd hF 48 rfl) ⟨_, rfl, by decide, rfl⟩ rfl rfl rfl (zcat (Nat.le_of_ble_eq_true rfl)) (Nat.le_of_ble_eq_true rfl) (Nat.le_of_ble_eq_true rfl) (by omega) (by omega) (fun hp341 => ?_)
          have hr339 := hp341
          refine j_icmp_eq hC dL_law_1412 rfl (w_id hr336) (w_id hr339) (fun c342 => ?_) (fun c342 => ?_)
          · have h := zt c342 h
            refine j_widen (k := (200 + 100 * tt + 100)) (n := (400000 + 2000 * tt + 2000)) (by omega) (by omega) ?_
            exact J_1870 v5 hv5 M340 S hF tt htt _ h hT
          · have h := zf c342 h
            cases h
        have J_1470 : ∀ (v5 : Int) (hv5 : inR v5) (M : zM) (S : zS) (hF : zFx S) (tt : Nat) (htt : (v5 : Int) = 4 * (tt : Int) ∧ tt < 512) (o : _) (_ : F_L_law_J1470 ln scr v5 M S = some o), zAft (bd28) n28 ex28 o → zJ K g (200 + 100 * tt + 90) (400000 + 2000 * tt + 1900) 1470 9 [(0, .ref bb), (1, zr g 1), (2, zr g 48), (3, zr g 76), (4, zr g 77), (5, .int (zi v5))] [] M S := by
          intro v5 hv5 M S hF tt htt o h hT
          unfold F_L_law_J1470 at h
          refine j_goto hC dL_law_1470 rfl ?_
          refine j_widen (k := (200 + 100 * tt + 100)) (n := (400000 + 2000 * tt + 2000)) (by omega) (by omega) ?_
          exact J_1870 v5 hv5 M S hF tt htt _ h hT
        have J_1417 : ∀ (v5 : Int) (hv5 : inR v5) (M : zM) (S : zS) (hF : zFx S) (tt : Nat) (htt : (v5 : Int) = 4 * (tt : Int) ∧ tt < 512) (o : _) (_ : F_L_law_J1417 ln scr v5 M S = some o), zAft (bd28) n28 ex28 o → zJ K g (200 + 100 * tt + 0) (400000 + 2000 * tt + 0) 1417 9 [(0, .ref bb), (1, zr g 1), (2, zr g 48), (3, zr g 76), (4, zr g 77), (5, .int (zi v5))] [] M S := by
          intro v5 hv5 M S hF tt htt o h hT
          unfold F_L_law_J1417 at h
          refine j_aload_n hC 1 dL_law_1417 rfl rfl ?_
          refine j_sload_n hC 0 dL_law_1418 rfl rfl ?_
          refine j_iload hC 5 dL_law_1419 rfl ?_
          refine j_iconst hC dL_law_1421 ?_
          refine j_iadd hC dL_law_1422 ?_
          obtain ⟨c343, h⟩ := zchk_ex h
          refine j_scld hC hXs hln dL_law_1423 rfl c343.1 c343.2 ?_
          rw [← hscr]
          refine j_aload_n hC 3 dL_law_1424 rfl rfl ?_
          obtain ⟨r344, M345, S346, hy, h⟩ := zb3_ex h
          refine j_callTi hC hE lk_L_224 dL_law_1425 (c_L_insert l hlt g (scr (w (v5 + 1))) (hscrR _) M S hF hy) [zr g 1, .int (zi (scr (w (v5 + 1)))), zr g 76] [] rfl rfl rfl (Nat.le_of_ble_eq_true rfl) (Nat.le_of_ble_eq_true rfl) (Nat.le_of_ble_eq_true rfl) (by omega) (by omega) (fun hp347 => ?_)
          obtain ⟨hr344, hFr344⟩ := hp347
          refine j_istore hC dL_law_1428 (Nat.le_of_ble_eq_true rfl) rfl ?_
          refine j_aload_n hC 3 dL_law_1430 rfl rfl ?_
          refine j_sload_n hC 1 dL_law_1431 rfl rfl ?_
          refine j_iload hC 6 dL_law_1432 rfl ?_
          refine j_iconst hC dL_law_1434 ?_
          refine j_iadd hC dL_law_1435 ?_
          obtain ⟨c348, h⟩ := zchk_ex h
          refine j_scld hC hXs hln dL_law_1436 rfl c348.1 c348.2 ?_
          rw [← hscr]
          obtain ⟨r349, M350, hy, h⟩ := zb2_ex h
          refine j_callVi (ci := 8) hC hE lk_L_226 dL_law_1437 (c_X11_insert l hlt g (scr (w (v5 + 1))) (hscrR _) M345 S346 hFr344 hy) [.int (zi (scr (w (v5 + 1))))] [] (zFx_kd hFr344 48 rfl) ⟨_, rfl, by decide, rfl⟩ rfl rfl rfl (zcat (Nat.le_of_ble_eq_true rfl)) (Nat.le_of_ble_eq_true rfl) (Nat.le_of_ble_eq_true rfl) (by omega) (by omega) (fun hp351 => ?_)
          have hr349 := hp351
          refine j_istore hC dL_law_1440 (Nat.le_of_ble_eq_true rfl) rfl ?_
          refine j_aload_n hC 4 dL_law_1442 rfl rfl ?_
          obtain ⟨r352, hy, h⟩ := zb1_ex h
          refine j_callVi (ci := 8) hC hE lk_L_134 dL_law_1443 (c_X11_thrown l hlt g M350 S346 hFr344 hy) [] [] (zFx_kd hFr344 48 rfl) ⟨_, rfl, by decide, rfl⟩ rfl rfl rfl (zcat (Nat.le_of_ble_eq_true rfl)) (Nat.le_of_ble_eq_true rfl) (Nat.le_of_ble_eq_true rfl) (by omega) (by omega) (fun hp353 => ?_)
          have hr352 := hp353
          refine j_iload hC 1 dL_law_1446 rfl ?_
          refine j_icmp_eq hC dL_law_1448 rfl (w_id hr352) (w_id hr344) (fun c354 => ?_) (fun c354 => ?_)
          · have h := zt c354 h
            refine j_iload hC 1 dL_law_1453 rfl ?_
            refine j_if_ne hC dL_law_1455 rfl (w_id hr344) (fun c355 => ?_) (fun c355 => ?_)
            · have h := zf c355 h
              refine j_sub [2, 3, 4, 5, 6, 7] rfl ?_
              refine j_widen (k := (200 + 100 * tt + 90)) (n := (400000 + 2000 * tt + 1900)) (by omega) (by omega) ?_
              exact J_1470 v5 hv5 M350 S346 hFr344 tt htt _ h hT
            · have h := zt c355 h
              refine j_aload_n hC 5 dL_law_1458 rfl rfl ?_
              refine j_iconst hC dL_law_1459 ?_
              refine j_lald (n := 1) hC dL_law_1460 (w_id kR_0) (zFx_kd hFr344 76 rfl) (zFx_ln hFr344 76 rfl) (by decide) (by decide) (fun hg356 => ?_)
              refine j_iload hC 0 dL_law_1461 rfl ?_
              refine j_i2l hC dL_law_1463 (w_id hr349) ?_
              refine j_lcmp hC dL_law_1464 hg356 (inL_R hr349) ?_
              refine j_if_eq hC dL_law_1465 rfl (w_id (inR_cmp _ _)) (fun c357 => ?_) (fun c357 => ?_)
              · have h := zt c357 h
                refine j_sub [2, 3, 4, 5, 6, 7] rfl ?_
                refine j_widen (k := (200 + 100 * tt + 90)) (n := (400000 + 2000 * tt + 1900)) (by omega) (by omega) ?_
                exact J_1470 v5 hv5 M350 S346 hFr344 tt htt _ h hT
              · have h := zf c357 h
                cases h
          · have h := zf c354 h
            cases h
        have J_1473 : ∀ (v5 : Int) (hv5 : inR v5) (M : zM) (S : zS) (hF : zFx S) (tt : Nat) (htt : (v5 : Int) = 4 * (tt : Int) ∧ tt < 512) (o : _) (_ : F_L_law_J1473 ln scr v5 M S = some o), zAft (bd28) n28 ex28 o → zJ K g (200 + 100 * tt + 0) (400000 + 2000 * tt + 0) 1473 9 [(0, .ref bb), (1, zr g 1), (2, zr g 48), (3, zr g 76), (4, zr g 77), (5, .int (zi v5))] [] M S := by
          intro v5 hv5 M S hF tt htt o h hT
          unfold F_L_law_J1473 at h
          refine j_aload_n hC 1 dL_law_1473 rfl rfl ?_
          obtain ⟨r358, M359, hy, h⟩ := zb2_ex h
          refine j_callVi (ci := 7) hC hE lk_L_227 dL_law_1474 (c_X10_reductions l hlt g M S hF hy) [] [] (zFx_kd hF 1 rfl) ⟨_, rfl, by decide, rfl⟩ rfl rfl rfl (zcat (Nat.le_of_ble_eq_true rfl)) (Nat.le_of_ble_eq_true rfl) (Nat.le_of_ble_eq_true rfl) (by omega) (by omega) (fun hp360 => ?_)
          have hr358 := hp360
          refine j_aload_n hC 2 dL_law_1477 rfl rfl ?_
          obtain ⟨r361, M362, hy, h⟩ := zb2_ex h
          refine j_callVi (ci := 8) hC hE lk_L_230 dL_law_1478 (c_X11_reductions l hlt g M359 S hF hy) [] [.int (zi r358)] (zFx_kd hF 48 rfl) ⟨_, rfl, by decide, rfl⟩ rfl rfl rfl (zcat (Nat.le_of_ble_eq_true rfl)) (Nat.le_of_ble_eq_true rfl) (Nat.le_of_ble_eq_true rfl) (by omega) (by omega) (fun hp363 => ?_)
          have hr361 := hp363
          refine j_icmp_eq hC dL_law_1481 rfl (w_id hr358) (w_id hr361) (fun c364 => ?_) (fun c364 => ?_)
          · have h := zt c364 h
            refine j_widen (k := (200 + 100 * tt + 100)) (n := (400000 + 2000 * tt + 2000)) (by omega) (by omega) ?_
            exact J_1870 v5 hv5 M362 S hF tt htt _ h hT
          · have h := zf c364 h
            cases h
        have J_1539 : ∀ (v5 : Int) (hv5 : inR v5) (M : zM) (S : zS) (hF : zFx S) (tt : Nat) (htt : (v5 : Int) = 4 * (tt : Int) ∧ tt < 512) (o : _) (_ : F_L_law_J1539 ln scr v5 M S = some o), zAft (bd28) n28 ex28 o → zJ K g (200 + 100 * tt + 90) (400000 + 2000 * tt + 1900) 1539 9 [(0, .ref bb), (1, zr g 1), (2, zr g 48), (3, zr g 76), (4, zr g 77), (5, .int (zi v5))] [] M S := by
          intro v5 hv5 M S hF tt htt o h hT
          unfold F_L_law_J1539 at h
          refine j_goto hC dL_law_1539 rfl ?_
          refine j_widen (k := (200 + 100 * tt + 100)) (n := (400000 + 2000 * tt + 2000)) (by omega) (by omega) ?_
          exact J_1870 v5 hv5 M S hF tt htt _ h hT
        have J_1486 : ∀ (v5 : Int) (hv5 : inR v5) (M : zM) (S : zS) (hF : zFx S) (tt : Nat) (htt : (v5 : Int) = 4 * (tt : Int) ∧ tt < 512) (o : _) (_ : F_L_law_J1486 ln scr v5 M S = some o), zAft (bd28) n28 ex28 o → zJ K g (200 + 100 * tt + 0) (400000 + 2000 * tt + 0) 1486 9 [(0, .ref bb), (1, zr g 1), (2, zr g 48), (3, zr g 76), (4, zr g 77), (5, .int (zi v5))] [] M S := by
          intro v5 hv5 M S hF tt htt o h hT
          unfold F_L_law_J1486 at h
          refine j_aload_n hC 1 dL_law_1486 rfl rfl ?_
          refine j_sload_n hC 0 dL_law_1487 rfl rfl ?_
          refine j_iload hC 5 dL_law_1488 rfl ?_
          refine j_iconst hC dL_law_1490 ?_
          refine j_iadd hC dL_law_1491 ?_
          obtain ⟨c365, h⟩ := zchk_ex h
          refine j_scld hC hXs hln dL_law_1492 rfl c365.1 c365.2 ?_
          rw [← hscr]
          refine j_aload_n hC 3 dL_law_1493 rfl rfl ?_
          obtain ⟨r366, M367, S368, hy, h⟩ := zb3_ex h
          refine j_callTi hC hE lk_L_231 dL_law_1494 (c_L_reduce l hlt g (scr (w (v5 + 1))) (hscrR _) M S hF hy) [zr g 1, .int (zi (scr (w (v5 + 1)))), zr g 76] [] rfl rfl rfl (Nat.le_of_ble_eq_true rfl) (Nat.le_of_ble_eq_true rfl) (Nat.le_of_ble_eq_true rfl) (by omega) (by omega) (fun hp369 => ?_)
          obtain ⟨hr366, hFr366⟩ := hp369
          refine j_istore hC dL_law_1497 (Nat.le_of_ble_eq_true rfl) rfl ?_
          refine j_aload_n hC 3 dL_law_1499 rfl rfl ?_
          refine j_sload_n hC 1 dL_law_1500 rfl rfl ?_
          refine j_iload hC 6 dL_law_1501 rfl ?_
          refine j_iconst hC dL_law_1503 ?_
          refine j_iadd hC dL_law_1504 ?_
          obtain ⟨c370, h⟩ := zchk_ex h
          refine j_scld hC hXs hln dL_law_1505 rfl c370.1 c370.2 ?_
          rw [← hscr]
          obtain ⟨r371, M372, hy, h⟩ := zb2_ex h
          refine j_callVi (ci := 8) hC hE lk_L_233 dL_law_1506 (c_X11_reduce l hlt g (scr (w (v5 + 1))) (hscrR _) M367 S368 hFr366 hy) [.int (zi (scr (w (v5 + 1))))] [] (zFx_kd hFr366 48 rfl) ⟨_, rfl, by decide, rfl⟩ rfl rfl rfl (zcat (Nat.le_of_ble_eq_true rfl)) (Nat.le_of_ble_eq_true rfl) (Nat.le_of_ble_eq_true rfl) (by omega) (by omega) (fun hp373 => ?_)
          have hr371 := hp373
          refine j_istore hC dL_law_1509 (Nat.le_of_ble_eq_true rfl) rfl ?_
          refine j_aload_n hC 4 dL_law_1511 rfl rfl ?_
          obtain ⟨r374, hy, h⟩ := zb1_ex h
          refine j_callVi (ci := 8) hC hE lk_L_134 dL_law_1512 (c_X11_thrown l hlt g M372 S368 hFr366 hy) [] [] (zFx_kd hFr366 48 rfl) ⟨_, rfl, by decide, rfl⟩ rfl rfl rfl (zcat (Nat.le_of_ble_eq_true rfl)) (Nat.le_of_ble_eq_true rfl) (Nat.le_of_ble_eq_true rfl) (by omega) (by omega) (fun hp375 => ?_)
          have hr374 := hp375
          refine j_iload hC 1 dL_law_1515 rfl ?_
          refine j_icmp_eq hC dL_law_1517 rfl (w_id hr374) (w_id hr366) (fun c376 => ?_) (fun c376 => ?_)
          · have h := zt c376 h
            refine j_iload hC 1 dL_law_1522 rfl ?_
            refine j_if_ne hC dL_law_1524 rfl (w_id hr366) (fun c377 => ?_) (fun c377 => ?_)
            · have h := zf c377 h
              refine j_sub [2, 3, 4, 5, 6, 7] rfl ?_
              refine j_widen (k := (200 + 100 * tt + 90)) (n := (400000 + 2000 * tt + 1900)) (by omega) (by omega) ?_
              exact J_1539 v5 hv5 M372 S368 hFr366 tt htt _ h hT
            · have h := zt c377 h
              refine j_aload_n hC 5 dL_law_1527 rfl rfl ?_
              refine j_iconst hC dL_law_1528 ?_
              refine j_lald (n := 1) hC dL_law_1529 (w_id kR_0) (zFx_kd hFr366 76 rfl) (zFx_ln hFr366 76 rfl) (by decide) (by decide) (fun hg378 => ?_)
              refine j_iload hC 0 dL_law_1530 rfl ?_
              refine j_i2l hC dL_law_1532 (w_id hr371) ?_
              refine j_lcmp hC dL_law_1533 hg378 (inL_R hr371) ?_
              refine j_if_eq hC dL_law_1534 rfl (w_id (inR_cmp _ _)) (fun c379 => ?_) (fun c379 => ?_)
              · have h := zt c379 h
                refine j_sub [2, 3, 4, 5, 6, 7] rfl ?_
                refine j_widen (k := (200 + 100 * tt + 90)) (n := (400000 + 2000 * tt + 1900)) (by omega) (by omega) ?_
                exact J_1539 v5 hv5 M372 S368 hFr366 tt htt _ h hT
              · have h := zf c379 h
                cases h
          · have h := zf c376 h
            cases h
        have J_1542 : ∀ (v5 : Int) (hv5 : inR v5) (M : zM) (S : zS) (hF : zFx S) (tt : Nat) (htt : (v5 : Int) = 4 * (tt : Int) ∧ tt < 512) (o : _) (_ : F_L_law_J1542 ln scr v5 M S = some o), zAft (bd28) n28 ex28 o → zJ K g (200 + 100 * tt + 0) (400000 + 2000 * tt + 0) 1542 9 [(0, .ref bb), (1, zr g 1), (2, zr g 48), (3, zr g 76), (4, zr g 77), (5, .int (zi v5))] [] M S := by
          intro v5 hv5 M S hF tt htt o h hT
          unfold F_L_law_J1542 at h
          refine j_aload_n hC 1 dL_law_1542 rfl rfl ?_
          obtain ⟨r380, M381, hy, h⟩ := zb2_ex h
          refine j_callVi (ci := 7) hC hE lk_L_234 dL_law_1543 (c_X10_normalForms l hlt g M S hF hy) [] [] (zFx_kd hF 1 rfl) ⟨_, rfl, by decide, rfl⟩ rfl rfl rfl (zcat (Nat.le_of_ble_eq_true rfl)) (Nat.le_of_ble_eq_true rfl) (Nat.le_of_ble_eq_true rfl) (by omega) (by omega) (fun hp382 => ?_)
          have hr380 := hp382
          refine j_aload_n hC 2 dL_law_1546 rfl rfl ?_
          obtain ⟨r383, M384, hy, h⟩ := zb2_ex h
          refine j_callVi (ci := 8) hC hE lk_L_237 dL_law_1547 (c_X11_normalForms l hlt g M381 S hF hy) [] [.int (zi r380)] (zFx_kd hF 48 rfl) ⟨_, rfl, by decide, rfl⟩ rfl rfl rfl (zcat (Nat.le_of_ble_eq_true rfl)) (Nat.le_of_ble_eq_true rfl) (Nat.le_of_ble_eq_true rfl) (by omega) (by omega) (fun hp385 => ?_)
          have hr383 := hp385
          refine j_icmp_eq hC dL_law_1550 rfl (w_id hr380) (w_id hr383) (fun c386 => ?_) (fun c386 => ?_)
          · have h := zt c386 h
            refine j_widen (k := (200 + 100 * tt + 100)) (n := (400000 + 2000 * tt + 2000)) (by omega) (by omega) ?_
            exact J_1870 v5 hv5 M384 S hF tt htt _ h hT
          · have h := zf c386 h
            cases h
        have J_1555 : ∀ (v5 : Int) (hv5 : inR v5) (M : zM) (S : zS) (hF : zFx S) (tt : Nat) (htt : (v5 : Int) = 4 * (tt : Int) ∧ tt < 512) (o : _) (_ : F_L_law_J1555 ln scr v5 M S = some o), zAft (bd28) n28 ex28 o → zJ K g (200 + 100 * tt + 0) (400000 + 2000 * tt + 0) 1555 9 [(0, .ref bb), (1, zr g 1), (2, zr g 48), (3, zr g 76), (4, zr g 77), (5, .int (zi v5))] [] M S := by
          intro v5 hv5 M S hF tt htt o h hT
          unfold F_L_law_J1555 at h
          refine j_aload_n hC 1 dL_law_1555 rfl rfl ?_
          refine j_sload_n hC 0 dL_law_1556 rfl rfl ?_
          refine j_iload hC 5 dL_law_1557 rfl ?_
          refine j_iconst hC dL_law_1559 ?_
          refine j_iadd hC dL_law_1560 ?_
          obtain ⟨c387, h⟩ := zchk_ex h
          refine j_scld hC hXs hln dL_law_1561 rfl c387.1 c387.2 ?_
          rw [← hscr]
          obtain ⟨r388, M389, S390, hy, h⟩ := zb3_ex h
          refine j_callTi hC hE lk_L_238 dL_law_1562 (c_L_normalize l hlt g (scr (w (v5 + 1))) (hscrR _) M S hF hy) [zr g 1, .int (zi (scr (w (v5 + 1))))] [] rfl rfl rfl (Nat.le_of_ble_eq_true rfl) (Nat.le_of_ble_eq_true rfl) (Nat.le_of_ble_eq_true rfl) (by omega) (by omega) (fun hp391 => ?_)
          obtain ⟨hr388, hFr388⟩ := hp391
          refine j_istore hC dL_law_1565 (Nat.le_of_ble_eq_true rfl) rfl ?_
          refine j_aload_n hC 3 dL_law_1567 rfl rfl ?_
          refine j_sload_n hC 1 dL_law_1568 rfl rfl ?_
          refine j_iload hC 6 dL_law_1569 rfl ?_
          refine j_iconst hC dL_law_1571 ?_
          refine j_iadd hC dL_law_1572 ?_
          obtain ⟨c392, h⟩ := zchk_ex h
          refine j_scld hC hXs hln dL_law_1573 rfl c392.1 c392.2 ?_
          rw [← hscr]
          obtain ⟨M393, hy, h⟩ := zb1_ex h
          refine j_callVv (ci := 8) hC hE lk_L_240 dL_law_1574 (c_X11_normalize l hlt g (scr (w (v5 + 1))) (hscrR _) M389 S390 hFr388 hy) [.int (zi (scr (w (v5 + 1))))] [] (zFx_kd hFr388 48 rfl) ⟨_, rfl, by decide, rfl⟩ rfl rfl rfl (zcat (Nat.le_of_ble_eq_true rfl)) (Nat.le_of_ble_eq_true rfl) (Nat.le_of_ble_eq_true rfl) (by omega) (by omega) (fun hp394 => ?_)
          refine j_aload_n hC 3 dL_law_1577 rfl rfl ?_
          obtain ⟨r395, hy, h⟩ := zb1_ex h
          refine j_callVi (ci := 8) hC hE lk_L_134 dL_law_1578 (c_X11_thrown l hlt g M393 S390 hFr388 hy) [] [] (zFx_kd hFr388 48 rfl) ⟨_, rfl, by decide, rfl⟩ rfl rfl rfl (zcat (Nat.le_of_ble_eq_true rfl)) (Nat.le_of_ble_eq_true rfl) (Nat.le_of_ble_eq_true rfl) (by omega) (by omega) (fun hp396 => ?_)
          have hr395 := hp396
          refine j_iload hC 0 dL_law_1581 rfl ?_
          refine j_icmp_eq hC dL_law_1583 rfl (w_id hr395) (w_id hr388) (fun c397 => ?_) (fun c397 => ?_)
          · have h := zt c397 h
            refine j_goto hC dL_law_1588 rfl ?_
            refine j_sub [1, 2, 3, 4, 5, 6] rfl ?_
            refine j_widen (k := (200 + 100 * tt + 100)) (n := (400000 + 2000 * tt + 2000)) (by omega) (by omega) ?_
            exact J_1870 v5 hv5 M393 S390 hFr388 tt htt _ h hT
          · have h := zf c397 h
            cases h
        have J_1591 : ∀ (v5 : Int) (hv5 : inR v5) (M : zM) (S : zS) (hF : zFx S) (tt : Nat) (htt : (v5 : Int) = 4 * (tt : Int) ∧ tt < 512) (o : _) (_ : F_L_law_J1591 ln scr v5 M S = some o), zAft (bd28) n28 ex28 o → zJ K g (200 + 100 * tt + 0) (400000 + 2000 * tt + 0) 1591 9 [(0, .ref bb), (1, zr g 1), (2, zr g 48), (3, zr g 76), (4, zr g 77), (5, .int (zi v5))] [] M S := by
          intro v5 hv5 M S hF tt htt o h hT
          unfold F_L_law_J1591 at h
          refine j_aload_n hC 1 dL_law_1591 rfl rfl ?_
          refine j_sload_n hC 0 dL_law_1592 rfl rfl ?_
          refine j_iload hC 5 dL_law_1593 rfl ?_
          refine j_iconst hC dL_law_1595 ?_
          refine j_iadd hC dL_law_1596 ?_
          obtain ⟨c398, h⟩ := zchk_ex h
          refine j_scld hC hXs hln dL_law_1597 rfl c398.1 c398.2 ?_
          rw [← hscr]
          refine j_sload_n hC 0 dL_law_1598 rfl rfl ?_
          refine j_iload hC 5 dL_law_1599 rfl ?_
          refine j_iconst hC dL_law_1601 ?_
          refine j_iadd hC dL_law_1602 ?_
          obtain ⟨c399, h⟩ := zchk_ex h
          refine j_scld hC hXs hln dL_law_1603 rfl c399.1 c399.2 ?_
          rw [← hscr]
          refine j_sload_n hC 0 dL_law_1604 rfl rfl ?_
          refine j_iload hC 5 dL_law_1605 rfl ?_
          refine j_iconst hC dL_law_1607 ?_
          refine j_iadd hC dL_law_1608 ?_
          obtain ⟨c400, h⟩ := zchk_ex h
          refine j_scld hC hXs hln dL_law_1609 rfl c400.1 c400.2 ?_
          rw [← hscr]
          obtain ⟨r401, M402, S403, hy, h⟩ := zb3_ex h
          refine j_callTi hC hE lk_L_241 dL_law_1610 (c_L_allocate l hlt g (scr (w (v5 + 1))) (scr (w (v5 + 2))) (scr (w (v5 + 3))) (hscrR _) (hscrR _) (hscrR _) M S hF hy) [zr g 1, .int (zi (scr (w (v5 + 1)))), .int (zi (scr (w (v5 + 2)))), .int (zi (scr (w (v5 + 3))))] [] rfl rfl rfl (Nat.le_of_ble_eq_true rfl) (Nat.le_of_ble_eq_true rfl) (Nat.le_of_ble_eq_true rfl) (by omega) (by omega) (fun hp404 => ?_)
          obtain ⟨hr401, hFr401⟩ := hp404
          refine j_istore hC dL_law_1613 (Nat.le_of_ble_eq_true rfl) rfl ?_
          refine j_aload_n hC 3 dL_law_1615 rfl rfl ?_
          refine j_sload_n hC 1 dL_law_1616 rfl rfl ?_
          refine j_iload hC 6 dL_law_1617 rfl ?_
          refine j_iconst hC dL_law_1619 ?_
          refine j_iadd hC dL_law_1620 ?_
          obtain ⟨c405, h⟩ := zchk_ex h
          refine j_scld hC hXs hln dL_law_1621 rfl c405.1 c405.2 ?_
          rw [← hscr]
          refine j_sload_n hC 1 dL_law_1622 rfl rfl ?_
          refine j_iload hC 6 dL_law_1623 rfl ?_
          refine j_iconst hC dL_law_1625 ?_
          refine j_iadd hC dL_law_1626 ?_
          obtain ⟨c406, h⟩ := zchk_ex h
          refine j_scld hC hXs hln dL_law_1627 rfl c406.1 c406.2 ?_
          rw [← hscr]
          refine j_sload_n hC 1 dL_law_1628 rfl rfl ?_
          refine j_iload hC 6 dL_law_1629 rfl ?_
          refine j_iconst hC dL_law_1631 ?_
          refine j_iadd hC dL_law_1632 ?_
          obtain ⟨c407, h⟩ := zchk_ex h
          refine j_scld hC hXs hln dL_law_1633 rfl c407.1 c407.2 ?_
          rw [← hscr]
          obtain ⟨M408, hy, h⟩ := zb1_ex h
          refine j_callVv (ci := 8) hC hE lk_L_244 dL_law_1634 (c_X11_allocate l hlt g (scr (w (v5 + 1))) (scr (w (v5 + 2))) (scr (w (v5 + 3))) (hscrR _) (hscrR _) (hscrR _) M402 S403 hFr401 hy) [.int (zi (scr (w (v5 + 1)))), .int (zi (scr (w (v5 + 2)))), .int (zi (scr (w (v5 + 3))))] [] (zFx_kd hFr401 48 rfl) ⟨_, rfl, by decide, rfl⟩ rfl rfl rfl (zcat (Nat.le_of_ble_eq_true rfl)) (Nat.le_of_ble_eq_true rfl) (Nat.le_of_ble_eq_true rfl) (by omega) (by omega) (fun hp409 => ?_)
          refine j_aload_n hC 3 dL_law_1637 rfl rfl ?_
          obtain ⟨r410, hy, h⟩ := zb1_ex h
          refine j_callVi (ci := 8) hC hE lk_L_134 dL_law_1638 (c_X11_thrown l hlt g M408 S403 hFr401 hy) [] [] (zFx_kd hFr401 48 rfl) ⟨_, rfl, by decide, rfl⟩ rfl rfl rfl (zcat (Nat.le_of_ble_eq_true rfl)) (Nat.le_of_ble_eq_true rfl) (Nat.le_of_ble_eq_true rfl) (by omega) (by omega) (fun hp411 => ?_)
          have hr410 := hp411
          refine j_iload hC 0 dL_law_1641 rfl ?_
          refine j_icmp_eq hC dL_law_1643 rfl (w_id hr410) (w_id hr401) (fun c412 => ?_) (fun c412 => ?_)
          · have h := zt c412 h
            refine j_goto hC dL_law_1648 rfl ?_
            refine j_sub [1, 2, 3, 4, 5, 6] rfl ?_
            refine j_widen (k := (200 + 100 * tt + 100)) (n := (400000 + 2000 * tt + 2000)) (by omega) (by omega) ?_
            exact J_1870 v5 hv5 M408 S403 hFr401 tt htt _ h hT
          · have h := zf c412 h
            cases h
        have J_1651 : ∀ (v5 : Int) (hv5 : inR v5) (M : zM) (S : zS) (hF : zFx S) (tt : Nat) (htt : (v5 : Int) = 4 * (tt : Int) ∧ tt < 512) (o : _) (_ : F_L_law_J1651 ln scr v5 M S = some o), zAft (bd28) n28 ex28 o → zJ K g (200 + 100 * tt + 0) (400000 + 2000 * tt + 0) 1651 9 [(0, .ref bb), (1, zr g 1), (2, zr g 48), (3, zr g 76), (4, zr g 77), (5, .int (zi v5))] [] M S := by
          intro v5 hv5 M S hF tt htt o h hT
          unfold F_L_law_J1651 at h
          refine j_aload_n hC 1 dL_law_1651 rfl rfl ?_
          refine j_sload_n hC 0 dL_law_1652 rfl rfl ?_
          refine j_iload hC 5 dL_law_1653 rfl ?_
          refine j_iconst hC dL_law_1655 ?_
          refine j_iadd hC dL_law_1656 ?_
          obtain ⟨c413, h⟩ := zchk_ex h
          refine j_scld hC hXs hln dL_law_1657 rfl c413.1 c413.2 ?_
          rw [← hscr]
          refine j_sload_n hC 0 dL_law_1658 rfl rfl ?_
          refine j_iload hC 5 dL_law_1659 rfl ?_
          refine j_iconst hC dL_law_1661 ?_
          refine j_iadd hC dL_law_1662 ?_
          obtain ⟨c414, h⟩ := zchk_ex h
          refine j_scld hC hXs hln dL_law_1663 rfl c414.1 c414.2 ?_
          rw [← hscr]
          refine j_sload_n hC 0 dL_law_1664 rfl rfl ?_
          refine j_iload hC 5 dL_law_1665 rfl ?_
          refine j_iconst hC dL_law_1667 ?_
          refine j_iadd hC dL_law_1668 ?_
          obtain ⟨c415, h⟩ := zchk_ex h
          refine j_scld hC hXs hln dL_law_1669 rfl c415.1 c415.2 ?_
          rw [← hscr]
          obtain ⟨r416, M417, S418, hy, h⟩ := zb3_ex h
          refine j_callTi hC hE lk_L_245 dL_law_1670 (c_L_store l hlt g (scr (w (v5 + 1))) (scr (w (v5 + 2))) (scr (w (v5 + 3))) (hscrR _) (hscrR _) (hscrR _) M S hF hy) [zr g 1, .int (zi (scr (w (v5 + 1)))), .int (zi (scr (w (v5 + 2)))), .int (zi (scr (w (v5 + 3))))] [] rfl rfl rfl (Nat.le_of_ble_eq_true rfl) (Nat.le_of_ble_eq_true rfl) (Nat.le_of_ble_eq_true rfl) (by omega) (by omega) (fun hp419 => ?_)
          obtain ⟨hr416, hFr416⟩ := hp419
          refine j_istore hC dL_law_1673 (Nat.le_of_ble_eq_true rfl) rfl ?_
          refine j_aload_n hC 3 dL_law_1675 rfl rfl ?_
          refine j_sload_n hC 1 dL_law_1676 rfl rfl ?_
          refine j_iload hC 6 dL_law_1677 rfl ?_
          refine j_iconst hC dL_law_1679 ?_
          refine j_iadd hC dL_law_1680 ?_
          obtain ⟨c420, h⟩ := zchk_ex h
          refine j_scld hC hXs hln dL_law_1681 rfl c420.1 c420.2 ?_
          rw [← hscr]
          refine j_sload_n hC 1 dL_law_1682 rfl rfl ?_
          refine j_iload hC 6 dL_law_1683 rfl ?_
          refine j_iconst hC dL_law_1685 ?_
          refine j_iadd hC dL_law_1686 ?_
          obtain ⟨c421, h⟩ := zchk_ex h
          refine j_scld hC hXs hln dL_law_1687 rfl c421.1 c421.2 ?_
          rw [← hscr]
          refine j_sload_n hC 1 dL_law_1688 rfl rfl ?_
          refine j_iload hC 6 dL_law_1689 rfl ?_
          refine j_iconst hC dL_law_1691 ?_
          refine j_iadd hC dL_law_1692 ?_
          obtain ⟨c422, h⟩ := zchk_ex h
          refine j_scld hC hXs hln dL_law_1693 rfl c422.1 c422.2 ?_
          rw [← hscr]
          obtain ⟨M423, hy, h⟩ := zb1_ex h
          refine j_callVv (ci := 8) hC hE lk_L_247 dL_law_1694 (c_X11_store l hlt g (scr (w (v5 + 1))) (scr (w (v5 + 2))) (scr (w (v5 + 3))) (hscrR _) (hscrR _) (hscrR _) M417 S418 hFr416 hy) [.int (zi (scr (w (v5 + 1)))), .int (zi (scr (w (v5 + 2)))), .int (zi (scr (w (v5 + 3))))] [] (zFx_kd hFr416 48 rfl) ⟨_, rfl, by decide, rfl⟩ rfl rfl rfl (zcat (Nat.le_of_ble_eq_true rfl)) (Nat.le_of_ble_eq_true rfl) (Nat.le_of_ble_eq_true rfl) (by omega) (by omega) (fun hp424 => ?_)
          refine j_aload_n hC 3 dL_law_1697 rfl rfl ?_
          obtain ⟨r425, hy, h⟩ := zb1_ex h
          refine j_callVi (ci := 8) hC hE lk_L_134 dL_law_1698 (c_X11_thrown l hlt g M423 S418 hFr416 hy) [] [] (zFx_kd hFr416 48 rfl) ⟨_, rfl, by decide, rfl⟩ rfl rfl rfl (zcat (Nat.le_of_ble_eq_true rfl)) (Nat.le_of_ble_eq_true rfl) (Nat.le_of_ble_eq_true rfl) (by omega) (by omega) (fun hp426 => ?_)
          have hr425 := hp426
          refine j_iload hC 0 dL_law_1701 rfl ?_
          refine j_icmp_eq hC dL_law_1703 rfl (w_id hr425) (w_id hr416) (fun c427 => ?_) (fun c427 => ?_)
          · have h := zt c427 h
            refine j_goto hC dL_law_1708 rfl ?_
            refine j_sub [1, 2, 3, 4, 5, 6] rfl ?_
            refine j_widen (k := (200 + 100 * tt + 100)) (n := (400000 + 2000 * tt + 2000)) (by omega) (by omega) ?_
            exact J_1870 v5 hv5 M423 S418 hFr416 tt htt _ h hT
          · have h := zf c427 h
            cases h
        have J_1776 : ∀ (v5 : Int) (hv5 : inR v5) (M : zM) (S : zS) (hF : zFx S) (tt : Nat) (htt : (v5 : Int) = 4 * (tt : Int) ∧ tt < 512) (o : _) (_ : F_L_law_J1776 ln scr v5 M S = some o), zAft (bd28) n28 ex28 o → zJ K g (200 + 100 * tt + 90) (400000 + 2000 * tt + 1900) 1776 9 [(0, .ref bb), (1, zr g 1), (2, zr g 48), (3, zr g 76), (4, zr g 77), (5, .int (zi v5))] [] M S := by
          intro v5 hv5 M S hF tt htt o h hT
          unfold F_L_law_J1776 at h
          refine j_goto hC dL_law_1776 rfl ?_
          refine j_widen (k := (200 + 100 * tt + 100)) (n := (400000 + 2000 * tt + 2000)) (by omega) (by omega) ?_
          exact J_1870 v5 hv5 M S hF tt htt _ h hT
        have J_1711 : ∀ (v5 : Int) (hv5 : inR v5) (M : zM) (S : zS) (hF : zFx S) (tt : Nat) (htt : (v5 : Int) = 4 * (tt : Int) ∧ tt < 512) (o : _) (_ : F_L_law_J1711 ln scr v5 M S = some o), zAft (bd28) n28 ex28 o → zJ K g (200 + 100 * tt + 0) (400000 + 2000 * tt + 0) 1711 9 [(0, .ref bb), (1, zr g 1), (2, zr g 48), (3, zr g 76), (4, zr g 77), (5, .int (zi v5))] [] M S := by
          intro v5 hv5 M S hF tt htt o h hT
          unfold F_L_law_J1711 at h
          refine j_aload_n hC 1 dL_law_1711 rfl rfl ?_
          refine j_sload_n hC 0 dL_law_1712 rfl rfl ?_
          refine j_iload hC 5 dL_law_1713 rfl ?_
          refine j_iconst hC dL_law_1715 ?_
          refine j_iadd hC dL_law_1716 ?_
          obtain ⟨c428, h⟩ := zchk_ex h
          refine j_scld hC hXs hln dL_law_1717 rfl c428.1 c428.2 ?_
          rw [← hscr]
          refine j_sload_n hC 0 dL_law_1718 rfl rfl ?_
          refine j_iload hC 5 dL_law_1719 rfl ?_
          refine j_iconst hC dL_law_1721 ?_
          refine j_iadd hC dL_law_1722 ?_
          obtain ⟨c429, h⟩ := zchk_ex h
          refine j_scld hC hXs hln dL_law_1723 rfl c429.1 c429.2 ?_
          rw [← hscr]
          refine j_aload_n hC 3 dL_law_1724 rfl rfl ?_
          obtain ⟨r430, M431, S432, hy, h⟩ := zb3_ex h
          refine j_callTi hC hE lk_L_248 dL_law_1725 (c_L_element l hlt g (scr (w (v5 + 1))) (scr (w (v5 + 2))) (hscrR _) (hscrR _) M S hF hy) [zr g 1, .int (zi (scr (w (v5 + 1)))), .int (zi (scr (w (v5 + 2)))), zr g 76] [] rfl rfl rfl (Nat.le_of_ble_eq_true rfl) (Nat.le_of_ble_eq_true rfl) (Nat.le_of_ble_eq_true rfl) (by omega) (by omega) (fun hp433 => ?_)
          obtain ⟨hr430, hFr430⟩ := hp433
          refine j_istore hC dL_law_1728 (Nat.le_of_ble_eq_true rfl) rfl ?_
          refine j_aload_n hC 3 dL_law_1730 rfl rfl ?_
          refine j_sload_n hC 1 dL_law_1731 rfl rfl ?_
          refine j_iload hC 6 dL_law_1732 rfl ?_
          refine j_iconst hC dL_law_1734 ?_
          refine j_iadd hC dL_law_1735 ?_
          obtain ⟨c434, h⟩ := zchk_ex h
          refine j_scld hC hXs hln dL_law_1736 rfl c434.1 c434.2 ?_
          rw [← hscr]
          refine j_sload_n hC 1 dL_law_1737 rfl rfl ?_
          refine j_iload hC 6 dL_law_1738 rfl ?_
          refine j_iconst hC dL_law_1740 ?_
          refine j_iadd hC dL_law_1741 ?_
          obtain ⟨c435, h⟩ := zchk_ex h
          refine j_scld hC hXs hln dL_law_1742 rfl c435.1 c435.2 ?_
          rw [← hscr]
          obtain ⟨r436, M437, hy, h⟩ := zb2_ex h
          refine j_callVi (ci := 8) hC hE lk_L_250 dL_law_1743 (c_X11_element l hlt g (scr (w (v5 + 1))) (scr (w (v5 + 2))) (hscrR _) (hscrR _) M431 S432 hFr430 hy) [.int (zi (scr (w (v5 + 1)))), .int (zi (scr (w (v5 + 2))))] [] (zFx_kd hFr430 48 rfl) ⟨_, rfl, by decide, rfl⟩ rfl rfl rfl (zcat (Nat.le_of_ble_eq_true rfl)) (Nat.le_of_ble_eq_true rfl) (Nat.le_of_ble_eq_true rfl) (by omega) (by omega) (fun hp438 => ?_)
          have hr436 := hp438
          refine j_istore hC dL_law_1746 (Nat.le_of_ble_eq_true rfl) rfl ?_
          refine j_aload_n hC 4 dL_law_1748 rfl rfl ?_
          obtain ⟨r439, hy, h⟩ := zb1_ex h
          refine j_callVi (ci := 8) hC hE lk_L_134 dL_law_1749 (c_X11_thrown l hlt g M437 S432 hFr430 hy) [] [] (zFx_kd hFr430 48 rfl) ⟨_, rfl, by decide, rfl⟩ rfl rfl rfl (zcat (Nat.le_of_ble_eq_true rfl)) (Nat.le_of_ble_eq_true rfl) (Nat.le_of_ble_eq_true rfl) (by omega) (by omega) (fun hp440 => ?_)
          have hr439 := hp440
          refine j_iload hC 1 dL_law_1752 rfl ?_
          refine j_icmp_eq hC dL_law_1754 rfl (w_id hr439) (w_id hr430) (fun c441 => ?_) (fun c441 => ?_)
          · have h := zt c441 h
            refine j_iload hC 1 dL_law_1759 rfl ?_
            refine j_if_ne hC dL_law_1761 rfl (w_id hr430) (fun c442 => ?_) (fun c442 => ?_)
            · have h := zf c442 h
              refine j_sub [2, 3, 4, 5, 6, 7] rfl ?_
              refine j_widen (k := (200 + 100 * tt + 90)) (n := (400000 + 2000 * tt + 1900)) (by omega) (by omega) ?_
              exact J_1776 v5 hv5 M437 S432 hFr430 tt htt _ h hT
            · have h := zt c442 h
              refine j_aload_n hC 5 dL_law_1764 rfl rfl ?_
              refine j_iconst hC dL_law_1765 ?_
              refine j_lald (n := 1) hC dL_law_1766 (w_id kR_0) (zFx_kd hFr430 76 rfl) (zFx_ln hFr430 76 rfl) (by decide) (by decide) (fun hg443 => ?_)
              refine j_iload hC 0 dL_law_1767 rfl ?_
              refine j_i2l hC dL_law_1769 (w_id hr436) ?_
              refine j_lcmp hC dL_law_1770 hg443 (inL_R hr436) ?_
              refine j_if_eq hC dL_law_1771 rfl (w_id (inR_cmp _ _)) (fun c444 => ?_) (fun c444 => ?_)
              · have h := zt c444 h
                refine j_sub [2, 3, 4, 5, 6, 7] rfl ?_
                refine j_widen (k := (200 + 100 * tt + 90)) (n := (400000 + 2000 * tt + 1900)) (by omega) (by omega) ?_
                exact J_1776 v5 hv5 M437 S432 hFr430 tt htt _ h hT
              · have h := zf c444 h
                cases h
          · have h := zf c441 h
            cases h
        have J_1832 : ∀ (v5 : Int) (hv5 : inR v5) (M : zM) (S : zS) (hF : zFx S) (tt : Nat) (htt : (v5 : Int) = 4 * (tt : Int) ∧ tt < 512) (o : _) (_ : F_L_law_J1832 ln scr v5 M S = some o), zAft (bd28) n28 ex28 o → zJ K g (200 + 100 * tt + 90) (400000 + 2000 * tt + 1900) 1832 9 [(0, .ref bb), (1, zr g 1), (2, zr g 48), (3, zr g 76), (4, zr g 77), (5, .int (zi v5))] [] M S := by
          intro v5 hv5 M S hF tt htt o h hT
          unfold F_L_law_J1832 at h
          refine j_goto hC dL_law_1832 rfl ?_
          refine j_widen (k := (200 + 100 * tt + 100)) (n := (400000 + 2000 * tt + 2000)) (by omega) (by omega) ?_
          exact J_1870 v5 hv5 M S hF tt htt _ h hT
        have J_1779 : ∀ (v5 : Int) (hv5 : inR v5) (M : zM) (S : zS) (hF : zFx S) (tt : Nat) (htt : (v5 : Int) = 4 * (tt : Int) ∧ tt < 512) (o : _) (_ : F_L_law_J1779 ln scr v5 M S = some o), zAft (bd28) n28 ex28 o → zJ K g (200 + 100 * tt + 0) (400000 + 2000 * tt + 0) 1779 9 [(0, .ref bb), (1, zr g 1), (2, zr g 48), (3, zr g 76), (4, zr g 77), (5, .int (zi v5))] [] M S := by
          intro v5 hv5 M S hF tt htt o h hT
          unfold F_L_law_J1779 at h
          refine j_aload_n hC 1 dL_law_1779 rfl rfl ?_
          refine j_sload_n hC 0 dL_law_1780 rfl rfl ?_
          refine j_iload hC 5 dL_law_1781 rfl ?_
          refine j_iconst hC dL_law_1783 ?_
          refine j_iadd hC dL_law_1784 ?_
          obtain ⟨c445, h⟩ := zchk_ex h
          refine j_scld hC hXs hln dL_law_1785 rfl c445.1 c445.2 ?_
          rw [← hscr]
          refine j_aload_n hC 3 dL_law_1786 rfl rfl ?_
          obtain ⟨r446, M447, S448, hy, h⟩ := zb3_ex h
          refine j_callTi hC hE lk_L_251 dL_law_1787 (c_L_compareSizes l hlt g (scr (w (v5 + 1))) (hscrR _) M S hF hy) [zr g 1, .int (zi (scr (w (v5 + 1)))), zr g 76] [] rfl rfl rfl (Nat.le_of_ble_eq_true rfl) (Nat.le_of_ble_eq_true rfl) (Nat.le_of_ble_eq_true rfl) (by omega) (by omega) (fun hp449 => ?_)
          obtain ⟨hr446, hFr446⟩ := hp449
          refine j_istore hC dL_law_1790 (Nat.le_of_ble_eq_true rfl) rfl ?_
          refine j_aload_n hC 3 dL_law_1792 rfl rfl ?_
          refine j_sload_n hC 1 dL_law_1793 rfl rfl ?_
          refine j_iload hC 6 dL_law_1794 rfl ?_
          refine j_iconst hC dL_law_1796 ?_
          refine j_iadd hC dL_law_1797 ?_
          obtain ⟨c450, h⟩ := zchk_ex h
          refine j_scld hC hXs hln dL_law_1798 rfl c450.1 c450.2 ?_
          rw [← hscr]
          obtain ⟨r451, M452, hy, h⟩ := zb2_ex h
          refine j_callVi (ci := 8) hC hE lk_L_253 dL_law_1799 (c_X11_compareSizes l hlt g (scr (w (v5 + 1))) (hscrR _) M447 S448 hFr446 hy) [.int (zi (scr (w (v5 + 1))))] [] (zFx_kd hFr446 48 rfl) ⟨_, rfl, by decide, rfl⟩ rfl rfl rfl (zcat (Nat.le_of_ble_eq_true rfl)) (Nat.le_of_ble_eq_true rfl) (Nat.le_of_ble_eq_true rfl) (by omega) (by omega) (fun hp453 => ?_)
          have hr451 := hp453
          refine j_istore hC dL_law_1802 (Nat.le_of_ble_eq_true rfl) rfl ?_
          refine j_aload_n hC 4 dL_law_1804 rfl rfl ?_
          obtain ⟨r454, hy, h⟩ := zb1_ex h
          refine j_callVi (ci := 8) hC hE lk_L_134 dL_law_1805 (c_X11_thrown l hlt g M452 S448 hFr446 hy) [] [] (zFx_kd hFr446 48 rfl) ⟨_, rfl, by decide, rfl⟩ rfl rfl rfl (zcat (Nat.le_of_ble_eq_true rfl)) (Nat.le_of_ble_eq_true rfl) (Nat.le_of_ble_eq_true rfl) (by omega) (by omega) (fun hp455 => ?_)
          have hr454 := hp455
          refine j_iload hC 1 dL_law_1808 rfl ?_
          refine j_icmp_eq hC dL_law_1810 rfl (w_id hr454) (w_id hr446) (fun c456 => ?_) (fun c456 => ?_)
          · have h := zt c456 h
            refine j_iload hC 1 dL_law_1815 rfl ?_
            refine j_if_ne hC dL_law_1817 rfl (w_id hr446) (fun c457 => ?_) (fun c457 => ?_)
            · have h := zf c457 h
              refine j_sub [2, 3, 4, 5, 6, 7] rfl ?_
              refine j_widen (k := (200 + 100 * tt + 90)) (n := (400000 + 2000 * tt + 1900)) (by omega) (by omega) ?_
              exact J_1832 v5 hv5 M452 S448 hFr446 tt htt _ h hT
            · have h := zt c457 h
              refine j_aload_n hC 5 dL_law_1820 rfl rfl ?_
              refine j_iconst hC dL_law_1821 ?_
              refine j_lald (n := 1) hC dL_law_1822 (w_id kR_0) (zFx_kd hFr446 76 rfl) (zFx_ln hFr446 76 rfl) (by decide) (by decide) (fun hg458 => ?_)
              refine j_iload hC 0 dL_law_1823 rfl ?_
              refine j_i2l hC dL_law_1825 (w_id hr451) ?_
              refine j_lcmp hC dL_law_1826 hg458 (inL_R hr451) ?_
              refine j_if_eq hC dL_law_1827 rfl (w_id (inR_cmp _ _)) (fun c459 => ?_) (fun c459 => ?_)
              · have h := zt c459 h
                refine j_sub [2, 3, 4, 5, 6, 7] rfl ?_
                refine j_widen (k := (200 + 100 * tt + 90)) (n := (400000 + 2000 * tt + 1900)) (by omega) (by omega) ?_
                exact J_1832 v5 hv5 M452 S448 hFr446 tt htt _ h hT
              · have h := zf c459 h
                cases h
          · have h := zf c456 h
            cases h
        have J_1835 : ∀ (v5 : Int) (hv5 : inR v5) (M : zM) (S : zS) (hF : zFx S) (tt : Nat) (htt : (v5 : Int) = 4 * (tt : Int) ∧ tt < 512) (o : _) (_ : F_L_law_J1835 ln scr v5 M S = some o), zAft (bd28) n28 ex28 o → zJ K g (200 + 100 * tt + 0) (400000 + 2000 * tt + 0) 1835 9 [(0, .ref bb), (1, zr g 1), (2, zr g 48), (3, zr g 76), (4, zr g 77), (5, .int (zi v5))] [] M S := by
          intro v5 hv5 M S hF tt htt o h hT
          unfold F_L_law_J1835 at h
          refine j_aload_n hC 1 dL_law_1835 rfl rfl ?_
          obtain ⟨M460, S461, hy, h⟩ := zb2_ex h
          refine j_callVv (ci := 7) hC hE lk_L_254 dL_law_1836 (c_X10_save l hlt g M S hF hy) [] [] (zFx_kd hF 1 rfl) ⟨_, rfl, by decide, rfl⟩ rfl rfl rfl (zcat (Nat.le_of_ble_eq_true rfl)) (Nat.le_of_ble_eq_true rfl) (Nat.le_of_ble_eq_true rfl) (by omega) (by omega) (fun hp462 => ?_)
          have hF463 := hp462
          refine j_aload_n hC 2 dL_law_1839 rfl rfl ?_
          obtain ⟨M464, hy, h⟩ := zb1_ex h
          refine j_callVv (ci := 8) hC hE lk_L_257 dL_law_1840 (c_X11_save l hlt g M460 S461 hF463 hy) [] [] (zFx_kd hF463 48 rfl) ⟨_, rfl, by decide, rfl⟩ rfl rfl rfl (zcat (Nat.le_of_ble_eq_true rfl)) (Nat.le_of_ble_eq_true rfl) (Nat.le_of_ble_eq_true rfl) (by omega) (by omega) (fun hp465 => ?_)
          refine j_goto hC dL_law_1843 rfl ?_
          refine j_widen (k := (200 + 100 * tt + 100)) (n := (400000 + 2000 * tt + 2000)) (by omega) (by omega) ?_
          exact J_1870 v5 hv5 M464 S461 hF463 tt htt _ h hT
        have J_1846 : ∀ (v5 : Int) (hv5 : inR v5) (M : zM) (S : zS) (hF : zFx S) (tt : Nat) (htt : (v5 : Int) = 4 * (tt : Int) ∧ tt < 512) (o : _) (_ : F_L_law_J1846 ln scr v5 M S = some o), zAft (bd28) n28 ex28 o → zJ K g (200 + 100 * tt + 0) (400000 + 2000 * tt + 0) 1846 9 [(0, .ref bb), (1, zr g 1), (2, zr g 48), (3, zr g 76), (4, zr g 77), (5, .int (zi v5))] [] M S := by
          intro v5 hv5 M S hF tt htt o h hT
          unfold F_L_law_J1846 at h
          refine j_aload_n hC 1 dL_law_1846 rfl rfl ?_
          obtain ⟨r466, M467, S468, hy, h⟩ := zb3_ex h
          refine j_callTi hC hE lk_L_258 dL_law_1847 (c_L_restore l hlt g M S hF hy) [zr g 1] [] rfl rfl rfl (Nat.le_of_ble_eq_true rfl) (Nat.le_of_ble_eq_true rfl) (Nat.le_of_ble_eq_true rfl) (by omega) (by omega) (fun hp469 => ?_)
          obtain ⟨hr466, hFr466⟩ := hp469
          refine j_istore hC dL_law_1850 (Nat.le_of_ble_eq_true rfl) rfl ?_
          refine j_aload_n hC 3 dL_law_1852 rfl rfl ?_
          obtain ⟨M470, hy, h⟩ := zb1_ex h
          refine j_callVv (ci := 8) hC hE lk_L_261 dL_law_1853 (c_X11_restore l hlt g M467 S468 hFr466 hy) [] [] (zFx_kd hFr466 48 rfl) ⟨_, rfl, by decide, rfl⟩ rfl rfl rfl (zcat (Nat.le_of_ble_eq_true rfl)) (Nat.le_of_ble_eq_true rfl) (Nat.le_of_ble_eq_true rfl) (by omega) (by omega) (fun hp471 => ?_)
          refine j_aload_n hC 3 dL_law_1856 rfl rfl ?_
          obtain ⟨r472, hy, h⟩ := zb1_ex h
          refine j_callVi (ci := 8) hC hE lk_L_134 dL_law_1857 (c_X11_thrown l hlt g M470 S468 hFr466 hy) [] [] (zFx_kd hFr466 48 rfl) ⟨_, rfl, by decide, rfl⟩ rfl rfl rfl (zcat (Nat.le_of_ble_eq_true rfl)) (Nat.le_of_ble_eq_true rfl) (Nat.le_of_ble_eq_true rfl) (by omega) (by omega) (fun hp473 => ?_)
          have hr472 := hp473
          refine j_iload hC 0 dL_law_1860 rfl ?_
          refine j_icmp_eq hC dL_law_1862 rfl (w_id hr472) (w_id hr466) (fun c474 => ?_) (fun c474 => ?_)
          · have h := zt c474 h
            refine j_goto hC dL_law_1867 rfl ?_
            refine j_sub [1, 2, 3, 4, 5, 6] rfl ?_
            refine j_widen (k := (200 + 100 * tt + 100)) (n := (400000 + 2000 * tt + 2000)) (by omega) (by omega) ?_
            exact J_1870 v5 hv5 M470 S468 hFr466 tt htt _ h hT
          · have h := zf c474 h
            cases h
        intro v5 hv5 M S hF tt htt0 hl
        obtain ⟨o, h, hT⟩ := zloop_ex hl
        have h : F_L_law_B28 ln scr v5 M S = some o := by rw [ebd] at h; exact h
        unfold F_L_law_B28 at h
        refine j_iload hC 5 dL_law_28 rfl ?_
        refine j_sload_n hC 0 dL_law_30 rfl rfl ?_
        refine j_scln hC hXs hln hL dL_law_31 ?_
        refine j_iconst hC dL_law_32 ?_
        refine j_isub hC dL_law_33 ?_
        refine j_icmp_gt hC dL_law_34 rfl (w_id hv5) rfl (fun c475 => ?_) (fun c475 => ?_)
        · have h := zt c475 h
          obtain rfl := Option.some.inj h
          have hx28 := hd28
          rw [← show _ = ex28 from hT] at hx28
          refine j_sub [] rfl ?_
          refine j_widen (k := 60000) (n := 2000000) (by omega) (by omega) ?_
          exact J_1876 M S hF hx28
        · have h := zf c475 h
          refine j_sload_n hC 0 dL_law_37 rfl rfl ?_
          refine j_iload hC 5 dL_law_38 rfl ?_
          obtain ⟨c476, h⟩ := zchk_ex h
          refine j_scld hC hXs hln dL_law_40 (w_id hv5) c476.1 c476.2 ?_
          rw [← hscr]
          have htt : (v5 : Int) = 4 * (tt : Int) ∧ tt < 512 := ⟨htt0.1, by have := htt0.1; have := c476.2; omega⟩
          refine j_bipush hC dL_law_41 rfl ?_
          refine j_iand hC dL_law_43 ?_
          by_cases c477 : (zand (scr v5) 63) = 0
          · have h := zt c477 h
            refine j_tswIn hC 0 dL_law_44 (w_id (cR_zand _ _)) c477 (by decide) (by decide) rfl rfl ?_
            refine j_widen (k := (200 + 100 * tt + 0)) (n := (400000 + 2000 * tt + 0)) (by omega) (by omega) ?_
            exact J_212 v5 hv5 M S hF tt htt _ h hT
          have h := zf c477 h
          by_cases c478 : (zand (scr v5) 63) = 1
          · have h := zt c478 h
            refine j_tswIn hC 1 dL_law_44 (w_id (cR_zand _ _)) c478 (by decide) (by decide) rfl rfl ?_
            refine j_widen (k := (200 + 100 * tt + 0)) (n := (400000 + 2000 * tt + 0)) (by omega) (by omega) ?_
            exact J_250 v5 hv5 M S hF tt htt _ h hT
          have h := zf c478 h
          by_cases c479 : (zand (scr v5) 63) = 2
          · have h := zt c479 h
            refine j_tswIn hC 2 dL_law_44 (w_id (cR_zand _ _)) c479 (by decide) (by decide) rfl rfl ?_
            refine j_widen (k := (200 + 100 * tt + 0)) (n := (400000 + 2000 * tt + 0)) (by omega) (by omega) ?_
            exact J_294 v5 hv5 M S hF tt htt _ h hT
          have h := zf c479 h
          by_cases c480 : (zand (scr v5) 63) = 3
          · have h := zt c480 h
            refine j_tswIn hC 3 dL_law_44 (w_id (cR_zand _ _)) c480 (by decide) (by decide) rfl rfl ?_
            refine j_widen (k := (200 + 100 * tt + 0)) (n := (400000 + 2000 * tt + 0)) (by omega) (by omega) ?_
            exact J_307 v5 hv5 M S hF tt htt _ h hT
          have h := zf c480 h
          by_cases c481 : (zand (scr v5) 63) = 4
          · have h := zt c481 h
            refine j_tswIn hC 4 dL_law_44 (w_id (cR_zand _ _)) c481 (by decide) (by decide) rfl rfl ?_
            refine j_widen (k := (200 + 100 * tt + 0)) (n := (400000 + 2000 * tt + 0)) (by omega) (by omega) ?_
            exact J_343 v5 hv5 M S hF tt htt _ h hT
          have h := zf c481 h
          by_cases c482 : (zand (scr v5) 63) = 5
          · have h := zt c482 h
            refine j_tswIn hC 5 dL_law_44 (w_id (cR_zand _ _)) c482 (by decide) (by decide) rfl rfl ?_
            refine j_widen (k := (200 + 100 * tt + 0)) (n := (400000 + 2000 * tt + 0)) (by omega) (by omega) ?_
            exact J_379 v5 hv5 M S hF tt htt _ h hT
          have h := zf c482 h
          by_cases c483 : (zand (scr v5) 63) = 6
          · have h := zt c483 h
            refine j_tswIn hC 6 dL_law_44 (w_id (cR_zand _ _)) c483 (by decide) (by decide) rfl rfl ?_
            refine j_widen (k := (200 + 100 * tt + 0)) (n := (400000 + 2000 * tt + 0)) (by omega) (by omega) ?_
            exact J_435 v5 hv5 M S hF tt htt _ h hT
          have h := zf c483 h
          by_cases c484 : (zand (scr v5) 63) = 7
          · have h := zt c484 h
            refine j_tswIn hC 7 dL_law_44 (w_id (cR_zand _ _)) c484 (by decide) (by decide) rfl rfl ?_
            refine j_widen (k := (200 + 100 * tt + 0)) (n := (400000 + 2000 * tt + 0)) (by omega) (by omega) ?_
            exact J_479 v5 hv5 M S hF tt htt _ h hT
          have h := zf c484 h
          by_cases c485 : (zand (scr v5) 63) = 8
          · have h := zt c485 h
            refine j_tswIn hC 8 dL_law_44 (w_id (cR_zand _ _)) c485 (by decide) (by decide) rfl rfl ?_
            refine j_widen (k := (200 + 100 * tt + 0)) (n := (400000 + 2000 * tt + 0)) (by omega) (by omega) ?_
            exact J_535 v5 hv5 M S hF tt htt _ h hT
          have h := zf c485 h
          by_cases c486 : (zand (scr v5) 63) = 9
          · have h := zt c486 h
            refine j_tswIn hC 9 dL_law_44 (w_id (cR_zand _ _)) c486 (by decide) (by decide) rfl rfl ?_
            refine j_widen (k := (200 + 100 * tt + 0)) (n := (400000 + 2000 * tt + 0)) (by omega) (by omega) ?_
            exact J_612 v5 hv5 M S hF tt htt _ h hT
          have h := zf c486 h
          by_cases c487 : (zand (scr v5) 63) = 10
          · have h := zt c487 h
            refine j_tswIn hC 10 dL_law_44 (w_id (cR_zand _ _)) c487 (by decide) (by decide) rfl rfl ?_
            refine j_widen (k := (200 + 100 * tt + 0)) (n := (400000 + 2000 * tt + 0)) (by omega) (by omega) ?_
            exact J_675 v5 hv5 M S hF tt htt _ h hT
          have h := zf c487 h
          by_cases c488 : (zand (scr v5) 63) = 11
          · have h := zt c488 h
            refine j_tswIn hC 11 dL_law_44 (w_id (cR_zand _ _)) c488 (by decide) (by decide) rfl rfl ?_
            refine j_widen (k := (200 + 100 * tt + 0)) (n := (400000 + 2000 * tt + 0)) (by omega) (by omega) ?_
            exact J_738 v5 hv5 M S hF tt htt _ h hT
          have h := zf c488 h
          by_cases c489 : (zand (scr v5) 63) = 12
          · have h := zt c489 h
            refine j_tswIn hC 12 dL_law_44 (w_id (cR_zand _ _)) c489 (by decide) (by decide) rfl rfl ?_
            refine j_widen (k := (200 + 100 * tt + 0)) (n := (400000 + 2000 * tt + 0)) (by omega) (by omega) ?_
            exact J_782 v5 hv5 M S hF tt htt _ h hT
          have h := zf c489 h
          by_cases c490 : (zand (scr v5) 63) = 13
          · have h := zt c490 h
            refine j_tswIn hC 13 dL_law_44 (w_id (cR_zand _ _)) c490 (by decide) (by decide) rfl rfl ?_
            refine j_widen (k := (200 + 100 * tt + 0)) (n := (400000 + 2000 * tt + 0)) (by omega) (by omega) ?_
            exact J_857 v5 hv5 M S hF tt htt _ h hT
          have h := zf c490 h
          by_cases c491 : (zand (scr v5) 63) = 14
          · have h := zt c491 h
            refine j_tswIn hC 14 dL_law_44 (w_id (cR_zand _ _)) c491 (by decide) (by decide) rfl rfl ?_
            refine j_widen (k := (200 + 100 * tt + 0)) (n := (400000 + 2000 * tt + 0)) (by omega) (by omega) ?_
            exact J_913 v5 hv5 M S hF tt htt _ h hT
          have h := zf c491 h
          by_cases c492 : (zand (scr v5) 63) = 15
          · have h := zt c492 h
            refine j_tswIn hC 15 dL_law_44 (w_id (cR_zand _ _)) c492 (by decide) (by decide) rfl rfl ?_
            refine j_widen (k := (200 + 100 * tt + 0)) (n := (400000 + 2000 * tt + 0)) (by omega) (by omega) ?_
            exact J_964 v5 hv5 M S hF tt htt _ h hT
          have h := zf c492 h
          by_cases c493 : (zand (scr v5) 63) = 16
          · have h := zt c493 h
            refine j_tswIn hC 16 dL_law_44 (w_id (cR_zand _ _)) c493 (by decide) (by decide) rfl rfl ?_
            refine j_widen (k := (200 + 100 * tt + 0)) (n := (400000 + 2000 * tt + 0)) (by omega) (by omega) ?_
            exact J_975 v5 hv5 M S hF tt htt _ h hT
          have h := zf c493 h
          by_cases c494 : (zand (scr v5) 63) = 17
          · have h := zt c494 h
            refine j_tswIn hC 17 dL_law_44 (w_id (cR_zand _ _)) c494 (by decide) (by decide) rfl rfl ?_
            refine j_widen (k := (200 + 100 * tt + 0)) (n := (400000 + 2000 * tt + 0)) (by omega) (by omega) ?_
            exact J_1013 v5 hv5 M S hF tt htt _ h hT
          have h := zf c494 h
          by_cases c495 : (zand (scr v5) 63) = 18
          · have h := zt c495 h
            refine j_tswIn hC 18 dL_law_44 (w_id (cR_zand _ _)) c495 (by decide) (by decide) rfl rfl ?_
            refine j_widen (k := (200 + 100 * tt + 0)) (n := (400000 + 2000 * tt + 0)) (by omega) (by omega) ?_
            exact J_1049 v5 hv5 M S hF tt htt _ h hT
          have h := zf c495 h
          by_cases c496 : (zand (scr v5) 63) = 19
          · have h := zt c496 h
            refine j_tswIn hC 19 dL_law_44 (w_id (cR_zand _ _)) c496 (by decide) (by decide) rfl rfl ?_
            refine j_widen (k := (200 + 100 * tt + 0)) (n := (400000 + 2000 * tt + 0)) (by omega) (by omega) ?_
            exact J_1085 v5 hv5 M S hF tt htt _ h hT
          have h := zf c496 h
          by_cases c497 : (zand (scr v5) 63) = 20
          · have h := zt c497 h
            refine j_tswIn hC 20 dL_law_44 (w_id (cR_zand _ _)) c497 (by decide) (by decide) rfl rfl ?_
            refine j_widen (k := (200 + 100 * tt + 0)) (n := (400000 + 2000 * tt + 0)) (by omega) (by omega) ?_
            exact J_1098 v5 hv5 M S hF tt htt _ h hT
          have h := zf c497 h
          by_cases c498 : (zand (scr v5) 63) = 21
          · have h := zt c498 h
            refine j_tswIn hC 21 dL_law_44 (w_id (cR_zand _ _)) c498 (by decide) (by decide) rfl rfl ?_
            refine j_widen (k := (200 + 100 * tt + 0)) (n := (400000 + 2000 * tt + 0)) (by omega) (by omega) ?_
            exact J_1154 v5 hv5 M S hF tt htt _ h hT
          have h := zf c498 h
          by_cases c499 : (zand (scr v5) 63) = 22
          · have h := zt c499 h
            refine j_tswIn hC 22 dL_law_44 (w_id (cR_zand _ _)) c499 (by decide) (by decide) rfl rfl ?_
            refine j_widen (k := (200 + 100 * tt + 0)) (n := (400000 + 2000 * tt + 0)) (by omega) (by omega) ?_
            exact J_1205 v5 hv5 M S hF tt htt _ h hT
          have h := zf c499 h
          by_cases c500 : (zand (scr v5) 63) = 23
          · have h := zt c500 h
            refine j_tswIn hC 23 dL_law_44 (w_id (cR_zand _ _)) c500 (by decide) (by decide) rfl rfl ?_
            refine j_widen (k := (200 + 100 * tt + 0)) (n := (400000 + 2000 * tt + 0)) (by omega) (by omega) ?_
            exact J_1249 v5 hv5 M S hF tt htt _ h hT
          have h := zf c500 h
          by_cases c501 : (zand (scr v5) 63) = 24
          · have h := zt c501 h
            refine j_tswIn hC 24 dL_law_44 (w_id (cR_zand _ _)) c501 (by decide) (by decide) rfl rfl ?_
            refine j_widen (k := (200 + 100 * tt + 0)) (n := (400000 + 2000 * tt + 0)) (by omega) (by omega) ?_
            exact J_1293 v5 hv5 M S hF tt htt _ h hT
          have h := zf c501 h
          by_cases c502 : (zand (scr v5) 63) = 25
          · have h := zt c502 h
            refine j_tswIn hC 25 dL_law_44 (w_id (cR_zand _ _)) c502 (by decide) (by decide) rfl rfl ?_
            refine j_widen (k := (200 + 100 * tt + 0)) (n := (400000 + 2000 * tt + 0)) (by omega) (by omega) ?_
            exact J_1361 v5 hv5 M S hF tt htt _ h hT
          have h := zf c502 h
          by_cases c503 : (zand (scr v5) 63) = 26
          · have h := zt c503 h
            refine j_tswIn hC 26 dL_law_44 (w_id (cR_zand _ _)) c503 (by decide) (by decide) rfl rfl ?_
            refine j_widen (k := (200 + 100 * tt + 0)) (n := (400000 + 2000 * tt + 0)) (by omega) (by omega) ?_
            exact J_1404 v5 hv5 M S hF tt htt _ h hT
          have h := zf c503 h
          by_cases c504 : (zand (scr v5) 63) = 27
          · have h := zt c504 h
            refine j_tswIn hC 27 dL_law_44 (w_id (cR_zand _ _)) c504 (by decide) (by decide) rfl rfl ?_
            refine j_widen (k := (200 + 100 * tt + 0)) (n := (400000 + 2000 * tt + 0)) (by omega) (by omega) ?_
            exact J_1417 v5 hv5 M S hF tt htt _ h hT
          have h := zf c504 h
          by_cases c505 : (zand (scr v5) 63) = 28
          · have h := zt c505 h
            refine j_tswIn hC 28 dL_law_44 (w_id (cR_zand _ _)) c505 (by decide) (by decide) rfl rfl ?_
            refine j_widen (k := (200 + 100 * tt + 0)) (n := (400000 + 2000 * tt + 0)) (by omega) (by omega) ?_
            exact J_1473 v5 hv5 M S hF tt htt _ h hT
          have h := zf c505 h
          by_cases c506 : (zand (scr v5) 63) = 29
          · have h := zt c506 h
            refine j_tswIn hC 29 dL_law_44 (w_id (cR_zand _ _)) c506 (by decide) (by decide) rfl rfl ?_
            refine j_widen (k := (200 + 100 * tt + 0)) (n := (400000 + 2000 * tt + 0)) (by omega) (by omega) ?_
            exact J_1486 v5 hv5 M S hF tt htt _ h hT
          have h := zf c506 h
          by_cases c507 : (zand (scr v5) 63) = 30
          · have h := zt c507 h
            refine j_tswIn hC 30 dL_law_44 (w_id (cR_zand _ _)) c507 (by decide) (by decide) rfl rfl ?_
            refine j_widen (k := (200 + 100 * tt + 0)) (n := (400000 + 2000 * tt + 0)) (by omega) (by omega) ?_
            exact J_1542 v5 hv5 M S hF tt htt _ h hT
          have h := zf c507 h
          by_cases c508 : (zand (scr v5) 63) = 31
          · have h := zt c508 h
            refine j_tswIn hC 31 dL_law_44 (w_id (cR_zand _ _)) c508 (by decide) (by decide) rfl rfl ?_
            refine j_widen (k := (200 + 100 * tt + 0)) (n := (400000 + 2000 * tt + 0)) (by omega) (by omega) ?_
            exact J_1555 v5 hv5 M S hF tt htt _ h hT
          have h := zf c508 h
          by_cases c509 : (zand (scr v5) 63) = 32
          · have h := zt c509 h
            refine j_tswIn hC 32 dL_law_44 (w_id (cR_zand _ _)) c509 (by decide) (by decide) rfl rfl ?_
            refine j_widen (k := (200 + 100 * tt + 0)) (n := (400000 + 2000 * tt + 0)) (by omega) (by omega) ?_
            exact J_1591 v5 hv5 M S hF tt htt _ h hT
          have h := zf c509 h
          by_cases c510 : (zand (scr v5) 63) = 33
          · have h := zt c510 h
            refine j_tswIn hC 33 dL_law_44 (w_id (cR_zand _ _)) c510 (by decide) (by decide) rfl rfl ?_
            refine j_widen (k := (200 + 100 * tt + 0)) (n := (400000 + 2000 * tt + 0)) (by omega) (by omega) ?_
            exact J_1651 v5 hv5 M S hF tt htt _ h hT
          have h := zf c510 h
          by_cases c511 : (zand (scr v5) 63) = 34
          · have h := zt c511 h
            refine j_tswIn hC 34 dL_law_44 (w_id (cR_zand _ _)) c511 (by decide) (by decide) rfl rfl ?_
            refine j_widen (k := (200 + 100 * tt + 0)) (n := (400000 + 2000 * tt + 0)) (by omega) (by omega) ?_
            exact J_1711 v5 hv5 M S hF tt htt _ h hT
          have h := zf c511 h
          by_cases c512 : (zand (scr v5) 63) = 35
          · have h := zt c512 h
            refine j_tswIn hC 35 dL_law_44 (w_id (cR_zand _ _)) c512 (by decide) (by decide) rfl rfl ?_
            refine j_widen (k := (200 + 100 * tt + 0)) (n := (400000 + 2000 * tt + 0)) (by omega) (by omega) ?_
            exact J_1779 v5 hv5 M S hF tt htt _ h hT
          have h := zf c512 h
          by_cases c513 : (zand (scr v5) 63) = 36
          · have h := zt c513 h
            refine j_tswIn hC 36 dL_law_44 (w_id (cR_zand _ _)) c513 (by decide) (by decide) rfl rfl ?_
            refine j_widen (k := (200 + 100 * tt + 0)) (n := (400000 + 2000 * tt + 0)) (by omega) (by omega) ?_
            exact J_1835 v5 hv5 M S hF tt htt _ h hT
          have h := zf c513 h
          by_cases c514 : (zand (scr v5) 63) = 37
          · have h := zt c514 h
            refine j_tswIn hC 37 dL_law_44 (w_id (cR_zand _ _)) c514 (by decide) (by decide) rfl rfl ?_
            refine j_widen (k := (200 + 100 * tt + 0)) (n := (400000 + 2000 * tt + 0)) (by omega) (by omega) ?_
            exact J_1846 v5 hv5 M S hF tt htt _ h hT
          have h := zf c514 h
          refine j_tswOut hC dL_law_44 (w_id (cR_zand _ _)) (by omega) rfl ?_
          refine j_widen (k := (200 + 100 * tt + 100)) (n := (400000 + 2000 * tt + 2000)) (by omega) (by omega) ?_
          exact J_1870 v5 hv5 M S hF tt htt _ h hT
    exact main zN v5 hv5 M S hF 0 ⟨hv50, by omega⟩ hl
  obtain ⟨c515, h⟩ := zchk_ex h
  obtain ⟨S516, eS516, h⟩ := zlet_ex h
  refine j_new hC hE n_L_8 pF_X10 dL_law_0 c515.symm eS516 (Nat.le_of_ble_eq_true rfl) (Nat.le_of_ble_eq_true rfl) ?_
  refine j_dup hC dL_law_3 (zr_cat _ _) ?_
  obtain ⟨M517, S518, hy, h⟩ := zb2_ex h
  refine j_callIv hC hE lk_L_124 dL_law_4 (c_X10_init l hlt g 1 M S516 hy) [] [zr g 1] (by decide) rfl rfl rfl (zcat (Nat.le_of_ble_eq_true rfl)) (Nat.le_of_ble_eq_true rfl) (Nat.le_of_ble_eq_true rfl) (by omega) (by omega) (fun hp519 => ?_)
  refine j_astore_n (lv1 := [(1, zr g 1), (0, .ref bb)]) hC dL_law_7 rfl (Nat.le_of_ble_eq_true rfl) (by simp only [List.filter_cons, List.filter_nil, zr_cat]; rfl) ?_
  obtain ⟨c520, h⟩ := zchk_ex h
  obtain ⟨S521, eS521, h⟩ := zlet_ex h
  refine j_new hC hE n_L_125 pF_X11 dL_law_8 c520.symm eS521 (Nat.le_of_ble_eq_true rfl) (Nat.le_of_ble_eq_true rfl) ?_
  refine j_dup hC dL_law_11 (zr_cat _ _) ?_
  obtain ⟨M522, S523, hy, h⟩ := zb2_ex h
  refine j_callIv hC hE lk_L_127 dL_law_12 (c_X11_init l hlt g 48 M517 S521 hy) [] [zr g 48] (by decide) rfl rfl rfl (zcat (Nat.le_of_ble_eq_true rfl)) (Nat.le_of_ble_eq_true rfl) (Nat.le_of_ble_eq_true rfl) (by omega) (by omega) (fun hp524 => ?_)
  refine j_astore_n (lv1 := [(2, zr g 48), (1, zr g 1), (0, .ref bb)]) hC dL_law_15 rfl (Nat.le_of_ble_eq_true rfl) (by simp only [List.filter_cons, List.filter_nil, zr_cat]; rfl) ?_
  refine j_iconst hC dL_law_16 ?_
  obtain ⟨c525, h⟩ := zchk_ex h
  obtain ⟨S526, eS526, h⟩ := zlet_ex h
  refine j_newa21 (N := 1) (mx := 1) hC hE ka_21 dL_law_17 (w_id kR_1) rfl (Nat.le_of_ble_eq_true rfl) (Nat.le_of_ble_eq_true rfl) c525.symm eS526 (Nat.le_of_ble_eq_true rfl) (Nat.le_of_ble_eq_true rfl) ?_
  refine j_astore_n (lv1 := [(3, zr g 76), (2, zr g 48), (1, zr g 1), (0, .ref bb)]) hC dL_law_19 rfl (Nat.le_of_ble_eq_true rfl) (by simp only [List.filter_cons, List.filter_nil, zr_cat]; rfl) ?_
  refine j_iconst hC dL_law_20 ?_
  obtain ⟨c527, h⟩ := zchk_ex h
  obtain ⟨S528, eS528, h⟩ := zlet_ex h
  refine j_newa24 (N := 1) (mx := 1) hC hE ka_24 dL_law_21 (w_id kR_1) rfl (Nat.le_of_ble_eq_true rfl) (Nat.le_of_ble_eq_true rfl) c527.symm eS528 (Nat.le_of_ble_eq_true rfl) (Nat.le_of_ble_eq_true rfl) ?_
  refine j_astore (lv1 := [(4, zr g 77), (3, zr g 76), (2, zr g 48), (1, zr g 1), (0, .ref bb)]) hC dL_law_23 (Nat.le_of_ble_eq_true rfl) (by simp only [List.filter_cons, List.filter_nil, zr_cat]; rfl) ?_
  refine j_iconst hC dL_law_25 ?_
  refine j_istore (lv1 := [(5, .int (zi 0)), (4, zr g 77), (3, zr g 76), (2, zr g 48), (1, zr g 1), (0, .ref bb)]) hC dL_law_26 (Nat.le_of_ble_eq_true rfl) (by simp only [List.filter_cons, List.filter_nil, zr_cat]; rfl) ?_
  obtain ⟨c529, h⟩ := zchkP_ex h
  refine j_sub [5, 4, 3, 2, 1, 0] rfl ?_
  refine j_widen (k := 200) (n := 400000) (by omega) (by omega) ?_
  exact L_28 0 kR_0 M522 S528 c529 rfl h
