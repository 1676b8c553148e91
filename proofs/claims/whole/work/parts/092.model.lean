/-! CERTIFICATES: a program has written them (wip/whole/gen5.py) -/
set_option maxHeartbeats 4000000 in
set_option maxRecDepth 100000 in
theorem c_X11_init (l : Launch) (hlt : l.stackTraces = false) (g : zG) (v0 : Nat) (M : zM) (S : zS) {M' : zM} {S' : zS} (h : F_X11_init v0 M S = some (M', S')) : zMet l g yX11_init cX11_init 1 none 2 27 179142 [zr g v0] M S (.inl none) M' S' (True) := by
  refine zMet_of (by decide) hlt [(0, zr g v0)] (by simp only [lv_args, zr_cat, zc_i, zc_l, zc_d, zc_r] <;> rfl) (by rw [zsl_len]; simp only [List.map_cons, List.map_nil, zr_cat, zc_i, zc_l, zc_d, zc_r, List.sum_cons, List.sum_nil] <;> decide) (fun K hC hE hN => ?_)
  unfold F_X11_init at h
  refine j_aload_n hC 0 dX11_init_0 rfl rfl ?_
  obtain ⟨c1, h⟩ := zchk_ex h
  refine j_objI hC hE dX11_init_1 k1289 k121 k122 c1 (Nat.le_of_ble_eq_true rfl) (Nat.le_of_ble_eq_true rfl) ?_
  refine j_aload_n hC 0 dX11_init_4 rfl rfl ?_
  refine j_bipush hC dX11_init_5 rfl ?_
  obtain ⟨q2, eq2, h⟩ := zlet_ex h
  obtain ⟨S3, eS3, h⟩ := zlet_ex h
  refine j_newa20 (N := 6) (mx := 6) hC hE ka_20 dX11_init_7 (w_id kR_6) rfl (Nat.le_of_ble_eq_true rfl) (Nat.le_of_ble_eq_true rfl) eq2 eS3 (Nat.le_of_ble_eq_true rfl) (Nat.le_of_ble_eq_true rfl) ?_
  obtain ⟨hk, h⟩ := zchk_ex h
  have hk4 := hk
  obtain ⟨S5, eS5, h⟩ := zlet_ex h
  refine j_putq hC hE dX11_init_9 f_X11_7 pF_X11 hk4 rfl rfl rfl 1 rfl eS5 ?_
  refine j_aload_n hC 0 dX11_init_12 rfl rfl ?_
  refine j_iconst hC dX11_init_13 ?_
  obtain ⟨q6, eq6, h⟩ := zlet_ex h
  obtain ⟨S7, eS7, h⟩ := zlet_ex h
  refine j_newa20 (N := 5) (mx := 5) hC hE ka_20 dX11_init_14 (w_id kR_5) rfl (Nat.le_of_ble_eq_true rfl) (Nat.le_of_ble_eq_true rfl) eq6 eS7 (Nat.le_of_ble_eq_true rfl) (Nat.le_of_ble_eq_true rfl) ?_
  obtain ⟨hk, h⟩ := zchk_ex h
  have hk8 := hk
  obtain ⟨S9, eS9, h⟩ := zlet_ex h
  refine j_putq hC hE dX11_init_16 f_X11_13 pF_X11 hk8 rfl rfl rfl 3 rfl eS9 ?_
  refine j_aload_n hC 0 dX11_init_19 rfl rfl ?_
  refine j_iconst hC dX11_init_20 ?_
  obtain ⟨q10, eq10, h⟩ := zlet_ex h
  obtain ⟨S11, eS11, h⟩ := zlet_ex h
  refine j_newa20 (N := 5) (mx := 5) hC hE ka_20 dX11_init_21 (w_id kR_5) rfl (Nat.le_of_ble_eq_true rfl) (Nat.le_of_ble_eq_true rfl) eq10 eS11 (Nat.le_of_ble_eq_true rfl) (Nat.le_of_ble_eq_true rfl) ?_
  obtain ⟨hk, h⟩ := zchk_ex h
  have hk12 := hk
  obtain ⟨S13, eS13, h⟩ := zlet_ex h
  refine j_putq hC hE dX11_init_23 f_X11_16 pF_X11 hk12 rfl rfl rfl 4 rfl eS13 ?_
  refine j_aload_n hC 0 dX11_init_26 rfl rfl ?_
  refine j_sipush hC dX11_init_27 rfl ?_
  obtain ⟨q14, eq14, h⟩ := zlet_ex h
  obtain ⟨S15, eS15, h⟩ := zlet_ex h
  refine j_newa20 (N := 300) (mx := 300) hC hE ka_20 dX11_init_30 (w_id kR_300) rfl (Nat.le_of_ble_eq_true rfl) (Nat.le_of_ble_eq_true rfl) eq14 eS15 (Nat.le_of_ble_eq_true rfl) (Nat.le_of_ble_eq_true rfl) ?_
  obtain ⟨hk, h⟩ := zchk_ex h
  have hk16 := hk
  obtain ⟨S17, eS17, h⟩ := zlet_ex h
  refine j_putq hC hE dX11_init_32 f_X11_19 pF_X11 hk16 rfl rfl rfl 5 rfl eS17 ?_
  refine j_aload_n hC 0 dX11_init_35 rfl rfl ?_
  refine j_iconst hC dX11_init_36 ?_
  obtain ⟨q18, eq18, h⟩ := zlet_ex h
  obtain ⟨S19, eS19, h⟩ := zlet_ex h
  refine j_newa20 (N := 5) (mx := 5) hC hE ka_20 dX11_init_37 (w_id kR_5) rfl (Nat.le_of_ble_eq_true rfl) (Nat.le_of_ble_eq_true rfl) eq18 eS19 (Nat.le_of_ble_eq_true rfl) (Nat.le_of_ble_eq_true rfl) ?_
  obtain ⟨hk, h⟩ := zchk_ex h
  have hk20 := hk
  obtain ⟨S21, eS21, h⟩ := zlet_ex h
  refine j_putq hC hE dX11_init_39 f_X11_22 pF_X11 hk20 rfl rfl rfl 6 rfl eS21 ?_
  refine j_aload_n hC 0 dX11_init_42 rfl rfl ?_
  refine j_iconst hC dX11_init_43 ?_
  obtain ⟨hk, h⟩ := zchk_ex h
  have hk22 := hk
  obtain ⟨M23, eM23, h⟩ := zlet_ex h
  refine j_put hC dX11_init_44 f_X11_25 pF_X11 hk22 (Or.inl rfl) rfl 8 rfl (w_id kR_1) kR_1 eM23 ?_
  refine j_aload_n hC 0 dX11_init_47 rfl rfl ?_
  refine j_bipush hC dX11_init_48 rfl ?_
  obtain ⟨hk, h⟩ := zchk_ex h
  have hk24 := hk
  obtain ⟨M25, eM25, h⟩ := zlet_ex h
  refine j_put hC dX11_init_50 f_X11_29 pF_X11 hk24 (Or.inl rfl) rfl 9 rfl (w_id kR_6) kR_6 eM25 ?_
  refine j_aload_n hC 0 dX11_init_53 rfl rfl ?_
  refine j_bipush hC dX11_init_54 rfl ?_
  obtain ⟨q26, eq26, h⟩ := zlet_ex h
  obtain ⟨S27, eS27, h⟩ := zlet_ex h
  refine j_newa23 (N := 60) (mx := 60) hC hE ka_23 dX11_init_56 (w_id kR_60) rfl (Nat.le_of_ble_eq_true rfl) (Nat.le_of_ble_eq_true rfl) eq26 eS27 (Nat.le_of_ble_eq_true rfl) (Nat.le_of_ble_eq_true rfl) ?_
  obtain ⟨hk, h⟩ := zchk_ex h
  have hk28 := hk
  obtain ⟨S29, eS29, h⟩ := zlet_ex h
  refine j_putq hC hE dX11_init_58 f_X11_32 pF_X11 hk28 rfl rfl rfl 10 rfl eS29 ?_
  refine j_aload_n hC 0 dX11_init_61 rfl rfl ?_
  refine j_iconst hC dX11_init_62 ?_
  obtain ⟨hk, h⟩ := zchk_ex h
  have hk30 := hk
  obtain ⟨M31, eM31, h⟩ := zlet_ex h
  refine j_put hC dX11_init_63 f_X11_36 pF_X11 hk30 (Or.inl rfl) rfl 14 rfl (w_id kR_m1) kR_m1 eM31 ?_
  refine j_aload_n hC 0 dX11_init_66 rfl rfl ?_
  refine j_bipush hC dX11_init_67 rfl ?_
  obtain ⟨q32, eq32, h⟩ := zlet_ex h
  obtain ⟨S33, eS33, h⟩ := zlet_ex h
  refine j_newa20 (N := 60) (mx := 60) hC hE ka_20 dX11_init_69 (w_id kR_60) rfl (Nat.le_of_ble_eq_true rfl) (Nat.le_of_ble_eq_true rfl) eq32 eS33 (Nat.le_of_ble_eq_true rfl) (Nat.le_of_ble_eq_true rfl) ?_
  obtain ⟨hk, h⟩ := zchk_ex h
  have hk34 := hk
  obtain ⟨S35, eS35, h⟩ := zlet_ex h
  refine j_putq hC hE dX11_init_71 f_X11_39 pF_X11 hk34 rfl rfl rfl 16 rfl eS35 ?_
  refine j_aload_n hC 0 dX11_init_74 rfl rfl ?_
  refine j_bipush hC dX11_init_75 rfl ?_
  obtain ⟨q36, eq36, h⟩ := zlet_ex h
  obtain ⟨S37, eS37, h⟩ := zlet_ex h
  refine j_newa22 (N := 60) (mx := 60) hC hE ka_22 dX11_init_77 (w_id kR_60) rfl (Nat.le_of_ble_eq_true rfl) (Nat.le_of_ble_eq_true rfl) eq36 eS37 (Nat.le_of_ble_eq_true rfl) (Nat.le_of_ble_eq_true rfl) ?_
  obtain ⟨hk, h⟩ := zchk_ex h
  have hk38 := hk
  obtain ⟨S39, eS39, h⟩ := zlet_ex h
  refine j_putq hC hE dX11_init_79 f_X11_42 pF_X11 hk38 rfl rfl rfl 18 rfl eS39 ?_
  refine j_aload_n hC 0 dX11_init_82 rfl rfl ?_
  refine j_bipush hC dX11_init_83 rfl ?_
  obtain ⟨q40, eq40, h⟩ := zlet_ex h
  obtain ⟨S41, eS41, h⟩ := zlet_ex h
  refine j_newa22 (N := 100) (mx := 100) hC hE ka_22 dX11_init_85 (w_id kR_100) rfl (Nat.le_of_ble_eq_true rfl) (Nat.le_of_ble_eq_true rfl) eq40 eS41 (Nat.le_of_ble_eq_true rfl) (Nat.le_of_ble_eq_true rfl) ?_
  obtain ⟨hk, h⟩ := zchk_ex h
  have hk42 := hk
  obtain ⟨S43, eS43, h⟩ := zlet_ex h
  refine j_putq hC hE dX11_init_87 f_X11_46 pF_X11 hk42 rfl rfl rfl 19 rfl eS43 ?_
  refine j_aload_n hC 0 dX11_init_90 rfl rfl ?_
  refine j_sipush hC dX11_init_91 rfl ?_
  obtain ⟨q44, eq44, h⟩ := zlet_ex h
  obtain ⟨S45, eS45, h⟩ := zlet_ex h
  refine j_newa22 (N := 29524) (mx := 29524) hC hE ka_22 dX11_init_94 (w_id kR_29524) rfl (Nat.le_of_ble_eq_true rfl) (Nat.le_of_ble_eq_true rfl) eq44 eS45 (Nat.le_of_ble_eq_true rfl) (Nat.le_of_ble_eq_true rfl) ?_
  obtain ⟨hk, h⟩ := zchk_ex h
  have hk46 := hk
  obtain ⟨S47, eS47, h⟩ := zlet_ex h
  refine j_putq hC hE dX11_init_96 f_X11_49 pF_X11 hk46 rfl rfl rfl 22 rfl eS47 ?_
  refine j_aload_n hC 0 dX11_init_99 rfl rfl ?_
  refine j_sipush hC dX11_init_100 rfl ?_
  obtain ⟨q48, eq48, h⟩ := zlet_ex h
  obtain ⟨S49, eS49, h⟩ := zlet_ex h
  refine j_newa20 (N := 29524) (mx := 29524) hC hE ka_20 dX11_init_103 (w_id kR_29524) rfl (Nat.le_of_ble_eq_true rfl) (Nat.le_of_ble_eq_true rfl) eq48 eS49 (Nat.le_of_ble_eq_true rfl) (Nat.le_of_ble_eq_true rfl) ?_
  obtain ⟨hk, h⟩ := zchk_ex h
  have hk50 := hk
  obtain ⟨S51, eS51, h⟩ := zlet_ex h
  refine j_putq hC hE dX11_init_105 f_X11_52 pF_X11 hk50 rfl rfl rfl 24 rfl eS51 ?_
  refine j_aload_n hC 0 dX11_init_108 rfl rfl ?_
  refine j_iconst hC dX11_init_109 ?_
  obtain ⟨q52, eq52, h⟩ := zlet_ex h
  obtain ⟨S53, eS53, h⟩ := zlet_ex h
  refine j_newa20 (N := 5) (mx := 5) hC hE ka_20 dX11_init_110 (w_id kR_5) rfl (Nat.le_of_ble_eq_true rfl) (Nat.le_of_ble_eq_true rfl) eq52 eS53 (Nat.le_of_ble_eq_true rfl) (Nat.le_of_ble_eq_true rfl) ?_
  obtain ⟨hk, h⟩ := zchk_ex h
  have hk54 := hk
  obtain ⟨S55, eS55, h⟩ := zlet_ex h
  refine j_putq hC hE dX11_init_112 f_X11_55 pF_X11 hk54 rfl rfl rfl 25 rfl eS55 ?_
  refine j_aload_n hC 0 dX11_init_115 rfl rfl ?_
  refine j_sipush hC dX11_init_116 rfl ?_
  obtain ⟨q56, eq56, h⟩ := zlet_ex h
  obtain ⟨S57, eS57, h⟩ := zlet_ex h
  refine j_newa22 (N := 29524) (mx := 29524) hC hE ka_22 dX11_init_119 (w_id kR_29524) rfl (Nat.le_of_ble_eq_true rfl) (Nat.le_of_ble_eq_true rfl) eq56 eS57 (Nat.le_of_ble_eq_true rfl) (Nat.le_of_ble_eq_true rfl) ?_
  obtain ⟨hk, h⟩ := zchk_ex h
  have hk58 := hk
  obtain ⟨S59, eS59, h⟩ := zlet_ex h
  refine j_putq hC hE dX11_init_121 f_X11_58 pF_X11 hk58 rfl rfl rfl 27 rfl eS59 ?_
  refine j_aload_n hC 0 dX11_init_124 rfl rfl ?_
  refine j_sipush hC dX11_init_125 rfl ?_
  obtain ⟨q60, eq60, h⟩ := zlet_ex h
  obtain ⟨S61, eS61, h⟩ := zlet_ex h
  refine j_newa20 (N := 29524) (mx := 29524) hC hE ka_20 dX11_init_128 (w_id kR_29524) rfl (Nat.le_of_ble_eq_true rfl) (Nat.le_of_ble_eq_true rfl) eq60 eS61 (Nat.le_of_ble_eq_true rfl) (Nat.le_of_ble_eq_true rfl) ?_
  obtain ⟨hk, h⟩ := zchk_ex h
  have hk62 := hk
  obtain ⟨S63, eS63, h⟩ := zlet_ex h
  refine j_putq hC hE dX11_init_130 f_X11_61 pF_X11 hk62 rfl rfl rfl 28 rfl eS63 ?_
  refine j_aload_n hC 0 dX11_init_133 rfl rfl ?_
  refine j_sipush hC dX11_init_134 rfl ?_
  obtain ⟨q64, eq64, h⟩ := zlet_ex h
  obtain ⟨S65, eS65, h⟩ := zlet_ex h
  refine j_newa20 (N := 29524) (mx := 29524) hC hE ka_20 dX11_init_137 (w_id kR_29524) rfl (Nat.le_of_ble_eq_true rfl) (Nat.le_of_ble_eq_true rfl) eq64 eS65 (Nat.le_of_ble_eq_true rfl) (Nat.le_of_ble_eq_true rfl) ?_
  obtain ⟨hk, h⟩ := zchk_ex h
  have hk66 := hk
  obtain ⟨S67, eS67, h⟩ := zlet_ex h
  refine j_putq hC hE dX11_init_139 f_X11_64 pF_X11 hk66 rfl rfl rfl 30 rfl eS67 ?_
  refine j_aload_n hC 0 dX11_init_142 rfl rfl ?_
  refine j_sipush hC dX11_init_143 rfl ?_
  obtain ⟨q68, eq68, h⟩ := zlet_ex h
  obtain ⟨S69, eS69, h⟩ := zlet_ex h
  refine j_newa21 (N := 29524) (mx := 29524) hC hE ka_21 dX11_init_146 (w_id kR_29524) rfl (Nat.le_of_ble_eq_true rfl) (Nat.le_of_ble_eq_true rfl) eq68 eS69 (Nat.le_of_ble_eq_true rfl) (Nat.le_of_ble_eq_true rfl) ?_
  obtain ⟨hk, h⟩ := zchk_ex h
  have hk70 := hk
  obtain ⟨S71, eS71, h⟩ := zlet_ex h
  refine j_putq hC hE dX11_init_148 f_X11_67 pF_X11 hk70 rfl rfl rfl 31 rfl eS71 ?_
  refine j_aload_n hC 0 dX11_init_151 rfl rfl ?_
  refine j_sipush hC dX11_init_152 rfl ?_
  obtain ⟨q72, eq72, h⟩ := zlet_ex h
  obtain ⟨S73, eS73, h⟩ := zlet_ex h
  refine j_newa20 (N := 500) (mx := 500) hC hE ka_20 dX11_init_155 (w_id kR_500) rfl (Nat.le_of_ble_eq_true rfl) (Nat.le_of_ble_eq_true rfl) eq72 eS73 (Nat.le_of_ble_eq_true rfl) (Nat.le_of_ble_eq_true rfl) ?_
  obtain ⟨hk, h⟩ := zchk_ex h
  have hk74 := hk
  obtain ⟨S75, eS75, h⟩ := zlet_ex h
  refine j_putq hC hE dX11_init_157 f_X11_71 pF_X11 hk74 rfl rfl rfl 32 rfl eS75 ?_
  refine j_aload_n hC 0 dX11_init_160 rfl rfl ?_
  refine j_sipush hC dX11_init_161 rfl ?_
  obtain ⟨q76, eq76, h⟩ := zlet_ex h
  obtain ⟨S77, eS77, h⟩ := zlet_ex h
  refine j_newa20 (N := 500) (mx := 500) hC hE ka_20 dX11_init_164 (w_id kR_500) rfl (Nat.le_of_ble_eq_true rfl) (Nat.le_of_ble_eq_true rfl) eq76 eS77 (Nat.le_of_ble_eq_true rfl) (Nat.le_of_ble_eq_true rfl) ?_
  obtain ⟨hk, h⟩ := zchk_ex h
  have hk78 := hk
  obtain ⟨S79, eS79, h⟩ := zlet_ex h
  refine j_putq hC hE dX11_init_166 f_X11_74 pF_X11 hk78 rfl rfl rfl 33 rfl eS79 ?_
  refine j_aload_n hC 0 dX11_init_169 rfl rfl ?_
  refine j_iconst hC dX11_init_170 ?_
  obtain ⟨q80, eq80, h⟩ := zlet_ex h
  obtain ⟨S81, eS81, h⟩ := zlet_ex h
  refine j_newa20 (N := 3) (mx := 3) hC hE ka_20 dX11_init_171 (w_id kR_3) rfl (Nat.le_of_ble_eq_true rfl) (Nat.le_of_ble_eq_true rfl) eq80 eS81 (Nat.le_of_ble_eq_true rfl) (Nat.le_of_ble_eq_true rfl) ?_
  refine j_dup hC dX11_init_173 (zr_cat _ _) ?_
  refine j_iconst hC dX11_init_174 ?_
  refine j_iconst hC dX11_init_175 ?_
  obtain ⟨hk, h⟩ := zchk_ex h
  have hk82 := hk
  obtain ⟨c83, h⟩ := zchk_ex h
  obtain ⟨M84, eM84, h⟩ := zlet_ex h
  refine j_iast (n := (zlen S81 q80)) hC dX11_init_176 (w_id kR_0) (w_id kR_m1) kR_m1 hk82 rfl c83.1 c83.2 eM84 ?_
  refine j_dup hC dX11_init_177 (zr_cat _ _) ?_
  refine j_iconst hC dX11_init_178 ?_
  refine j_iconst hC dX11_init_179 ?_
  obtain ⟨hk, h⟩ := zchk_ex h
  have hk85 := hk
  obtain ⟨c86, h⟩ := zchk_ex h
  obtain ⟨M87, eM87, h⟩ := zlet_ex h
  refine j_iast (n := (zlen S81 q80)) hC dX11_init_180 (w_id kR_1) (w_id kR_m1) kR_m1 hk85 rfl c86.1 c86.2 eM87 ?_
  refine j_dup hC dX11_init_181 (zr_cat _ _) ?_
  refine j_iconst hC dX11_init_182 ?_
  refine j_iconst hC dX11_init_183 ?_
  obtain ⟨hk, h⟩ := zchk_ex h
  have hk88 := hk
  obtain ⟨c89, h⟩ := zchk_ex h
  obtain ⟨M90, eM90, h⟩ := zlet_ex h
  refine j_iast (n := (zlen S81 q80)) hC dX11_init_184 (w_id kR_2) (w_id kR_m1) kR_m1 hk88 rfl c89.1 c89.2 eM90 ?_
  obtain ⟨hk, h⟩ := zchk_ex h
  have hk91 := hk
  obtain ⟨S92, eS92, h⟩ := zlet_ex h
  refine j_putq hC hE dX11_init_185 f_X11_77 pF_X11 hk91 rfl rfl rfl 34 rfl eS92 ?_
  refine j_aload_n hC 0 dX11_init_188 rfl rfl ?_
  refine j_iconst hC dX11_init_189 ?_
  obtain ⟨q93, eq93, h⟩ := zlet_ex h
  obtain ⟨S94, eS94, h⟩ := zlet_ex h
  refine j_newa20 (N := 3) (mx := 3) hC hE ka_20 dX11_init_190 (w_id kR_3) rfl (Nat.le_of_ble_eq_true rfl) (Nat.le_of_ble_eq_true rfl) eq93 eS94 (Nat.le_of_ble_eq_true rfl) (Nat.le_of_ble_eq_true rfl) ?_
  obtain ⟨hk, h⟩ := zchk_ex h
  have hk95 := hk
  obtain ⟨S96, eS96, h⟩ := zlet_ex h
  refine j_putq hC hE dX11_init_192 f_X11_80 pF_X11 hk95 rfl rfl rfl 35 rfl eS96 ?_
  refine j_aload_n hC 0 dX11_init_195 rfl rfl ?_
  refine j_bipush hC dX11_init_196 rfl ?_
  obtain ⟨q97, eq97, h⟩ := zlet_ex h
  obtain ⟨S98, eS98, h⟩ := zlet_ex h
  refine j_newa20 (N := 60) (mx := 60) hC hE ka_20 dX11_init_198 (w_id kR_60) rfl (Nat.le_of_ble_eq_true rfl) (Nat.le_of_ble_eq_true rfl) eq97 eS98 (Nat.le_of_ble_eq_true rfl) (Nat.le_of_ble_eq_true rfl) ?_
  obtain ⟨hk, h⟩ := zchk_ex h
  have hk99 := hk
  obtain ⟨S100, eS100, h⟩ := zlet_ex h
  refine j_putq hC hE dX11_init_200 f_X11_83 pF_X11 hk99 rfl rfl rfl 36 rfl eS100 ?_
  refine j_aload_n hC 0 dX11_init_203 rfl rfl ?_
  refine j_bipush hC dX11_init_204 rfl ?_
  obtain ⟨q101, eq101, h⟩ := zlet_ex h
  obtain ⟨S102, eS102, h⟩ := zlet_ex h
  refine j_newa20 (N := 6) (mx := 6) hC hE ka_20 dX11_init_206 (w_id kR_6) rfl (Nat.le_of_ble_eq_true rfl) (Nat.le_of_ble_eq_true rfl) eq101 eS102 (Nat.le_of_ble_eq_true rfl) (Nat.le_of_ble_eq_true rfl) ?_
  obtain ⟨hk, h⟩ := zchk_ex h
  have hk103 := hk
  obtain ⟨S104, eS104, h⟩ := zlet_ex h
  refine j_putq hC hE dX11_init_208 f_X11_86 pF_X11 hk103 rfl rfl rfl 38 rfl eS104 ?_
  refine j_aload_n hC 0 dX11_init_211 rfl rfl ?_
  refine j_iconst hC dX11_init_212 ?_
  obtain ⟨q105, eq105, h⟩ := zlet_ex h
  obtain ⟨S106, eS106, h⟩ := zlet_ex h
  refine j_newa20 (N := 5) (mx := 5) hC hE ka_20 dX11_init_213 (w_id kR_5) rfl (Nat.le_of_ble_eq_true rfl) (Nat.le_of_ble_eq_true rfl) eq105 eS106 (Nat.le_of_ble_eq_true rfl) (Nat.le_of_ble_eq_true rfl) ?_
  obtain ⟨hk, h⟩ := zchk_ex h
  have hk107 := hk
  obtain ⟨S108, eS108, h⟩ := zlet_ex h
  refine j_putq hC hE dX11_init_215 f_X11_89 pF_X11 hk107 rfl rfl rfl 39 rfl eS108 ?_
  refine j_aload_n hC 0 dX11_init_218 rfl rfl ?_
  refine j_iconst hC dX11_init_219 ?_
  obtain ⟨q109, eq109, h⟩ := zlet_ex h
  obtain ⟨S110, eS110, h⟩ := zlet_ex h
  refine j_newa20 (N := 5) (mx := 5) hC hE ka_20 dX11_init_220 (w_id kR_5) rfl (Nat.le_of_ble_eq_true rfl) (Nat.le_of_ble_eq_true rfl) eq109 eS110 (Nat.le_of_ble_eq_true rfl) (Nat.le_of_ble_eq_true rfl) ?_
  obtain ⟨hk, h⟩ := zchk_ex h
  have hk111 := hk
  obtain ⟨S112, eS112, h⟩ := zlet_ex h
  refine j_putq hC hE dX11_init_222 f_X11_92 pF_X11 hk111 rfl rfl rfl 40 rfl eS112 ?_
  refine j_aload_n hC 0 dX11_init_225 rfl rfl ?_
  refine j_sipush hC dX11_init_226 rfl ?_
  obtain ⟨q113, eq113, h⟩ := zlet_ex h
  obtain ⟨S114, eS114, h⟩ := zlet_ex h
  refine j_newa20 (N := 300) (mx := 300) hC hE ka_20 dX11_init_229 (w_id kR_300) rfl (Nat.le_of_ble_eq_true rfl) (Nat.le_of_ble_eq_true rfl) eq113 eS114 (Nat.le_of_ble_eq_true rfl) (Nat.le_of_ble_eq_true rfl) ?_
  obtain ⟨hk, h⟩ := zchk_ex h
  have hk115 := hk
  obtain ⟨S116, eS116, h⟩ := zlet_ex h
  refine j_putq hC hE dX11_init_231 f_X11_95 pF_X11 hk115 rfl rfl rfl 41 rfl eS116 ?_
  refine j_aload_n hC 0 dX11_init_234 rfl rfl ?_
  refine j_iconst hC dX11_init_235 ?_
  obtain ⟨q117, eq117, h⟩ := zlet_ex h
  obtain ⟨S118, eS118, h⟩ := zlet_ex h
  refine j_newa20 (N := 5) (mx := 5) hC hE ka_20 dX11_init_236 (w_id kR_5) rfl (Nat.le_of_ble_eq_true rfl) (Nat.le_of_ble_eq_true rfl) eq117 eS118 (Nat.le_of_ble_eq_true rfl) (Nat.le_of_ble_eq_true rfl) ?_
  obtain ⟨hk, h⟩ := zchk_ex h
  have hk119 := hk
  obtain ⟨S120, eS120, h⟩ := zlet_ex h
  refine j_putq hC hE dX11_init_238 f_X11_98 pF_X11 hk119 rfl rfl rfl 42 rfl eS120 ?_
  refine j_aload_n hC 0 dX11_init_241 rfl rfl ?_
  refine j_iconst hC dX11_init_242 ?_
  obtain ⟨q121, eq121, h⟩ := zlet_ex h
  obtain ⟨S122, eS122, h⟩ := zlet_ex h
  refine j_newa20 (N := 5) (mx := 5) hC hE ka_20 dX11_init_243 (w_id kR_5) rfl (Nat.le_of_ble_eq_true rfl) (Nat.le_of_ble_eq_true rfl) eq121 eS122 (Nat.le_of_ble_eq_true rfl) (Nat.le_of_ble_eq_true rfl) ?_
  obtain ⟨hk, h⟩ := zchk_ex h
  have hk123 := hk
  obtain ⟨S124, eS124, h⟩ := zlet_ex h
  refine j_putq hC hE dX11_init_245 f_X11_101 pF_X11 hk123 rfl rfl rfl 43 rfl eS124 ?_
  obtain ⟨e1, e2⟩ := zpr2 (Option.some.inj h)
  exact j_vret hC hE dX11_init_248 rfl e1 e2 trivial (Nat.le_of_ble_eq_true rfl) (Nat.le_of_ble_eq_true rfl)
set_option maxHeartbeats 4000000 in
set_option maxRecDepth 100000 in
theorem c_X11_isIn (l : Launch) (hlt : l.stackTraces = false) (g : zG) (v0 : Int) (v1 : Int) (v2 : Int) (hv0 : inR v0) (hv1 : inR v1) (hv2 : inR v2) (M : zM) (S : zS) {r : Int} (h : F_X11_isIn v0 v1 v2 = some r) : zMet l g yX11_isIn cX11_isIn 3 (some .boolean) 1 0 0 [.int (zi v0), .int (zi v1), .int (zi v2)] M S (.inl (some (.int (zi r)))) M S (inR r) := by
  refine zMet_of (by decide) hlt [(0, .int (zi v0)), (1, .int (zi v1)), (2, .int (zi v2))] rfl (Nat.le_of_ble_eq_true rfl) (fun K hC hE hN => ?_)
  unfold F_X11_isIn at h
  have J_14 : ∀ (_ : F_X11_isIn_J14 = some r), zJ K g 0 0 14 3 [] [] M S := by
    intro h
    unfold F_X11_isIn_J14 at h
    refine j_iconst hC dX11_isIn_14 ?_
    have e1 := Option.some.inj h
    exact j_iret hC hE dX11_isIn_15 (w_id kR_0) (zn_z zb01_0) (by rw [← e1]) rfl rfl (by rw [← e1]; exact kR_0) (Nat.le_of_ble_eq_true rfl) (Nat.le_of_ble_eq_true rfl)
  refine j_iload_n hC 0 dX11_isIn_0 rfl rfl ?_
  refine j_iload_n hC 1 dX11_isIn_1 rfl rfl ?_
  refine j_icmp_lt hC dX11_isIn_2 rfl (w_id hv0) (w_id hv1) (fun c1 => ?_) (fun c1 => ?_)
  · have h := zt c1 h
    refine j_sub [] rfl ?_
    exact J_14 h
  · have h := zf c1 h
    refine j_iload_n hC 0 dX11_isIn_5 rfl rfl ?_
    refine j_iload_n hC 2 dX11_isIn_6 rfl rfl ?_
    refine j_icmp_gt hC dX11_isIn_7 rfl (w_id hv0) (w_id hv2) (fun c2 => ?_) (fun c2 => ?_)
    · have h := zt c2 h
      refine j_sub [] rfl ?_
      exact J_14 h
    · have h := zf c2 h
      refine j_iconst hC dX11_isIn_10 ?_
      refine j_goto hC dX11_isIn_11 rfl ?_
      have e1 := Option.some.inj h
      exact j_iret hC hE dX11_isIn_15 (w_id kR_1) (zn_z zb01_1) (by rw [← e1]) rfl rfl (by rw [← e1]; exact kR_1) (Nat.le_of_ble_eq_true rfl) (Nat.le_of_ble_eq_true rfl)
set_option maxHeartbeats 4000000 in
set_option maxRecDepth 100000 in
theorem c_X11_thrown (l : Launch) (hlt : l.stackTraces = false) (g : zG) (M : zM) (S : zS) (hF : zFx S) {r : Int} (h : F_X11_thrown M = some r) : zMet l g yX11_thrown cX11_thrown 1 (some .int) 1 0 0 [zr g 48] M S (.inl (some (.int (zi r)))) M S (inR r) := by
  refine zMet_of (by decide) hlt [(0, zr g 48)] rfl (Nat.le_of_ble_eq_true rfl) (fun K hC hE hN => ?_)
  unfold F_X11_thrown at h
  refine j_aload_n hC 0 dX11_thrown_0 rfl rfl ?_
  refine j_get hC dX11_thrown_1 f_X11_104 (zFx_kd hF 48 rfl) rfl 0 rfl (fun hg1 => ?_)
  have e1 := Option.some.inj h
  exact j_iret hC hE dX11_thrown_4 (w_id hg1) (zn_i _) (by rw [← e1]) rfl rfl (by rw [← e1]; exact hg1) (Nat.le_of_ble_eq_true rfl) (Nat.le_of_ble_eq_true rfl)
set_option maxHeartbeats 4000000 in
set_option maxRecDepth 100000 in
theorem c_X11_fail (l : Launch) (hlt : l.stackTraces = false) (g : zG) (v1 : Int) (hv1 : inR v1) (M : zM) (S : zS) (hF : zFx S) {r : Int} {M' : zM} (h : F_X11_fail v1 M = some (r, M')) : zMet l g yX11_fail cX11_fail 2 (some .int) 1 0 0 [zr g 48, .int (zi v1)] M S (.inl (some (.int (zi r)))) M' S (inR r) := by
  refine zMet_of (by decide) hlt [(0, zr g 48), (1, .int (zi v1))] rfl (Nat.le_of_ble_eq_true rfl) (fun K hC hE hN => ?_)
  unfold F_X11_fail at h
  refine j_aload_n hC 0 dX11_fail_0 rfl rfl ?_
  refine j_iload_n hC 1 dX11_fail_1 rfl rfl ?_
  obtain ⟨M1, eM1, h⟩ := zlet_ex h
  refine j_put hC dX11_fail_2 f_X11_104 pF_X11 (zFx_kd hF 48 rfl) (Or.inl rfl) rfl 0 rfl (w_id hv1) hv1 eM1 ?_
  refine j_iconst hC dX11_fail_5 ?_
  obtain ⟨e1, e2⟩ := zpr2 (Option.some.inj h)
  exact j_iret hC hE dX11_fail_6 (w_id kR_0) (zn_i _) (by rw [← e1]) e2 rfl (by rw [← e1]; exact kR_0) (Nat.le_of_ble_eq_true rfl) (Nat.le_of_ble_eq_true rfl)
set_option maxHeartbeats 4000000 in
set_option maxRecDepth 100000 in
theorem c_X11_power (l : Launch) (hlt : l.stackTraces = false) (g : zG) (v0 : Int) (hv0 : inR v0) (M : zM) (S : zS) {r : Int} (h : F_X11_power v0 = some r) : zMet l g yX11_power cX11_power 3 (some .int) 1 0 0 [.int (zi v0)] M S (.inl (some (.int (zi r)))) M S (inR r) := by
  refine zMet_of (by decide) hlt [(0, .int (zi v0))] rfl (Nat.le_of_ble_eq_true rfl) (fun K hC hE hN => ?_)
  unfold F_X11_power at h
  have J_19 : ∀ (v1 : Int) (hv1 : inR v1) (_ : F_X11_power_J19 v1 = some r), zJ K g 0 0 19 3 [(1, .int (zi v1))] [] M S := by
    intro v1 hv1 h
    unfold F_X11_power_J19 at h
    refine j_iload_n hC 0 dX11_power_19 rfl rfl ?_
    have e1 := Option.some.inj h
    exact j_iret hC hE dX11_power_20 (w_id hv1) (zn_i _) (by rw [← e1]) rfl rfl (by rw [← e1]; exact hv1) (Nat.le_of_ble_eq_true rfl) (Nat.le_of_ble_eq_true rfl)
  have L_4 : ∀ (v0 : Int) (v1 : Int) (v2 : Int) (hv0 : inR v0) (hv1 : inR v1) (hv2 : inR v2) (_ : F_X11_power_L4 v0 v1 v2 = some r), zJ K g 0 0 4 3 [(0, .int (zi v0)), (1, .int (zi v1)), (2, .int (zi v2))] [] M S := by
    intro v0 v1 v2 hv0 hv1 hv2 h
    unfold F_X11_power_L4 at h
    obtain ⟨ex4, hl, hd4⟩ := zb1_ex h
    obtain ⟨bd4, ebd⟩ : ∃ f, f = (fun (s : Int × Int) => F_X11_power_B4 v0 s.1 s.2) := ⟨_, rfl⟩
    rw [← ebd] at hl
    have main : ∀ (n4 : Nat) (v1 : Int) (v2 : Int) (hv1 : inR v1) (hv2 : inR v2) (_ : zloop bd4 n4 (v1, v2) = some ex4), zJ K g 0 0 4 3 [(0, .int (zi v0)), (1, .int (zi v1)), (2, .int (zi v2))] [] M S := by
      intro n4
      induction n4 with
      | zero => intro v1 v2 hv1 hv2 hl; exact zloop_0 hl
      | succ n4 ih4 =>
        intro v1 v2 hv1 hv2 hl
        obtain ⟨o, h, hT⟩ := zloop_ex hl
        have h : F_X11_power_B4 v0 v1 v2 = some o := by rw [ebd] at h; exact h
        unfold F_X11_power_B4 at h
        refine j_iload_n hC 2 dX11_power_4 rfl rfl ?_
        refine j_iload_n hC 0 dX11_power_5 rfl rfl ?_
        refine j_icmp_ge hC dX11_power_6 rfl (w_id hv2) (w_id hv0) (fun c1 => ?_) (fun c1 => ?_)
        · have h := zf c1 h
          obtain rfl := Option.some.inj h
          have hx4 := hd4
          rw [← show _ = ex4 from hT] at hx4
          refine j_sub [1] rfl ?_
          exact J_19 v1 hv1 hx4
        · have h := zt c1 h
          refine j_iload_n hC 1 dX11_power_9 rfl rfl ?_
          refine j_iconst hC dX11_power_10 ?_
          refine j_imul hC dX11_power_11 ?_
          obtain ⟨x2, ex2, h⟩ := zlet_ex h
          have hx2 : inR x2 := by rw [ex2]; exact inR_w _
          refine j_namei ex2 ?_
          refine j_istore_n hC dX11_power_12 rfl (Nat.le_of_ble_eq_true rfl) rfl ?_
          obtain ⟨x3, ex3, h⟩ := zlet_ex h
          have hx3 : inR x3 := by rw [ex3]; exact inR_w _
          refine j_iinc hC 2 dX11_power_13 rfl ex3 (Nat.le_of_ble_eq_true rfl) rfl ?_
          refine j_goto hC dX11_power_16 rfl ?_
          obtain rfl := Option.some.inj h
          refine j_sub [2, 1, 0] rfl ?_
          exact ih4 x2 x3 hx2 hx3 hT
    exact main zN v1 v2 hv1 hv2 hl
  refine j_iconst hC dX11_power_0 ?_
  refine j_istore_n hC dX11_power_1 rfl (Nat.le_of_ble_eq_true rfl) rfl ?_
  refine j_iconst hC dX11_power_2 ?_
  refine j_istore_n hC dX11_power_3 rfl (Nat.le_of_ble_eq_true rfl) rfl ?_
  refine j_sub [2, 1, 0] rfl ?_
  exact L_4 v0 1 0 hv0 kR_1 kR_0 h
set_option maxHeartbeats 4000000 in
set_option maxRecDepth 100000 in
theorem c_X11_first (l : Launch) (hlt : l.stackTraces = false) (g : zG) (v0 : Int) (hv0 : inR v0) (M : zM) (S : zS) {r : Int} (h : F_X11_first v0 = some r) : zMet l g yX11_first cX11_first 1 (some .int) 2 0 0 [.int (zi v0)] M S (.inl (some (.int (zi r)))) M S (inR r) := by
  refine zMet_of (by decide) hlt [(0, .int (zi v0))] rfl (Nat.le_of_ble_eq_true rfl) (fun K hC hE hN => ?_)
  unfold F_X11_first at h
  refine j_iload_n hC 0 dX11_first_0 rfl rfl ?_
  obtain ⟨r1, hy, h⟩ := zb1_ex h
  refine j_callSi hC hE lk_X11_107 dX11_first_1 (c_X11_power l hlt g v0 hv0 M S hy) [.int (zi v0)] [] rfl rfl rfl (zcat (Nat.le_of_ble_eq_true rfl)) (Nat.le_of_ble_eq_true rfl) (Nat.le_of_ble_eq_true rfl) (Nat.le_of_ble_eq_true rfl) (Nat.le_of_ble_eq_true rfl) (fun hp2 => ?_)
  have hr1 := hp2
  refine j_iconst hC dX11_first_4 ?_
  refine j_isub hC dX11_first_5 ?_
  refine j_iconst hC dX11_first_6 ?_
  refine j_idiv hC dX11_first_7 (w_id kR_2) (by decide) ?_
  have e1 := Option.some.inj h
  exact j_iret hC hE dX11_first_8 (w_id (cR_zdiv _ _)) (zn_i _) (by rw [← e1]) rfl rfl (by rw [← e1]; exact (cR_zdiv _ _)) (Nat.le_of_ble_eq_true rfl) (Nat.le_of_ble_eq_true rfl)
set_option maxHeartbeats 4000000 in
set_option maxRecDepth 100000 in
theorem c_X11_lengthOf (l : Launch) (hlt : l.stackTraces = false) (g : zG) (v0 : Int) (hv0 : inR v0) (M : zM) (S : zS) {r : Int} (h : F_X11_lengthOf v0 = some r) : zMet l g yX11_lengthOf cX11_lengthOf 2 (some .int) 3 0 0 [.int (zi v0)] M S (.inl (some (.int (zi r)))) M S (inR r) := by
  refine zMet_of (by decide) hlt [(0, .int (zi v0))] rfl (Nat.le_of_ble_eq_true rfl) (fun K hC hE hN => ?_)
  unfold F_X11_lengthOf at h
  have J_18 : ∀ (v1 : Int) (hv1 : inR v1) (_ : F_X11_lengthOf_J18 v1 = some r), zJ K g 0 0 18 2 [(1, .int (zi v1))] [] M S := by
    intro v1 hv1 h
    unfold F_X11_lengthOf_J18 at h
    refine j_iload_n hC 0 dX11_lengthOf_18 rfl rfl ?_
    have e1 := Option.some.inj h
    exact j_iret hC hE dX11_lengthOf_19 (w_id hv1) (zn_i _) (by rw [← e1]) rfl rfl (by rw [← e1]; exact hv1) (Nat.le_of_ble_eq_true rfl) (Nat.le_of_ble_eq_true rfl)
  have L_2 : ∀ (v0 : Int) (v1 : Int) (hv0 : inR v0) (hv1 : inR v1) (_ : F_X11_lengthOf_L2 v0 v1 = some r), zJ K g 0 0 2 2 [(0, .int (zi v0)), (1, .int (zi v1))] [] M S := by
    intro v0 v1 hv0 hv1 h
    unfold F_X11_lengthOf_L2 at h
    obtain ⟨ex2, hl, hd2⟩ := zb1_ex h
    obtain ⟨bd2, ebd⟩ : ∃ f, f = (fun (s : Int) => F_X11_lengthOf_B2 v0 s) := ⟨_, rfl⟩
    rw [← ebd] at hl
    have main : ∀ (n2 : Nat) (v1 : Int) (hv1 : inR v1) (_ : zloop bd2 n2 v1 = some ex2), zJ K g 0 0 2 2 [(0, .int (zi v0)), (1, .int (zi v1))] [] M S := by
      intro n2
      induction n2 with
      | zero => intro v1 hv1 hl; exact zloop_0 hl
      | succ n2 ih2 =>
        intro v1 hv1 hl
        obtain ⟨o, h, hT⟩ := zloop_ex hl
        have h : F_X11_lengthOf_B2 v0 v1 = some o := by rw [ebd] at h; exact h
        unfold F_X11_lengthOf_B2 at h
        refine j_iload_n hC 0 dX11_lengthOf_2 rfl rfl ?_
        refine j_iload_n hC 1 dX11_lengthOf_3 rfl rfl ?_
        refine j_iconst hC dX11_lengthOf_4 ?_
        refine j_iadd hC dX11_lengthOf_5 ?_
        obtain ⟨r1, hy, h⟩ := zb1_ex h
        refine j_callSi hC hE lk_X11_111 dX11_lengthOf_6 (c_X11_first l hlt g (w (v1 + 1)) (inR_w _) M S hy) [.int (zi (v1 + 1))] [.int (zi v0)] rfl (by simp only [zi_w, zl_wl]) rfl (zcat (Nat.le_of_ble_eq_true rfl)) (Nat.le_of_ble_eq_true rfl) (Nat.le_of_ble_eq_true rfl) (Nat.le_of_ble_eq_true rfl) (Nat.le_of_ble_eq_true rfl) (fun hp2 => ?_)
        have hr1 := hp2
        refine j_icmp_lt hC dX11_lengthOf_9 rfl (w_id hv0) (w_id hr1) (fun c3 => ?_) (fun c3 => ?_)
        · have h := zt c3 h
          obtain rfl := Option.some.inj h
          have hx2 := hd2
          rw [← show _ = ex2 from hT] at hx2
          refine j_sub [1] rfl ?_
          exact J_18 v1 hv1 hx2
        · have h := zf c3 h
          obtain ⟨x4, ex4, h⟩ := zlet_ex h
          have hx4 : inR x4 := by rw [ex4]; exact inR_w _
          refine j_iinc hC 1 dX11_lengthOf_12 rfl ex4 (Nat.le_of_ble_eq_true rfl) rfl ?_
          refine j_goto hC dX11_lengthOf_15 rfl ?_
          obtain rfl := Option.some.inj h
          refine j_sub [1, 0] rfl ?_
          exact ih2 x4 hx4 hT
    exact main zN v1 hv1 hl
  refine j_iconst hC dX11_lengthOf_0 ?_
  refine j_istore_n hC dX11_lengthOf_1 rfl (Nat.le_of_ble_eq_true rfl) rfl ?_
  refine j_sub [1, 0] rfl ?_
  exact L_2 v0 0 hv0 kR_0 h
set_option maxHeartbeats 4000000 in
set_option maxRecDepth 100000 in
theorem c_X11_part (l : Launch) (hlt : l.stackTraces = false) (g : zG) (v0 : Int) (v1 : Int) (v2 : Int) (v3 : Int) (hv0 : inR v0) (hv1 : inR v1) (hv2 : inR v2) (hv3 : inR v3) (M : zM) (S : zS) {r : Int} (h : F_X11_part v0 v1 v2 v3 = some r) : zMet l g yX11_part cX11_part 5 (some .int) 3 0 0 [.int (zi v0), .int (zi v1), .int (zi v2), .int (zi v3)] M S (.inl (some (.int (zi r)))) M S (inR r) := by
  refine zMet_of (by decide) hlt [(0, .int (zi v0)), (1, .int (zi v1)), (2, .int (zi v2)), (3, .int (zi v3))] rfl (Nat.le_of_ble_eq_true rfl) (fun K hC hE hN => ?_)
  unfold F_X11_part at h
  refine j_iload_n hC 0 dX11_part_0 rfl rfl ?_
  refine j_iload_n hC 1 dX11_part_1 rfl rfl ?_
  obtain ⟨r1, hy, h⟩ := zb1_ex h
  refine j_callSi hC hE lk_X11_111 dX11_part_2 (c_X11_first l hlt g v1 hv1 M S hy) [.int (zi v1)] [.int (zi v0)] rfl rfl rfl (zcat (Nat.le_of_ble_eq_true rfl)) (Nat.le_of_ble_eq_true rfl) (Nat.le_of_ble_eq_true rfl) (Nat.le_of_ble_eq_true rfl) (Nat.le_of_ble_eq_true rfl) (fun hp2 => ?_)
  have hr1 := hp2
  refine j_isub hC dX11_part_5 ?_
  refine j_iload_n hC 1 dX11_part_6 rfl rfl ?_
  refine j_iload_n hC 3 dX11_part_7 rfl rfl ?_
  refine j_isub hC dX11_part_8 ?_
  obtain ⟨r3, hy, h⟩ := zb1_ex h
  refine j_callSi hC hE lk_X11_107 dX11_part_9 (c_X11_power l hlt g (w (v1 - v3)) (inR_w _) M S hy) [.int (zi (v1 - v3))] [.int (zi (v0 - r1))] rfl (by simp only [zi_w, zl_wl]) rfl (zcat (Nat.le_of_ble_eq_true rfl)) (Nat.le_of_ble_eq_true rfl) (Nat.le_of_ble_eq_true rfl) (Nat.le_of_ble_eq_true rfl) (Nat.le_of_ble_eq_true rfl) (fun hp4 => ?_)
  have hr3 := hp4
  obtain ⟨c5, h⟩ := zchk_ex h
  refine j_idiv hC dX11_part_12 (w_id hr3) c5 ?_
  refine j_iload_n hC 3 dX11_part_13 rfl rfl ?_
  refine j_iload_n hC 2 dX11_part_14 rfl rfl ?_
  refine j_isub hC dX11_part_15 ?_
  obtain ⟨r6, hy, h⟩ := zb1_ex h
  refine j_callSi hC hE lk_X11_107 dX11_part_16 (c_X11_power l hlt g (w (v3 - v2)) (inR_w _) M S hy) [.int (zi (v3 - v2))] [.int (zi (zdiv (v0 - r1) r3))] rfl (by simp only [zi_w, zl_wl]) rfl (zcat (Nat.le_of_ble_eq_true rfl)) (Nat.le_of_ble_eq_true rfl) (Nat.le_of_ble_eq_true rfl) (Nat.le_of_ble_eq_true rfl) (Nat.le_of_ble_eq_true rfl) (fun hp7 => ?_)
  have hr6 := hp7
  obtain ⟨c8, h⟩ := zchk_ex h
  refine j_irem hC dX11_part_19 (w_id hr6) c8 ?_
  obtain ⟨x9, ex9, h⟩ := zlet_ex h
  have hx9 : inR x9 := by rw [ex9]; exact (cR_zrem _ _)
  refine j_names ex9 ?_
  refine j_istore hC dX11_part_20 (Nat.le_of_ble_eq_true rfl) rfl ?_
  refine j_iload_n hC 4 dX11_part_22 rfl rfl ?_
  refine j_iload_n hC 3 dX11_part_23 rfl rfl ?_
  refine j_isub hC dX11_part_24 ?_
  obtain ⟨r10, hy, h⟩ := zb1_ex h
  refine j_callSi hC hE lk_X11_111 dX11_part_25 (c_X11_first l hlt g (w (v3 - v2)) (inR_w _) M S hy) [.int (zi (v3 - v2))] [] rfl (by simp only [zi_w, zl_wl]) rfl (zcat (Nat.le_of_ble_eq_true rfl)) (Nat.le_of_ble_eq_true rfl) (Nat.le_of_ble_eq_true rfl) (Nat.le_of_ble_eq_true rfl) (Nat.le_of_ble_eq_true rfl) (fun hp11 => ?_)
  have hr10 := hp11
  refine j_iload hC 0 dX11_part_28 rfl ?_
  refine j_iadd hC dX11_part_30 ?_
  have e1 := Option.some.inj h
  exact j_iret hC hE dX11_part_31 rfl (zn_i _) (by rw [← e1]) rfl rfl (by rw [← e1]; exact (inR_w _)) (Nat.le_of_ble_eq_true rfl) (Nat.le_of_ble_eq_true rfl)
set_option maxHeartbeats 4000000 in
set_option maxRecDepth 100000 in
theorem c_X11_joined (l : Launch) (hlt : l.stackTraces = false) (g : zG) (v0 : Int) (v1 : Int) (hv0 : inR v0) (hv1 : inR v1) (M : zM) (S : zS) {r : Int} (h : F_X11_joined v0 v1 = some r) : zMet l g yX11_joined cX11_joined 4 (some .int) 4 0 0 [.int (zi v0), .int (zi v1)] M S (.inl (some (.int (zi r)))) M S (inR r) := by
  refine zMet_of (by decide) hlt [(0, .int (zi v0)), (1, .int (zi v1))] rfl (Nat.le_of_ble_eq_true rfl) (fun K hC hE hN => ?_)
  unfold F_X11_joined at h
  refine j_iload_n hC 0 dX11_joined_0 rfl rfl ?_
  obtain ⟨r1, hy, h⟩ := zb1_ex h
  refine j_callSi hC hE lk_X11_114 dX11_joined_1 (c_X11_lengthOf l hlt g v0 hv0 M S hy) [.int (zi v0)] [] rfl rfl rfl (zcat (Nat.le_of_ble_eq_true rfl)) (Nat.le_of_ble_eq_true rfl) (Nat.le_of_ble_eq_true rfl) (Nat.le_of_ble_eq_true rfl) (Nat.le_of_ble_eq_true rfl) (fun hp2 => ?_)
  have hr1 := hp2
  refine j_istore_n hC dX11_joined_4 rfl (Nat.le_of_ble_eq_true rfl) rfl ?_
  refine j_iload_n hC 2 dX11_joined_5 rfl rfl ?_
  obtain ⟨r3, hy, h⟩ := zb1_ex h
  refine j_callSi hC hE lk_X11_114 dX11_joined_6 (c_X11_lengthOf l hlt g v1 hv1 M S hy) [.int (zi v1)] [] rfl rfl rfl (zcat (Nat.le_of_ble_eq_true rfl)) (Nat.le_of_ble_eq_true rfl) (Nat.le_of_ble_eq_true rfl) (Nat.le_of_ble_eq_true rfl) (Nat.le_of_ble_eq_true rfl) (fun hp4 => ?_)
  have hr3 := hp4
  refine j_istore_n hC dX11_joined_9 rfl (Nat.le_of_ble_eq_true rfl) rfl ?_
  refine j_iload_n hC 1 dX11_joined_10 rfl rfl ?_
  refine j_iload_n hC 0 dX11_joined_11 rfl rfl ?_
  refine j_iadd hC dX11_joined_12 ?_
  obtain ⟨r5, hy, h⟩ := zb1_ex h
  refine j_callSi hC hE lk_X11_111 dX11_joined_13 (c_X11_first l hlt g (w (r1 + r3)) (inR_w _) M S hy) [.int (zi (r1 + r3))] [] rfl (by simp only [zi_w, zl_wl]) rfl (zcat (Nat.le_of_ble_eq_true rfl)) (Nat.le_of_ble_eq_true rfl) (Nat.le_of_ble_eq_true rfl) (Nat.le_of_ble_eq_true rfl) (Nat.le_of_ble_eq_true rfl) (fun hp6 => ?_)
  have hr5 := hp6
  refine j_iload_n hC 2 dX11_joined_16 rfl rfl ?_
  refine j_iload_n hC 1 dX11_joined_17 rfl rfl ?_
  obtain ⟨r7, hy, h⟩ := zb1_ex h
  refine j_callSi hC hE lk_X11_111 dX11_joined_18 (c_X11_first l hlt g r1 hr1 M S hy) [.int (zi r1)] [.int (zi v0), .int (zi r5)] rfl rfl rfl (zcat (Nat.le_of_ble_eq_true rfl)) (Nat.le_of_ble_eq_true rfl) (Nat.le_of_ble_eq_true rfl) (Nat.le_of_ble_eq_true rfl) (Nat.le_of_ble_eq_true rfl) (fun hp8 => ?_)
  have hr7 := hp8
  refine j_isub hC dX11_joined_21 ?_
  refine j_iload_n hC 0 dX11_joined_22 rfl rfl ?_
  obtain ⟨r9, hy, h⟩ := zb1_ex h
  refine j_callSi hC hE lk_X11_107 dX11_joined_23 (c_X11_power l hlt g r3 hr3 M S hy) [.int (zi r3)] [.int (zi (v0 - r7)), .int (zi r5)] rfl rfl rfl (zcat (Nat.le_of_ble_eq_true rfl)) (Nat.le_of_ble_eq_true rfl) (Nat.le_of_ble_eq_true rfl) (Nat.le_of_ble_eq_true rfl) (Nat.le_of_ble_eq_true rfl) (fun hp10 => ?_)
  have hr9 := hp10
  refine j_imul hC dX11_joined_26 ?_
  refine j_iadd hC dX11_joined_27 ?_
  refine j_iload_n hC 3 dX11_joined_28 rfl rfl ?_
  refine j_iadd hC dX11_joined_29 ?_
  refine j_iload_n hC 0 dX11_joined_30 rfl rfl ?_
  obtain ⟨r11, hy, h⟩ := zb1_ex h
  refine j_callSi hC hE lk_X11_111 dX11_joined_31 (c_X11_first l hlt g r3 hr3 M S hy) [.int (zi r3)] [.int (zi ((r5 + ((v0 - r7) * r9)) + v1))] rfl rfl rfl (zcat (Nat.le_of_ble_eq_true rfl)) (Nat.le_of_ble_eq_true rfl) (Nat.le_of_ble_eq_true rfl) (Nat.le_of_ble_eq_true rfl) (Nat.le_of_ble_eq_true rfl) (fun hp12 => ?_)
  have hr11 := hp12
  refine j_isub hC dX11_joined_34 ?_
  have e1 := Option.some.inj h
  exact j_iret hC hE dX11_joined_35 rfl (zn_i _) (by rw [← e1]) rfl rfl (by rw [← e1]; exact (inR_w _)) (Nat.le_of_ble_eq_true rfl) (Nat.le_of_ble_eq_true rfl)
set_option maxHeartbeats 4000000 in
set_option maxRecDepth 100000 in
theorem c_X11_letter (l : Launch) (hlt : l.stackTraces = false) (g : zG) (v0 : Int) (v1 : Int) (v2 : Int) (hv0 : inR v0) (hv1 : inR v1) (hv2 : inR v2) (M : zM) (S : zS) {r : Int} (h : F_X11_letter v0 v1 v2 = some r) : zMet l g yX11_letter cX11_letter 3 (some .int) 4 0 0 [.int (zi v0), .int (zi v1), .int (zi v2)] M S (.inl (some (.int (zi r)))) M S (inR r) := by
  refine zMet_of (by decide) hlt [(0, .int (zi v0)), (1, .int (zi v1)), (2, .int (zi v2))] rfl (Nat.le_of_ble_eq_true rfl) (fun K hC hE hN => ?_)
  unfold F_X11_letter at h
  refine j_iload_n hC 0 dX11_letter_0 rfl rfl ?_
  refine j_iload_n hC 1 dX11_letter_1 rfl rfl ?_
  refine j_iload_n hC 2 dX11_letter_2 rfl rfl ?_
  refine j_iload_n hC 2 dX11_letter_3 rfl rfl ?_
  refine j_iconst hC dX11_letter_4 ?_
  refine j_iadd hC dX11_letter_5 ?_
  obtain ⟨r1, hy, h⟩ := zb1_ex h
  refine j_callSi hC hE lk_X11_117 dX11_letter_6 (c_X11_part l hlt g v0 v1 v2 (w (v2 + 1)) hv0 hv1 hv2 (inR_w _) M S hy) [.int (zi v0), .int (zi v1), .int (zi v2), .int (zi (v2 + 1))] [] rfl (by simp only [zi_w, zl_wl]) rfl (zcat (Nat.le_of_ble_eq_true rfl)) (Nat.le_of_ble_eq_true rfl) (Nat.le_of_ble_eq_true rfl) (Nat.le_of_ble_eq_true rfl) (Nat.le_of_ble_eq_true rfl) (fun hp2 => ?_)
  have hr1 := hp2
  refine j_iconst hC dX11_letter_9 ?_
  refine j_isub hC dX11_letter_10 ?_
  have e1 := Option.some.inj h
  exact j_iret hC hE dX11_letter_11 rfl (zn_i _) (by rw [← e1]) rfl rfl (by rw [← e1]; exact (inR_w _)) (Nat.le_of_ble_eq_true rfl) (Nat.le_of_ble_eq_true rfl)
set_option maxHeartbeats 4000000 in
set_option maxRecDepth 100000 in
theorem c_X11_isContext (l : Launch) (hlt : l.stackTraces = false) (g : zG) (v1 : Int) (hv1 : inR v1) (M : zM) (S : zS) (hF : zFx S) {r : Int} (h : F_X11_isContext v1 M = some r) : zMet l g yX11_isContext cX11_isContext 2 (some .boolean) 2 0 0 [zr g 48, .int (zi v1)] M S (.inl (some (.int (zi r)))) M S (inR r) := by
  refine zMet_of (by decide) hlt [(0, zr g 48), (1, .int (zi v1))] rfl (Nat.le_of_ble_eq_true rfl) (fun K hC hE hN => ?_)
  unfold F_X11_isContext at h
  refine j_iload_n hC 1 dX11_isContext_0 rfl rfl ?_
  refine j_iconst hC dX11_isContext_1 ?_
  refine j_aload_n hC 0 dX11_isContext_2 rfl rfl ?_
  refine j_get hC dX11_isContext_3 f_X11_121 (zFx_kd hF 48 rfl) rfl 7 rfl (fun hg1 => ?_)
  refine j_iconst hC dX11_isContext_6 ?_
  refine j_isub hC dX11_isContext_7 ?_
  obtain ⟨r2, hy, h⟩ := zb1_ex h
  refine j_callSi hC hE lk_X11_124 dX11_isContext_8 (c_X11_isIn l hlt g v1 0 (w ((M 48 7) - 1)) hv1 kR_0 (inR_w _) M S hy) [.int (zi v1), .int (zi 0), .int (zi ((M 48 7) - 1))] [] rfl (by simp only [zi_w, zl_wl]) rfl (zcat (Nat.le_of_ble_eq_true rfl)) (Nat.le_of_ble_eq_true rfl) (Nat.le_of_ble_eq_true rfl) (Nat.le_of_ble_eq_true rfl) (Nat.le_of_ble_eq_true rfl) (fun hp3 => ?_)
  have hr2 := hp3
  obtain ⟨c4, h⟩ := zchk_ex h
  have e1 := Option.some.inj h
  exact j_iret hC hE dX11_isContext_11 (w_id hr2) (zn_z c4) (by rw [← e1]) rfl rfl (by rw [← e1]; exact hr2) (Nat.le_of_ble_eq_true rfl) (Nat.le_of_ble_eq_true rfl)
set_option maxHeartbeats 4000000 in
set_option maxRecDepth 100000 in
theorem c_X11_count (l : Launch) (hlt : l.stackTraces = false) (g : zG) (v1 : Int) (hv1 : inR v1) (M : zM) (S : zS) (hF : zFx S) {r : Int} {M' : zM} (h : F_X11_count v1 M = some (r, M')) : zMet l g yX11_count cX11_count 2 (some .int) 2 0 0 [zr g 48, .int (zi v1)] M S (.inl (some (.int (zi r)))) M' S (inR r) := by
  refine zMet_of (by decide) hlt [(0, zr g 48), (1, .int (zi v1))] rfl (Nat.le_of_ble_eq_true rfl) (fun K hC hE hN => ?_)
  unfold F_X11_count at h
  refine j_aload_n hC 0 dX11_count_0 rfl rfl ?_
  refine j_iconst hC dX11_count_1 ?_
  obtain ⟨M1, eM1, h⟩ := zlet_ex h
  refine j_put hC dX11_count_2 f_X11_104 pF_X11 (zFx_kd hF 48 rfl) (Or.inl rfl) rfl 0 rfl (w_id kR_0) kR_0 eM1 ?_
  refine j_iload_n hC 1 dX11_count_5 rfl rfl ?_
  by_cases c2 : v1 = 0
  · have h := zt c2 h
    refine j_tswIn hC 0 dX11_count_6 (w_id hv1) c2 (by decide) (by decide) rfl rfl ?_
    refine j_aload_n hC 0 dX11_count_40 rfl rfl ?_
    refine j_get hC dX11_count_41 f_X11_128 (zFx_kd hF 48 rfl) rfl 2 rfl (fun hg3 => ?_)
    obtain ⟨e1, e2⟩ := zpr2 (Option.some.inj h)
    exact j_iret hC hE dX11_count_44 (w_id hg3) (zn_i _) (by rw [← e1]) e2 rfl (by rw [← e1]; exact hg3) (Nat.le_of_ble_eq_true rfl) (Nat.le_of_ble_eq_true rfl)
  have h := zf c2 h
  by_cases c4 : v1 = 1
  · have h := zt c4 h
    refine j_tswIn hC 1 dX11_count_6 (w_id hv1) c4 (by decide) (by decide) rfl rfl ?_
    refine j_aload_n hC 0 dX11_count_45 rfl rfl ?_
    refine j_get hC dX11_count_46 f_X11_121 (zFx_kd hF 48 rfl) rfl 7 rfl (fun hg5 => ?_)
    obtain ⟨e1, e2⟩ := zpr2 (Option.some.inj h)
    exact j_iret hC hE dX11_count_49 (w_id hg5) (zn_i _) (by rw [← e1]) e2 rfl (by rw [← e1]; exact hg5) (Nat.le_of_ble_eq_true rfl) (Nat.le_of_ble_eq_true rfl)
  have h := zf c4 h
  by_cases c6 : v1 = 2
  · have h := zt c6 h
    refine j_tswIn hC 2 dX11_count_6 (w_id hv1) c6 (by decide) (by decide) rfl rfl ?_
    refine j_aload_n hC 0 dX11_count_50 rfl rfl ?_
    refine j_get hC dX11_count_51 f_X11_25 (zFx_kd hF 48 rfl) rfl 8 rfl (fun hg7 => ?_)
    obtain ⟨e1, e2⟩ := zpr2 (Option.some.inj h)
    exact j_iret hC hE dX11_count_54 (w_id hg7) (zn_i _) (by rw [← e1]) e2 rfl (by rw [← e1]; exact hg7) (Nat.le_of_ble_eq_true rfl) (Nat.le_of_ble_eq_true rfl)
  have h := zf c6 h
  by_cases c8 : v1 = 3
  · have h := zt c8 h
    refine j_tswIn hC 3 dX11_count_6 (w_id hv1) c8 (by decide) (by decide) rfl rfl ?_
    refine j_aload_n hC 0 dX11_count_55 rfl rfl ?_
    refine j_get hC dX11_count_56 f_X11_29 (zFx_kd hF 48 rfl) rfl 9 rfl (fun hg9 => ?_)
    obtain ⟨e1, e2⟩ := zpr2 (Option.some.inj h)
    exact j_iret hC hE dX11_count_59 (w_id hg9) (zn_i _) (by rw [← e1]) e2 rfl (by rw [← e1]; exact hg9) (Nat.le_of_ble_eq_true rfl) (Nat.le_of_ble_eq_true rfl)
  have h := zf c8 h
  by_cases c10 : v1 = 4
  · have h := zt c10 h
    refine j_tswIn hC 4 dX11_count_6 (w_id hv1) c10 (by decide) (by decide) rfl rfl ?_
    refine j_aload_n hC 0 dX11_count_60 rfl rfl ?_
    refine j_get hC dX11_count_61 f_X11_131 (zFx_kd hF 48 rfl) rfl 11 rfl (fun hg11 => ?_)
    obtain ⟨e1, e2⟩ := zpr2 (Option.some.inj h)
    exact j_iret hC hE dX11_count_64 (w_id hg11) (zn_i _) (by rw [← e1]) e2 rfl (by rw [← e1]; exact hg11) (Nat.le_of_ble_eq_true rfl) (Nat.le_of_ble_eq_true rfl)
  have h := zf c10 h
  refine j_tswOut hC dX11_count_6 (w_id hv1) (by omega) rfl ?_
  refine j_aload_n hC 0 dX11_count_65 rfl rfl ?_
  refine j_iconst hC dX11_count_66 ?_
  obtain ⟨r12, M13, hy, h⟩ := zb2_ex h
  refine j_callVi (ci := 8) hC hE lk_X11_134 dX11_count_67 (c_X11_fail l hlt g 1 kR_1 M1 S hF hy) [.int (zi 1)] [] (zFx_kd hF 48 rfl) ⟨_, rfl, by decide, rfl⟩ rfl rfl rfl (zcat (Nat.le_of_ble_eq_true rfl)) (Nat.le_of_ble_eq_true rfl) (Nat.le_of_ble_eq_true rfl) (Nat.le_of_ble_eq_true rfl) (Nat.le_of_ble_eq_true rfl) (fun hp14 => ?_)
  have hr12 := hp14
  obtain ⟨e1, e2⟩ := zpr2 (Option.some.inj h)
  exact j_iret hC hE dX11_count_70 (w_id hr12) (zn_i _) (by rw [← e1]) e2 rfl (by rw [← e1]; exact hr12) (Nat.le_of_ble_eq_true rfl) (Nat.le_of_ble_eq_true rfl)
set_option maxHeartbeats 4000000 in
set_option maxRecDepth 100000 in
theorem c_X11_removeAxiom (l : Launch) (hlt : l.stackTraces = false) (g : zG) (v1 : Int) (hv1 : inR v1) (M : zM) (S : zS) (hF : zFx S) {M' : zM} (h : F_X11_removeAxiom v1 M = some M') : zMet l g yX11_removeAxiom cX11_removeAxiom 3 none 2 0 0 [zr g 48, .int (zi v1)] M S (.inl none) M' S (True) := by
  refine zMet_of (by decide) hlt [(0, zr g 48), (1, .int (zi v1))] rfl (Nat.le_of_ble_eq_true rfl) (fun K hC hE hN => ?_)
  unfold F_X11_removeAxiom at h
  have J_65 : ∀ (M : zM) (_ : F_X11_removeAxiom_J65 M = some M'), zJ K g 0 0 65 3 [] [] M S := by
    intro M h
    unfold F_X11_removeAxiom_J65 at h
    have e1 := Option.some.inj h
    exact j_vret hC hE dX11_removeAxiom_65 rfl e1 rfl trivial (Nat.le_of_ble_eq_true rfl) (Nat.le_of_ble_eq_true rfl)
  have L_37 : ∀ (v2 : Int) (hv2 : inR v2) (M : zM) (_ : F_X11_removeAxiom_L37 v2 M = some M'), zJ K g 0 0 37 3 [(0, zr g 48), (2, .int (zi v2))] [] M S := by
    intro v2 hv2 M h
    unfold F_X11_removeAxiom_L37 at h
    obtain ⟨ex37, hl, hd37⟩ := zb1_ex h
    obtain ⟨bd37, ebd⟩ : ∃ f, f = (fun (s : Int × zM) => F_X11_removeAxiom_B37 s.1 s.2) := ⟨_, rfl⟩
    rw [← ebd] at hl
    have main : ∀ (n37 : Nat) (v2 : Int) (hv2 : inR v2) (M : zM) (_ : zloop bd37 n37 (v2, M) = some ex37), zJ K g 0 0 37 3 [(0, zr g 48), (2, .int (zi v2))] [] M S := by
      intro n37
      induction n37 with
      | zero => intro v2 hv2 M hl; exact zloop_0 hl
      | succ n37 ih37 =>
        intro v2 hv2 M hl
        obtain ⟨o, h, hT⟩ := zloop_ex hl
        have h : F_X11_removeAxiom_B37 v2 M = some o := by rw [ebd] at h; exact h
        unfold F_X11_removeAxiom_B37 at h
        refine j_iload_n hC 1 dX11_removeAxiom_37 rfl rfl ?_
        refine j_aload_n hC 0 dX11_removeAxiom_38 rfl rfl ?_
        refine j_get hC dX11_removeAxiom_39 f_X11_128 (zFx_kd hF 48 rfl) rfl 2 rfl (fun hg1 => ?_)
        refine j_icmp_ge hC dX11_removeAxiom_42 rfl (w_id hv2) (w_id hg1) (fun c2 => ?_) (fun c2 => ?_)
        · have h := zf c2 h
          obtain rfl := Option.some.inj h
          have hx37 := hd37
          rw [← show _ = ex37 from hT] at hx37
          refine j_sub [] rfl ?_
          exact J_65 M hx37
        · have h := zt c2 h
          refine j_aload_n hC 0 dX11_removeAxiom_45 rfl rfl ?_
          refine j_getq (q := 49) hC dX11_removeAxiom_46 f_X11_7 (zFx_kd hF 48 rfl) rfl 1 rfl (zFx_rf hF 48 1 rfl) ?_
          refine j_iload_n hC 1 dX11_removeAxiom_49 rfl rfl ?_
          refine j_aload_n hC 0 dX11_removeAxiom_50 rfl rfl ?_
          refine j_getq (q := 49) hC dX11_removeAxiom_51 f_X11_7 (zFx_kd hF 48 rfl) rfl 1 rfl (zFx_rf hF 48 1 rfl) ?_
          refine j_iload_n hC 1 dX11_removeAxiom_54 rfl rfl ?_
          refine j_iconst hC dX11_removeAxiom_55 ?_
          refine j_iadd hC dX11_removeAxiom_56 ?_
          obtain ⟨c3, h⟩ := zchk_ex h
          refine j_iald (n := 6) hC dX11_removeAxiom_57 rfl (zFx_kd hF 49 rfl) (zFx_ln hF 49 rfl) c3.1 c3.2 (fun hg4 => ?_)
          obtain ⟨c5, h⟩ := zchk_ex h
          obtain ⟨M6, eM6, h⟩ := zlet_ex h
          refine j_iast (n := 6) hC dX11_removeAxiom_58 (w_id hv2) (w_id hg4) hg4 (zFx_kd hF 49 rfl) (zFx_ln hF 49 rfl) c5.1 c5.2 eM6 ?_
          obtain ⟨x7, ex7, h⟩ := zlet_ex h
          have hx7 : inR x7 := by rw [ex7]; exact inR_w _
          refine j_iinc hC 1 dX11_removeAxiom_59 rfl ex7 (Nat.le_of_ble_eq_true rfl) rfl ?_
          refine j_goto hC dX11_removeAxiom_62 rfl ?_
          obtain rfl := Option.some.inj h
          refine j_sub [1, 0] rfl ?_
          exact ih37 x7 hx7 M6 hT
    exact main zN v2 hv2 M hl
  refine j_aload_n hC 0 dX11_removeAxiom_0 rfl rfl ?_
  refine j_iconst hC dX11_removeAxiom_1 ?_
  obtain ⟨M8, eM8, h⟩ := zlet_ex h
  refine j_put hC dX11_removeAxiom_2 f_X11_104 pF_X11 (zFx_kd hF 48 rfl) (Or.inl rfl) rfl 0 rfl (w_id kR_0) kR_0 eM8 ?_
  refine j_iload_n hC 1 dX11_removeAxiom_5 rfl rfl ?_
  refine j_iconst hC dX11_removeAxiom_6 ?_
  refine j_aload_n hC 0 dX11_removeAxiom_7 rfl rfl ?_
  refine j_get hC dX11_removeAxiom_8 f_X11_128 (zFx_kd hF 48 rfl) rfl 2 rfl (fun hg9 => ?_)
  refine j_iconst hC dX11_removeAxiom_11 ?_
  refine j_isub hC dX11_removeAxiom_12 ?_
  obtain ⟨r10, hy, h⟩ := zb1_ex h
  refine j_callSi hC hE lk_X11_124 dX11_removeAxiom_13 (c_X11_isIn l hlt g v1 0 (w ((M8 48 2) - 1)) hv1 kR_0 (inR_w _) M8 S hy) [.int (zi v1), .int (zi 0), .int (zi ((M8 48 2) - 1))] [] rfl (by simp only [zi_w, zl_wl]) rfl (zcat (Nat.le_of_ble_eq_true rfl)) (Nat.le_of_ble_eq_true rfl) (Nat.le_of_ble_eq_true rfl) (Nat.le_of_ble_eq_true rfl) (Nat.le_of_ble_eq_true rfl) (fun hp11 => ?_)
  have hr10 := hp11
  refine j_if_ne hC dX11_removeAxiom_16 rfl (w_id hr10) (fun c12 => ?_) (fun c12 => ?_)
  · have h := zf c12 h
    refine j_aload_n hC 0 dX11_removeAxiom_25 rfl rfl ?_
    refine j_dup hC dX11_removeAxiom_26 (zr_cat _ _) ?_
    refine j_get hC dX11_removeAxiom_27 f_X11_128 (zFx_kd hF 48 rfl) rfl 2 rfl (fun hg13 => ?_)
    refine j_iconst hC dX11_removeAxiom_30 ?_
    refine j_isub hC dX11_removeAxiom_31 ?_
    obtain ⟨M14, eM14, h⟩ := zlet_ex h
    refine j_put hC dX11_removeAxiom_32 f_X11_128 pF_X11 (zFx_kd hF 48 rfl) (Or.inl rfl) rfl 2 rfl rfl (inR_w _) eM14 ?_
    refine j_iload_n hC 1 dX11_removeAxiom_35 rfl rfl ?_
    refine j_istore_n hC dX11_removeAxiom_36 rfl (Nat.le_of_ble_eq_true rfl) rfl ?_
    refine j_sub [1, 0] rfl ?_
    exact L_37 v1 hv1 M14 h
  · have h := zt c12 h
    refine j_aload_n hC 0 dX11_removeAxiom_19 rfl rfl ?_
    refine j_iconst hC dX11_removeAxiom_20 ?_
    obtain ⟨M15, eM15, h⟩ := zlet_ex h
    refine j_put hC dX11_removeAxiom_21 f_X11_104 pF_X11 (zFx_kd hF 48 rfl) (Or.inl rfl) rfl 0 rfl (w_id kR_1) kR_1 eM15 ?_
    have e1 := Option.some.inj h
    exact j_vret hC hE dX11_removeAxiom_24 rfl e1 rfl trivial (Nat.le_of_ble_eq_true rfl) (Nat.le_of_ble_eq_true rfl)
set_option maxHeartbeats 4000000 in
set_option maxRecDepth 100000 in
theorem c_X11_removeContext (l : Launch) (hlt : l.stackTraces = false) (g : zG) (v1 : Int) (hv1 : inR v1) (M : zM) (S : zS) (hF : zFx S) {M' : zM} (h : F_X11_removeContext v1 M = some M') : zMet l g yX11_removeContext cX11_removeContext 4 none 3 0 0 [zr g 48, .int (zi v1)] M S (.inl none) M' S (True) := by
  refine zMet_of (by decide) hlt [(0, zr g 48), (1, .int (zi v1))] rfl (Nat.le_of_ble_eq_true rfl) (fun K hC hE hN => ?_)
  unfold F_X11_removeContext at h
  have J_125 : ∀ (M : zM) (_ : F_X11_removeContext_J125 M = some M'), zJ K g 0 0 125 4 [] [] M S := by
    intro M h
    unfold F_X11_removeContext_J125 at h
    have e1 := Option.some.inj h
    exact j_vret hC hE dX11_removeContext_125 rfl e1 rfl trivial (Nat.le_of_ble_eq_true rfl) (Nat.le_of_ble_eq_true rfl)
  have L_31 : ∀ (v2 : Int) (hv2 : inR v2) (M : zM) (_ : F_X11_removeContext_L31 v2 M = some M'), zJ K g 0 0 31 4 [(0, zr g 48), (2, .int (zi v2))] [] M S := by
    intro v2 hv2 M h
    unfold F_X11_removeContext_L31 at h
    obtain ⟨ex31, hl, hd31⟩ := zb1_ex h
    obtain ⟨bd31, ebd⟩ : ∃ f, f = (fun (s : Int × zM) => F_X11_removeContext_B31 s.1 s.2) := ⟨_, rfl⟩
    rw [← ebd] at hl
    have main : ∀ (n31 : Nat) (v2 : Int) (hv2 : inR v2) (M : zM) (_ : zloop bd31 n31 (v2, M) = some ex31), zJ K g 0 0 31 4 [(0, zr g 48), (2, .int (zi v2))] [] M S := by
      intro n31
      induction n31 with
      | zero => intro v2 hv2 M hl; exact zloop_0 hl
      | succ n31 ih31 =>
        have J_119 : ∀ (v2 : Int) (hv2 : inR v2) (M : zM) (o : _) (_ : F_X11_removeContext_J119 v2 M = some o), zAft (bd31) n31 ex31 o → zJ K g 0 0 119 4 [(0, zr g 48), (2, .int (zi v2))] [] M S := by
          intro v2 hv2 M o h hT
          unfold F_X11_removeContext_J119 at h
          obtain ⟨x1, ex1, h⟩ := zlet_ex h
          have hx1 : inR x1 := by rw [ex1]; exact inR_w _
          refine j_iinc hC 1 dX11_removeContext_119 rfl ex1 (Nat.le_of_ble_eq_true rfl) rfl ?_
          refine j_goto hC dX11_removeContext_122 rfl ?_
          obtain rfl := Option.some.inj h
          refine j_sub [1, 0] rfl ?_
          exact ih31 x1 hx1 M hT
        have L_83 : ∀ (v2 : Int) (v3 : Int) (hv2 : inR v2) (hv3 : inR v3) (M : zM) (o : _) (_ : F_X11_removeContext_L83 v2 v3 M = some o), zAft (bd31) n31 ex31 o → zJ K g 0 0 83 4 [(0, zr g 48), (2, .int (zi v2)), (3, .int (zi v3))] [] M S := by
          intro v2 v3 hv2 hv3 M oh83 h hT83
          unfold F_X11_removeContext_L83 at h
          obtain ⟨ex83, hl, hd83⟩ := zb1_ex h
          obtain ⟨bd83, ebd⟩ : ∃ f, f = (fun (s : Int × zM) => F_X11_removeContext_B83 v2 s.1 s.2) := ⟨_, rfl⟩
          rw [← ebd] at hl
          have main : ∀ (n83 : Nat) (v3 : Int) (hv3 : inR v3) (M : zM) (_ : zloop bd83 n83 (v3, M) = some ex83), zJ K g 0 0 83 4 [(0, zr g 48), (2, .int (zi v2)), (3, .int (zi v3))] [] M S := by
            intro n83
            induction n83 with
            | zero => intro v3 hv3 M hl; exact zloop_0 hl
            | succ n83 ih83 =>
              intro v3 hv3 M hl
              obtain ⟨o, h, hT⟩ := zloop_ex hl
              have h : F_X11_removeContext_B83 v2 v3 M = some o := by rw [ebd] at h; exact h
              unfold F_X11_removeContext_B83 at h
              refine j_iload_n hC 2 dX11_removeContext_83 rfl rfl ?_
              refine j_bipush hC dX11_removeContext_84 rfl ?_
              refine j_icmp_ge hC dX11_removeContext_86 rfl (w_id hv3) (w_id kR_60) (fun c2 => ?_) (fun c2 => ?_)
              · have h := zf c2 h
                obtain rfl := Option.some.inj h
                have hx83 := hd83
                rw [← show _ = ex83 from hT] at hx83
                refine j_sub [0, 1] rfl ?_
                exact J_119 v2 hv2 M _ hx83 hT83
              · have h := zt c2 h
                refine j_aload_n hC 0 dX11_removeContext_89 rfl rfl ?_
                refine j_getq (q := 52) hC dX11_removeContext_90 f_X11_19 (zFx_kd hF 48 rfl) rfl 5 rfl (zFx_rf hF 48 5 rfl) ?_
                refine j_bipush hC dX11_removeContext_93 rfl ?_
                refine j_iload_n hC 1 dX11_removeContext_95 rfl rfl ?_
                refine j_imul hC dX11_removeContext_96 ?_
                refine j_iload_n hC 2 dX11_removeContext_97 rfl rfl ?_
                refine j_iadd hC dX11_removeContext_98 ?_
                refine j_aload_n hC 0 dX11_removeContext_99 rfl rfl ?_
                refine j_getq (q := 52) hC dX11_removeContext_100 f_X11_19 (zFx_kd hF 48 rfl) rfl 5 rfl (zFx_rf hF 48 5 rfl) ?_
                refine j_bipush hC dX11_removeContext_103 rfl ?_
                refine j_iload_n hC 1 dX11_removeContext_105 rfl rfl ?_
                refine j_iconst hC dX11_removeContext_106 ?_
                refine j_iadd hC dX11_removeContext_107 ?_
                refine j_imul hC dX11_removeContext_108 ?_
                refine j_iload_n hC 2 dX11_removeContext_109 rfl rfl ?_
                refine j_iadd hC dX11_removeContext_110 ?_
                obtain ⟨c3, h⟩ := zchk_ex h
                refine j_iald (n := 300) hC dX11_removeContext_111 rfl (zFx_kd hF 52 rfl) (zFx_ln hF 52 rfl) c3.1 c3.2 (fun hg4 => ?_)
                obtain ⟨c5, h⟩ := zchk_ex h
                obtain ⟨M6, eM6, h⟩ := zlet_ex h
                refine j_iast (n := 300) hC dX11_removeContext_112 rfl (w_id hg4) hg4 (zFx_kd hF 52 rfl) (zFx_ln hF 52 rfl) c5.1 c5.2 eM6 ?_
                obtain ⟨x7, ex7, h⟩ := zlet_ex h
                have hx7 : inR x7 := by rw [ex7]; exact inR_w _
                refine j_iinc hC 2 dX11_removeContext_113 rfl ex7 (Nat.le_of_ble_eq_true rfl) rfl ?_
                refine j_goto hC dX11_removeContext_116 rfl ?_
                obtain rfl := Option.some.inj h
                refine j_sub [1, 2, 0] rfl ?_
                exact ih83 x7 hx7 M6 hT
          exact main zN v3 hv3 M hl
        intro v2 hv2 M hl
        obtain ⟨o, h, hT⟩ := zloop_ex hl
        have h : F_X11_removeContext_B31 v2 M = some o := by rw [ebd] at h; exact h
        unfold F_X11_removeContext_B31 at h
        refine j_iload_n hC 1 dX11_removeContext_31 rfl rfl ?_
        refine j_aload_n hC 0 dX11_removeContext_32 rfl rfl ?_
        refine j_get hC dX11_removeContext_33 f_X11_121 (zFx_kd hF 48 rfl) rfl 7 rfl (fun hg8 => ?_)
        refine j_icmp_ge hC dX11_removeContext_36 rfl (w_id hv2) (w_id hg8) (fun c9 => ?_) (fun c9 => ?_)
        · have h := zf c9 h
          obtain rfl := Option.some.inj h
          have hx31 := hd31
          rw [← show _ = ex31 from hT] at hx31
          refine j_sub [] rfl ?_
          exact J_125 M hx31
        · have h := zt c9 h
          refine j_aload_n hC 0 dX11_removeContext_39 rfl rfl ?_
          refine j_getq (q := 50) hC dX11_removeContext_40 f_X11_13 (zFx_kd hF 48 rfl) rfl 3 rfl (zFx_rf hF 48 3 rfl) ?_
          refine j_iload_n hC 1 dX11_removeContext_43 rfl rfl ?_
          refine j_aload_n hC 0 dX11_removeContext_44 rfl rfl ?_
          refine j_getq (q := 50) hC dX11_removeContext_45 f_X11_13 (zFx_kd hF 48 rfl) rfl 3 rfl (zFx_rf hF 48 3 rfl) ?_
          refine j_iload_n hC 1 dX11_removeContext_48 rfl rfl ?_
          refine j_iconst hC dX11_removeContext_49 ?_
          refine j_iadd hC dX11_removeContext_50 ?_
          obtain ⟨c10, h⟩ := zchk_ex h
          refine j_iald (n := 5) hC dX11_removeContext_51 rfl (zFx_kd hF 50 rfl) (zFx_ln hF 50 rfl) c10.1 c10.2 (fun hg11 => ?_)
          obtain ⟨c12, h⟩ := zchk_ex h
          obtain ⟨M13, eM13, h⟩ := zlet_ex h
          refine j_iast (n := 5) hC dX11_removeContext_52 (w_id hv2) (w_id hg11) hg11 (zFx_kd hF 50 rfl) (zFx_ln hF 50 rfl) c12.1 c12.2 eM13 ?_
          refine j_aload_n hC 0 dX11_removeContext_53 rfl rfl ?_
          refine j_getq (q := 51) hC dX11_removeContext_54 f_X11_16 (zFx_kd hF 48 rfl) rfl 4 rfl (zFx_rf hF 48 4 rfl) ?_
          refine j_iload_n hC 1 dX11_removeContext_57 rfl rfl ?_
          refine j_aload_n hC 0 dX11_removeContext_58 rfl rfl ?_
          refine j_getq (q := 51) hC dX11_removeContext_59 f_X11_16 (zFx_kd hF 48 rfl) rfl 4 rfl (zFx_rf hF 48 4 rfl) ?_
          refine j_iload_n hC 1 dX11_removeContext_62 rfl rfl ?_
          refine j_iconst hC dX11_removeContext_63 ?_
          refine j_iadd hC dX11_removeContext_64 ?_
          obtain ⟨c14, h⟩ := zchk_ex h
          refine j_iald (n := 5) hC dX11_removeContext_65 rfl (zFx_kd hF 51 rfl) (zFx_ln hF 51 rfl) c14.1 c14.2 (fun hg15 => ?_)
          obtain ⟨c16, h⟩ := zchk_ex h
          obtain ⟨M17, eM17, h⟩ := zlet_ex h
          refine j_iast (n := 5) hC dX11_removeContext_66 (w_id hv2) (w_id hg15) hg15 (zFx_kd hF 51 rfl) (zFx_ln hF 51 rfl) c16.1 c16.2 eM17 ?_
          refine j_aload_n hC 0 dX11_removeContext_67 rfl rfl ?_
          refine j_getq (q := 53) hC dX11_removeContext_68 f_X11_22 (zFx_kd hF 48 rfl) rfl 6 rfl (zFx_rf hF 48 6 rfl) ?_
          refine j_iload_n hC 1 dX11_removeContext_71 rfl rfl ?_
          refine j_aload_n hC 0 dX11_removeContext_72 rfl rfl ?_
          refine j_getq (q := 53) hC dX11_removeContext_73 f_X11_22 (zFx_kd hF 48 rfl) rfl 6 rfl (zFx_rf hF 48 6 rfl) ?_
          refine j_iload_n hC 1 dX11_removeContext_76 rfl rfl ?_
          refine j_iconst hC dX11_removeContext_77 ?_
          refine j_iadd hC dX11_removeContext_78 ?_
          obtain ⟨c18, h⟩ := zchk_ex h
          refine j_iald (n := 5) hC dX11_removeContext_79 rfl (zFx_kd hF 53 rfl) (zFx_ln hF 53 rfl) c18.1 c18.2 (fun hg19 => ?_)
          obtain ⟨c20, h⟩ := zchk_ex h
          obtain ⟨M21, eM21, h⟩ := zlet_ex h
          refine j_iast (n := 5) hC dX11_removeContext_80 (w_id hv2) (w_id hg19) hg19 (zFx_kd hF 53 rfl) (zFx_ln hF 53 rfl) c20.1 c20.2 eM21 ?_
          refine j_iconst hC dX11_removeContext_81 ?_
          refine j_istore_n hC dX11_removeContext_82 rfl (Nat.le_of_ble_eq_true rfl) rfl ?_
          refine j_sub [1, 2, 0] rfl ?_
          exact L_83 v2 0 hv2 kR_0 M21 _ h hT
    exact main zN v2 hv2 M hl
  refine j_aload_n hC 0 dX11_removeContext_0 rfl rfl ?_
  refine j_iconst hC dX11_removeContext_1 ?_
  obtain ⟨M22, eM22, h⟩ := zlet_ex h
  refine j_put hC dX11_removeContext_2 f_X11_104 pF_X11 (zFx_kd hF 48 rfl) (Or.inl rfl) rfl 0 rfl (w_id kR_0) kR_0 eM22 ?_
  refine j_aload_n hC 0 dX11_removeContext_5 rfl rfl ?_
  refine j_iload_n hC 1 dX11_removeContext_6 rfl rfl ?_
  obtain ⟨r23, hy, h⟩ := zb1_ex h
  refine j_callVi (ci := 8) hC hE lk_X11_137 dX11_removeContext_7 (c_X11_isContext l hlt g v1 hv1 M22 S hF hy) [.int (zi v1)] [] (zFx_kd hF 48 rfl) ⟨_, rfl, by decide, rfl⟩ rfl rfl rfl (zcat (Nat.le_of_ble_eq_true rfl)) (Nat.le_of_ble_eq_true rfl) (Nat.le_of_ble_eq_true rfl) (Nat.le_of_ble_eq_true rfl) (Nat.le_of_ble_eq_true rfl) (fun hp24 => ?_)
  have hr23 := hp24
  refine j_if_ne hC dX11_removeContext_10 rfl (w_id hr23) (fun c25 => ?_) (fun c25 => ?_)
  · have h := zf c25 h
    refine j_aload_n hC 0 dX11_removeContext_19 rfl rfl ?_
    refine j_dup hC dX11_removeContext_20 (zr_cat _ _) ?_
    refine j_get hC dX11_removeContext_21 f_X11_121 (zFx_kd hF 48 rfl) rfl 7 rfl (fun hg26 => ?_)
    refine j_iconst hC dX11_removeContext_24 ?_
    refine j_isub hC dX11_removeContext_25 ?_
    obtain ⟨M27, eM27, h⟩ := zlet_ex h
    refine j_put hC dX11_removeContext_26 f_X11_121 pF_X11 (zFx_kd hF 48 rfl) (Or.inl rfl) rfl 7 rfl rfl (inR_w _) eM27 ?_
    refine j_iload_n hC 1 dX11_removeContext_29 rfl rfl ?_
    refine j_istore_n hC dX11_removeContext_30 rfl (Nat.le_of_ble_eq_true rfl) rfl ?_
    refine j_sub [1, 0] rfl ?_
    exact L_31 v1 hv1 M27 h
  · have h := zt c25 h
    refine j_aload_n hC 0 dX11_removeContext_13 rfl rfl ?_
    refine j_iconst hC dX11_removeContext_14 ?_
    obtain ⟨M28, eM28, h⟩ := zlet_ex h
    refine j_put hC dX11_removeContext_15 f_X11_104 pF_X11 (zFx_kd hF 48 rfl) (Or.inl rfl) rfl 0 rfl (w_id kR_1) kR_1 eM28 ?_
    have e1 := Option.some.inj h
    exact j_vret hC hE dX11_removeContext_18 rfl e1 rfl trivial (Nat.le_of_ble_eq_true rfl) (Nat.le_of_ble_eq_true rfl)
set_option maxHeartbeats 4000000 in
set_option maxRecDepth 100000 in
theorem c_X11_append (l : Launch) (hlt : l.stackTraces = false) (g : zG) (v1 : Int) (hv1 : inR v1) (M : zM) (S : zS) (hF : zFx S) {M' : zM} (h : F_X11_append v1 M = some M') : zMet l g yX11_append cX11_append 2 none 1 0 0 [zr g 48, .int (zi v1)] M S (.inl none) M' S (True) := by
  refine zMet_of (by decide) hlt [(0, zr g 48), (1, .int (zi v1))] rfl (Nat.le_of_ble_eq_true rfl) (fun K hC hE hN => ?_)
  unfold F_X11_append at h
  refine j_aload_n hC 0 dX11_append_0 rfl rfl ?_
  refine j_iconst hC dX11_append_1 ?_
  obtain ⟨M1, eM1, h⟩ := zlet_ex h
  refine j_put hC dX11_append_2 f_X11_104 pF_X11 (zFx_kd hF 48 rfl) (Or.inl rfl) rfl 0 rfl (w_id kR_0) kR_0 eM1 ?_
  refine j_aload_n hC 0 dX11_append_5 rfl rfl ?_
  refine j_get hC dX11_append_6 f_X11_131 (zFx_kd hF 48 rfl) rfl 11 rfl (fun hg2 => ?_)
  refine j_bipush hC dX11_append_9 rfl ?_
  refine j_icmp_ne hC dX11_append_11 rfl (w_id hg2) (w_id kR_60) (fun c3 => ?_) (fun c3 => ?_)
  · have h := zf c3 h
    refine j_aload_n hC 0 dX11_append_20 rfl rfl ?_
    refine j_getq (q := 54) hC dX11_append_21 f_X11_32 (zFx_kd hF 48 rfl) rfl 10 rfl (zFx_rf hF 48 10 rfl) ?_
    refine j_aload_n hC 0 dX11_append_24 rfl rfl ?_
    refine j_get hC dX11_append_25 f_X11_131 (zFx_kd hF 48 rfl) rfl 11 rfl (fun hg4 => ?_)
    refine j_iload_n hC 1 dX11_append_28 rfl rfl ?_
    obtain ⟨c5, h⟩ := zchk_ex h
    obtain ⟨c6, h⟩ := zchk_ex h
    obtain ⟨M7, eM7, h⟩ := zlet_ex h
    refine j_cast (n := 60) hC dX11_append_29 (w_id hg4) (w_id hv1) c6 (zFx_kd hF 54 rfl) (zFx_ln hF 54 rfl) c5.1 c5.2 eM7 ?_
    refine j_aload_n hC 0 dX11_append_30 rfl rfl ?_
    refine j_dup hC dX11_append_31 (zr_cat _ _) ?_
    refine j_get hC dX11_append_32 f_X11_131 (zFx_kd hF 48 rfl) rfl 11 rfl (fun hg8 => ?_)
    refine j_iconst hC dX11_append_35 ?_
    refine j_iadd hC dX11_append_36 ?_
    obtain ⟨M9, eM9, h⟩ := zlet_ex h
    refine j_put hC dX11_append_37 f_X11_131 pF_X11 (zFx_kd hF 48 rfl) (Or.inl rfl) rfl 11 rfl rfl (inR_w _) eM9 ?_
    have e1 := Option.some.inj h
    exact j_vret hC hE dX11_append_40 rfl e1 rfl trivial (Nat.le_of_ble_eq_true rfl) (Nat.le_of_ble_eq_true rfl)
  · have h := zt c3 h
    refine j_aload_n hC 0 dX11_append_14 rfl rfl ?_
    refine j_iconst hC dX11_append_15 ?_
    obtain ⟨M10, eM10, h⟩ := zlet_ex h
    refine j_put hC dX11_append_16 f_X11_104 pF_X11 (zFx_kd hF 48 rfl) (Or.inl rfl) rfl 0 rfl (w_id kR_1) kR_1 eM10 ?_
    have e1 := Option.some.inj h
    exact j_vret hC hE dX11_append_19 rfl e1 rfl trivial (Nat.le_of_ble_eq_true rfl) (Nat.le_of_ble_eq_true rfl)
set_option maxHeartbeats 4000000 in
set_option maxRecDepth 100000 in
theorem c_X11_sign (l : Launch) (hlt : l.stackTraces = false) (g : zG) (M : zM) (S : zS) (hF : zFx S) {r : Int} (h : F_X11_sign M = some r) : zMet l g yX11_sign cX11_sign 1 (some .int) 1 0 0 [zr g 48] M S (.inl (some (.int (zi r)))) M S (inR r) := by
  refine zMet_of (by decide) hlt [(0, zr g 48)] rfl (Nat.le_of_ble_eq_true rfl) (fun K hC hE hN => ?_)
  unfold F_X11_sign at h
  refine j_aload_n hC 0 dX11_sign_0 rfl rfl ?_
  refine j_get hC dX11_sign_1 f_X11_141 (zFx_kd hF 48 rfl) rfl 13 rfl (fun hg1 => ?_)
  refine j_aload_n hC 0 dX11_sign_4 rfl rfl ?_
  refine j_get hC dX11_sign_5 f_X11_144 (zFx_kd hF 48 rfl) rfl 12 rfl (fun hg2 => ?_)
  refine j_icmp_ge hC dX11_sign_8 rfl (w_id hg1) (w_id hg2) (fun c3 => ?_) (fun c3 => ?_)
  · have h := zf c3 h
    refine j_iconst hC dX11_sign_23 ?_
    have e1 := Option.some.inj h
    exact j_iret hC hE dX11_sign_24 (w_id kR_m1) (zn_i _) (by rw [← e1]) rfl rfl (by rw [← e1]; exact kR_m1) (Nat.le_of_ble_eq_true rfl) (Nat.le_of_ble_eq_true rfl)
  · have h := zt c3 h
    refine j_aload_n hC 0 dX11_sign_11 rfl rfl ?_
    refine j_getq (q := 54) hC dX11_sign_12 f_X11_32 (zFx_kd hF 48 rfl) rfl 10 rfl (zFx_rf hF 48 10 rfl) ?_
    refine j_aload_n hC 0 dX11_sign_15 rfl rfl ?_
    refine j_get hC dX11_sign_16 f_X11_141 (zFx_kd hF 48 rfl) rfl 13 rfl (fun hg4 => ?_)
    obtain ⟨c5, h⟩ := zchk_ex h
    refine j_cald (n := 60) hC dX11_sign_19 (w_id hg4) (zFx_kd hF 54 rfl) (zFx_ln hF 54 rfl) c5.1 c5.2 (fun hg6 => ?_)
    refine j_goto hC dX11_sign_20 rfl ?_
    have e1 := Option.some.inj h
    exact j_iret hC hE dX11_sign_24 (w_id (inR_c hg6)) (zn_i _) (by rw [← e1]) rfl rfl (by rw [← e1]; exact (inR_c hg6)) (Nat.le_of_ble_eq_true rfl) (Nat.le_of_ble_eq_true rfl)
set_option maxHeartbeats 4000000 in
set_option maxRecDepth 100000 in
theorem c_X11_goes (l : Launch) (hlt : l.stackTraces = false) (g : zG) (v1 : Int) (hv1 : inR v1) (M : zM) (S : zS) (hF : zFx S) {r : Int} {M' : zM} (h : F_X11_goes v1 M = some (r, M')) : zMet l g yX11_goes cX11_goes 3 (some .boolean) 2 0 0 [zr g 48, .int (zi v1)] M S (.inl (some (.int (zi r)))) M' S (inR r) := by
  refine zMet_of (by decide) hlt [(0, zr g 48), (1, .int (zi v1))] rfl (Nat.le_of_ble_eq_true rfl) (fun K hC hE hN => ?_)
  unfold F_X11_goes at h
  have J_35 : ∀ (v2 : Int) (t1 : Int) (t2 : Int) (hv2 : inR v2) (ht1 : inR t1) (ht2 : inR t2) (M : zM) (_ : F_X11_goes_J35 v2 t1 t2 M = some (r, M')), zJ K g 0 0 35 3 [(2, .int (zi v2))] [.int (zi t2), .int (zi t1), zr g 48] M S := by
    intro v2 t1 t2 hv2 ht1 ht2 M h
    unfold F_X11_goes_J35 at h
    refine j_iadd hC dX11_goes_35 ?_
    obtain ⟨M1, eM1, h⟩ := zlet_ex h
    refine j_put hC dX11_goes_36 f_X11_141 pF_X11 (zFx_kd hF 48 rfl) (Or.inl rfl) rfl 13 rfl rfl (inR_w _) eM1 ?_
    refine j_iload_n hC 0 dX11_goes_39 rfl rfl ?_
    obtain ⟨c2, h⟩ := zchk_ex h
    obtain ⟨e1, e2⟩ := zpr2 (Option.some.inj h)
    exact j_iret hC hE dX11_goes_40 (w_id hv2) (zn_z c2) (by rw [← e1]) e2 rfl (by rw [← e1]; exact hv2) (Nat.le_of_ble_eq_true rfl) (Nat.le_of_ble_eq_true rfl)
  have J_20 : ∀ (t0 : Int) (ht0 : inR t0) (M : zM) (_ : F_X11_goes_J20 t0 M = some (r, M')), zJ K g 0 0 20 3 [(0, zr g 48)] [.int (zi t0)] M S := by
    intro t0 ht0 M h
    unfold F_X11_goes_J20 at h
    refine j_istore_n hC dX11_goes_20 rfl (Nat.le_of_ble_eq_true rfl) rfl ?_
    refine j_aload_n hC 1 dX11_goes_21 rfl rfl ?_
    refine j_dup hC dX11_goes_22 (zr_cat _ _) ?_
    refine j_get hC dX11_goes_23 f_X11_141 (zFx_kd hF 48 rfl) rfl 13 rfl (fun hg3 => ?_)
    refine j_iload_n hC 0 dX11_goes_26 rfl rfl ?_
    refine j_if_eq hC dX11_goes_27 rfl (w_id ht0) (fun c4 => ?_) (fun c4 => ?_)
    · have h := zt c4 h
      refine j_iconst hC dX11_goes_34 ?_
      refine j_sub [0] rfl ?_
      exact J_35 t0 (M 48 13) 0 ht0 hg3 kR_0 M h
    · have h := zf c4 h
      refine j_iconst hC dX11_goes_30 ?_
      refine j_goto hC dX11_goes_31 rfl ?_
      refine j_sub [0] rfl ?_
      exact J_35 t0 (M 48 13) 1 ht0 hg3 kR_1 M h
  have J_19 : ∀ (M : zM) (_ : F_X11_goes_J19 M = some (r, M')), zJ K g 0 0 19 3 [(0, zr g 48)] [] M S := by
    intro M h
    unfold F_X11_goes_J19 at h
    refine j_iconst hC dX11_goes_19 ?_
    exact J_20 0 kR_0 M h
  refine j_aload_n hC 0 dX11_goes_0 rfl rfl ?_
  refine j_get hC dX11_goes_1 f_X11_36 (zFx_kd hF 48 rfl) rfl 14 rfl (fun hg5 => ?_)
  refine j_if_ge hC dX11_goes_4 rfl (w_id hg5) (fun c6 => ?_) (fun c6 => ?_)
  · have h := zf c6 h
    refine j_sub [0] rfl ?_
    exact J_19 M h
  · have h := zt c6 h
    refine j_aload_n hC 0 dX11_goes_7 rfl rfl ?_
    obtain ⟨r7, hy, h⟩ := zb1_ex h
    refine j_callVi (ci := 8) hC hE lk_X11_147 dX11_goes_8 (c_X11_sign l hlt g M S hF hy) [] [] (zFx_kd hF 48 rfl) ⟨_, rfl, by decide, rfl⟩ rfl rfl rfl (zcat (Nat.le_of_ble_eq_true rfl)) (Nat.le_of_ble_eq_true rfl) (Nat.le_of_ble_eq_true rfl) (Nat.le_of_ble_eq_true rfl) (Nat.le_of_ble_eq_true rfl) (fun hp8 => ?_)
    have hr7 := hp8
    refine j_iload_n hC 1 dX11_goes_11 rfl rfl ?_
    refine j_icmp_ne hC dX11_goes_12 rfl (w_id hr7) (w_id hv1) (fun c9 => ?_) (fun c9 => ?_)
    · have h := zf c9 h
      refine j_sub [0] rfl ?_
      exact J_19 M h
    · have h := zt c9 h
      refine j_iconst hC dX11_goes_15 ?_
      refine j_goto hC dX11_goes_16 rfl ?_
      refine j_sub [0] rfl ?_
      exact J_20 1 kR_1 M h
set_option maxHeartbeats 4000000 in
set_option maxRecDepth 100000 in
theorem c_X11_expect (l : Launch) (hlt : l.stackTraces = false) (g : zG) (v1 : Int) (hv1 : inR v1) (M : zM) (S : zS) (hF : zFx S) {M' : zM} (h : F_X11_expect v1 M = some M') : zMet l g yX11_expect cX11_expect 2 none 3 0 0 [zr g 48, .int (zi v1)] M S (.inl none) M' S (True) := by
  refine zMet_of (by decide) hlt [(0, zr g 48), (1, .int (zi v1))] rfl (Nat.le_of_ble_eq_true rfl) (fun K hC hE hN => ?_)
  unfold F_X11_expect at h
  refine j_aload_n hC 0 dX11_expect_0 rfl rfl ?_
  refine j_iload_n hC 1 dX11_expect_1 rfl rfl ?_
  obtain ⟨r1, M2, hy, h⟩ := zb2_ex h
  refine j_callVi (ci := 8) hC hE lk_X11_151 dX11_expect_2 (c_X11_goes l hlt g v1 hv1 M S hF hy) [.int (zi v1)] [] (zFx_kd hF 48 rfl) ⟨_, rfl, by decide, rfl⟩ rfl rfl rfl (zcat (Nat.le_of_ble_eq_true rfl)) (Nat.le_of_ble_eq_true rfl) (Nat.le_of_ble_eq_true rfl) (Nat.le_of_ble_eq_true rfl) (Nat.le_of_ble_eq_true rfl) (fun hp3 => ?_)
  have hr1 := hp3
  refine j_if_ne hC dX11_expect_5 rfl (w_id hr1) (fun c4 => ?_) (fun c4 => ?_)
  · have h := zf c4 h
    have e1 := Option.some.inj h
    exact j_vret hC hE dX11_expect_23 rfl e1 rfl trivial (Nat.le_of_ble_eq_true rfl) (Nat.le_of_ble_eq_true rfl)
  · have h := zt c4 h
    refine j_aload_n hC 0 dX11_expect_8 rfl rfl ?_
    refine j_get hC dX11_expect_9 f_X11_36 (zFx_kd hF 48 rfl) rfl 14 rfl (fun hg5 => ?_)
    refine j_if_ge hC dX11_expect_12 rfl (w_id hg5) (fun c6 => ?_) (fun c6 => ?_)
    · have h := zf c6 h
      have e1 := Option.some.inj h
      exact j_vret hC hE dX11_expect_23 rfl e1 rfl trivial (Nat.le_of_ble_eq_true rfl) (Nat.le_of_ble_eq_true rfl)
    · have h := zt c6 h
      refine j_aload_n hC 0 dX11_expect_15 rfl rfl ?_
      refine j_aload_n hC 0 dX11_expect_16 rfl rfl ?_
      refine j_get hC dX11_expect_17 f_X11_141 (zFx_kd hF 48 rfl) rfl 13 rfl (fun hg7 => ?_)
      obtain ⟨M8, eM8, h⟩ := zlet_ex h
      refine j_put hC dX11_expect_20 f_X11_36 pF_X11 (zFx_kd hF 48 rfl) (Or.inl rfl) rfl 14 rfl (w_id hg7) hg7 eM8 ?_
      have e1 := Option.some.inj h
      exact j_vret hC hE dX11_expect_23 rfl e1 rfl trivial (Nat.le_of_ble_eq_true rfl) (Nat.le_of_ble_eq_true rfl)
set_option maxHeartbeats 4000000 in
set_option maxRecDepth 100000 in
theorem c_X11_isLetter (l : Launch) (hlt : l.stackTraces = false) (g : zG) (M : zM) (S : zS) (hF : zFx S) {r : Int} (h : F_X11_isLetter M = some r) : zMet l g yX11_isLetter cX11_isLetter 1 (some .boolean) 2 0 0 [zr g 48] M S (.inl (some (.int (zi r)))) M S (inR r) := by
  refine zMet_of (by decide) hlt [(0, zr g 48)] rfl (Nat.le_of_ble_eq_true rfl) (fun K hC hE hN => ?_)
  unfold F_X11_isLetter at h
  have J_25 : ∀ (_ : F_X11_isLetter_J25 M = some r), zJ K g 0 0 25 1 [] [] M S := by
    intro h
    unfold F_X11_isLetter_J25 at h
    refine j_iconst hC dX11_isLetter_25 ?_
    have e1 := Option.some.inj h
    exact j_iret hC hE dX11_isLetter_26 (w_id kR_0) (zn_z zb01_0) (by rw [← e1]) rfl rfl (by rw [← e1]; exact kR_0) (Nat.le_of_ble_eq_true rfl) (Nat.le_of_ble_eq_true rfl)
  refine j_aload_n hC 0 dX11_isLetter_0 rfl rfl ?_
  refine j_get hC dX11_isLetter_1 f_X11_36 (zFx_kd hF 48 rfl) rfl 14 rfl (fun hg1 => ?_)
  refine j_if_ge hC dX11_isLetter_4 rfl (w_id hg1) (fun c2 => ?_) (fun c2 => ?_)
  · have h := zf c2 h
    refine j_sub [] rfl ?_
    exact J_25 h
  · have h := zt c2 h
    refine j_aload_n hC 0 dX11_isLetter_7 rfl rfl ?_
    obtain ⟨r3, hy, h⟩ := zb1_ex h
    refine j_callVi (ci := 8) hC hE lk_X11_147 dX11_isLetter_8 (c_X11_sign l hlt g M S hF hy) [] [] (zFx_kd hF 48 rfl) ⟨_, rfl, by decide, rfl⟩ rfl rfl rfl (zcat (Nat.le_of_ble_eq_true rfl)) (Nat.le_of_ble_eq_true rfl) (Nat.le_of_ble_eq_true rfl) (Nat.le_of_ble_eq_true rfl) (Nat.le_of_ble_eq_true rfl) (fun hp4 => ?_)
    have hr3 := hp4
    refine j_bipush hC dX11_isLetter_11 rfl ?_
    refine j_bipush hC dX11_isLetter_13 rfl ?_
    obtain ⟨r5, hy, h⟩ := zb1_ex h
    refine j_callSi hC hE lk_X11_124 dX11_isLetter_15 (c_X11_isIn l hlt g r3 97 99 hr3 kR_97 kR_99 M S hy) [.int (zi r3), .int (zi 97), .int (zi 99)] [] rfl rfl rfl (zcat (Nat.le_of_ble_eq_true rfl)) (Nat.le_of_ble_eq_true rfl) (Nat.le_of_ble_eq_true rfl) (Nat.le_of_ble_eq_true rfl) (Nat.le_of_ble_eq_true rfl) (fun hp6 => ?_)
    have hr5 := hp6
    refine j_if_eq hC dX11_isLetter_18 rfl (w_id hr5) (fun c7 => ?_) (fun c7 => ?_)
    · have h := zt c7 h
      refine j_sub [] rfl ?_
      exact J_25 h
    · have h := zf c7 h
      refine j_iconst hC dX11_isLetter_21 ?_
      refine j_goto hC dX11_isLetter_22 rfl ?_
      have e1 := Option.some.inj h
      exact j_iret hC hE dX11_isLetter_26 (w_id kR_1) (zn_z zb01_1) (by rw [← e1]) rfl rfl (by rw [← e1]; exact kR_1) (Nat.le_of_ble_eq_true rfl) (Nat.le_of_ble_eq_true rfl)
set_option maxHeartbeats 4000000 in
set_option maxRecDepth 100000 in
theorem c_X11_readWord (l : Launch) (hlt : l.stackTraces = false) (g : zG) (v1 : Int) (v2 : Int) (hv1 : inR v1) (hv2 : inR v2) (M : zM) (S : zS) (hF : zFx S) {r : Int} {M' : zM} (h : F_X11_readWord v1 v2 M = some (r, M')) : zMet l g yX11_readWord cX11_readWord 5 (some .int) 5 0 0 [zr g 48, .int (zi v1), .int (zi v2)] M S (.inl (some (.int (zi r)))) M' S (inR r) := by
  refine zMet_of (by decide) hlt [(0, zr g 48), (1, .int (zi v1)), (2, .int (zi v2))] rfl (Nat.le_of_ble_eq_true rfl) (fun K hC hE hN => ?_)
  unfold F_X11_readWord at h
  have J_48 : ∀ (v1 : Int) (v3 : Int) (v4 : Int) (hv1 : inR v1) (hv3 : inR v3) (hv4 : inR v4) (M : zM) (_ : F_X11_readWord_J48 v1 v3 v4 M = some (r, M')), zJ K g 0 0 48 5 [(0, zr g 48), (1, .int (zi v1)), (3, .int (zi v3)), (4, .int (zi v4))] [] M S := by
    intro v1 v3 v4 hv1 hv3 hv4 M h
    unfold F_X11_readWord_J48 at h
    refine j_iload hC 3 dX11_readWord_48 rfl ?_
    refine j_iload_n hC 1 dX11_readWord_50 rfl rfl ?_
    refine j_icmp_ge hC dX11_readWord_51 rfl (w_id hv4) (w_id hv1) (fun c1 => ?_) (fun c1 => ?_)
    · have h := zf c1 h
      refine j_iload_n hC 2 dX11_readWord_69 rfl rfl ?_
      obtain ⟨e1, e2⟩ := zpr2 (Option.some.inj h)
      exact j_iret hC hE dX11_readWord_70 (w_id hv3) (zn_i _) (by rw [← e1]) e2 rfl (by rw [← e1]; exact hv3) (Nat.le_of_ble_eq_true rfl) (Nat.le_of_ble_eq_true rfl)
    · have h := zt c1 h
      refine j_aload_n hC 0 dX11_readWord_54 rfl rfl ?_
      refine j_get hC dX11_readWord_55 f_X11_36 (zFx_kd hF 48 rfl) rfl 14 rfl (fun hg2 => ?_)
      refine j_if_ge hC dX11_readWord_58 rfl (w_id hg2) (fun c3 => ?_) (fun c3 => ?_)
      · have h := zf c3 h
        refine j_iload_n hC 2 dX11_readWord_69 rfl rfl ?_
        obtain ⟨e1, e2⟩ := zpr2 (Option.some.inj h)
        exact j_iret hC hE dX11_readWord_70 (w_id hv3) (zn_i _) (by rw [← e1]) e2 rfl (by rw [← e1]; exact hv3) (Nat.le_of_ble_eq_true rfl) (Nat.le_of_ble_eq_true rfl)
      · have h := zt c3 h
        refine j_aload_n hC 0 dX11_readWord_61 rfl rfl ?_
        refine j_aload_n hC 0 dX11_readWord_62 rfl rfl ?_
        refine j_get hC dX11_readWord_63 f_X11_141 (zFx_kd hF 48 rfl) rfl 13 rfl (fun hg4 => ?_)
        obtain ⟨M5, eM5, h⟩ := zlet_ex h
        refine j_put hC dX11_readWord_66 f_X11_36 pF_X11 (zFx_kd hF 48 rfl) (Or.inl rfl) rfl 14 rfl (w_id hg4) hg4 eM5 ?_
        refine j_iload_n hC 2 dX11_readWord_69 rfl rfl ?_
        obtain ⟨e1, e2⟩ := zpr2 (Option.some.inj h)
        exact j_iret hC hE dX11_readWord_70 (w_id hv3) (zn_i _) (by rw [← e1]) e2 rfl (by rw [← e1]; exact hv3) (Nat.le_of_ble_eq_true rfl) (Nat.le_of_ble_eq_true rfl)
  have L_5 : ∀ (v1 : Int) (v2 : Int) (v3 : Int) (v4 : Int) (hv1 : inR v1) (hv2 : inR v2) (hv3 : inR v3) (hv4 : inR v4) (M : zM) (_ : F_X11_readWord_L5 v1 v2 v3 v4 M = some (r, M')), zJ K g 0 0 5 5 [(0, zr g 48), (1, .int (zi v1)), (2, .int (zi v2)), (3, .int (zi v3)), (4, .int (zi v4))] [] M S := by
    intro v1 v2 v3 v4 hv1 hv2 hv3 hv4 M h
    unfold F_X11_readWord_L5 at h
    obtain ⟨ex5, hl, hd5⟩ := zb1_ex h
    obtain ⟨bd5, ebd⟩ : ∃ f, f = (fun (s : Int × Int × zM) => F_X11_readWord_B5 v1 v2 s.1 s.2.1 s.2.2) := ⟨_, rfl⟩
    rw [← ebd] at hl
    have main : ∀ (n5 : Nat) (v3 : Int) (v4 : Int) (hv3 : inR v3) (hv4 : inR v4) (M : zM) (_ : zloop bd5 n5 (v3, v4, M) = some ex5), zJ K g 0 0 5 5 [(0, zr g 48), (1, .int (zi v1)), (2, .int (zi v2)), (3, .int (zi v3)), (4, .int (zi v4))] [] M S := by
      intro n5
      induction n5 with
      | zero => intro v3 v4 hv3 hv4 M hl; exact zloop_0 hl
      | succ n5 ih5 =>
        intro v3 v4 hv3 hv4 M hl
        obtain ⟨o, h, hT⟩ := zloop_ex hl
        have h : F_X11_readWord_B5 v1 v2 v3 v4 M = some o := by rw [ebd] at h; exact h
        unfold F_X11_readWord_B5 at h
        refine j_iload hC 4 dX11_readWord_5 rfl ?_
        refine j_iload_n hC 2 dX11_readWord_7 rfl rfl ?_
        refine j_icmp_ge hC dX11_readWord_8 rfl (w_id hv4) (w_id hv2) (fun c6 => ?_) (fun c6 => ?_)
        · have h := zf c6 h
          obtain rfl := Option.some.inj h
          have hx5 := hd5
          rw [← show _ = ex5 from hT] at hx5
          refine j_sub [0, 1, 3, 4] rfl ?_
          exact J_48 v1 v3 v4 hv1 hv3 hv4 M hx5
        · have h := zt c6 h
          refine j_aload_n hC 0 dX11_readWord_11 rfl rfl ?_
          obtain ⟨r7, hy, h⟩ := zb1_ex h
          refine j_callVi (ci := 8) hC hE lk_X11_155 dX11_readWord_12 (c_X11_isLetter l hlt g M S hF hy) [] [] (zFx_kd hF 48 rfl) ⟨_, rfl, by decide, rfl⟩ rfl rfl rfl (zcat (Nat.le_of_ble_eq_true rfl)) (Nat.le_of_ble_eq_true rfl) (Nat.le_of_ble_eq_true rfl) (Nat.le_of_ble_eq_true rfl) (Nat.le_of_ble_eq_true rfl) (fun hp8 => ?_)
          have hr7 := hp8
          refine j_if_eq hC dX11_readWord_15 rfl (w_id hr7) (fun c9 => ?_) (fun c9 => ?_)
          · have h := zt c9 h
            obtain rfl := Option.some.inj h
            have hx5 := hd5
            rw [← show _ = ex5 from hT] at hx5
            refine j_sub [0, 1, 3, 4] rfl ?_
            exact J_48 v1 v3 v4 hv1 hv3 hv4 M hx5
          · have h := zf c9 h
            refine j_iload_n hC 3 dX11_readWord_18 rfl rfl ?_
            refine j_iconst hC dX11_readWord_19 ?_
            refine j_aload_n hC 0 dX11_readWord_20 rfl rfl ?_
            obtain ⟨r10, hy, h⟩ := zb1_ex h
            refine j_callVi (ci := 8) hC hE lk_X11_147 dX11_readWord_21 (c_X11_sign l hlt g M S hF hy) [] [.int (zi 1), .int (zi v3)] (zFx_kd hF 48 rfl) ⟨_, rfl, by decide, rfl⟩ rfl rfl rfl (zcat (Nat.le_of_ble_eq_true rfl)) (Nat.le_of_ble_eq_true rfl) (Nat.le_of_ble_eq_true rfl) (Nat.le_of_ble_eq_true rfl) (Nat.le_of_ble_eq_true rfl) (fun hp11 => ?_)
            have hr10 := hp11
            refine j_iadd hC dX11_readWord_24 ?_
            refine j_bipush hC dX11_readWord_25 rfl ?_
            refine j_isub hC dX11_readWord_27 ?_
            obtain ⟨r12, hy, h⟩ := zb1_ex h
            refine j_callSi hC hE lk_X11_159 dX11_readWord_28 (c_X11_joined l hlt g v3 (w ((1 + r10) - 97)) hv3 (inR_w _) M S hy) [.int (zi v3), .int (zi ((1 + r10) - 97))] [] rfl (by simp only [zi_w, zl_wl]) rfl (zcat (Nat.le_of_ble_eq_true rfl)) (Nat.le_of_ble_eq_true rfl) (Nat.le_of_ble_eq_true rfl) (Nat.le_of_ble_eq_true rfl) (Nat.le_of_ble_eq_true rfl) (fun hp13 => ?_)
            have hr12 := hp13
            refine j_istore_n hC dX11_readWord_31 rfl (Nat.le_of_ble_eq_true rfl) rfl ?_
            obtain ⟨x14, ex14, h⟩ := zlet_ex h
            have hx14 : inR x14 := by rw [ex14]; exact inR_w _
            refine j_iinc hC 4 dX11_readWord_32 rfl ex14 (Nat.le_of_ble_eq_true rfl) rfl ?_
            refine j_aload_n hC 2 dX11_readWord_35 rfl rfl ?_
            refine j_dup hC dX11_readWord_36 (zr_cat _ _) ?_
            refine j_get hC dX11_readWord_37 f_X11_141 (zFx_kd hF 48 rfl) rfl 13 rfl (fun hg15 => ?_)
            refine j_iconst hC dX11_readWord_40 ?_
            refine j_iadd hC dX11_readWord_41 ?_
            obtain ⟨M16, eM16, h⟩ := zlet_ex h
            refine j_put hC dX11_readWord_42 f_X11_141 pF_X11 (zFx_kd hF 48 rfl) (Or.inl rfl) rfl 13 rfl rfl (inR_w _) eM16 ?_
            refine j_goto hC dX11_readWord_45 rfl ?_
            obtain rfl := Option.some.inj h
            refine j_sub [2, 3, 4, 1, 0] rfl ?_
            exact ih5 r12 x14 hr12 hx14 M16 hT
    exact main zN v3 v4 hv3 hv4 M hl
  refine j_iconst hC dX11_readWord_0 ?_
  refine j_istore_n hC dX11_readWord_1 rfl (Nat.le_of_ble_eq_true rfl) rfl ?_
  refine j_iconst hC dX11_readWord_2 ?_
  refine j_istore hC dX11_readWord_3 (Nat.le_of_ble_eq_true rfl) rfl ?_
  refine j_sub [2, 3, 4, 1, 0] rfl ?_
  exact L_5 v1 v2 0 0 hv1 hv2 kR_0 kR_0 M h
set_option maxHeartbeats 4000000 in
set_option maxRecDepth 100000 in
theorem c_X11_put (l : Launch) (hlt : l.stackTraces = false) (g : zG) (v1 : Int) (hv1 : inR v1) (M : zM) (S : zS) (hF : zFx S) {M' : zM} (h : F_X11_put v1 M = some M') : zMet l g yX11_put cX11_put 2 none 1 0 0 [zr g 48, .int (zi v1)] M S (.inl none) M' S (True) := by
  refine zMet_of (by decide) hlt [(0, zr g 48), (1, .int (zi v1))] rfl (Nat.le_of_ble_eq_true rfl) (fun K hC hE hN => ?_)
  unfold F_X11_put at h
  refine j_aload_n hC 0 dX11_put_0 rfl rfl ?_
  refine j_get hC dX11_put_1 f_X11_36 (zFx_kd hF 48 rfl) rfl 14 rfl (fun hg1 => ?_)
  refine j_if_ge hC dX11_put_4 rfl (w_id hg1) (fun c2 => ?_) (fun c2 => ?_)
  · have h := zf c2 h
    have e1 := Option.some.inj h
    exact j_vret hC hE dX11_put_27 rfl e1 rfl trivial (Nat.le_of_ble_eq_true rfl) (Nat.le_of_ble_eq_true rfl)
  · have h := zt c2 h
    refine j_aload_n hC 0 dX11_put_7 rfl rfl ?_
    refine j_getq (q := 55) hC dX11_put_8 f_X11_39 (zFx_kd hF 48 rfl) rfl 16 rfl (zFx_rf hF 48 16 rfl) ?_
    refine j_aload_n hC 0 dX11_put_11 rfl rfl ?_
    refine j_get hC dX11_put_12 f_X11_163 (zFx_kd hF 48 rfl) rfl 17 rfl (fun hg3 => ?_)
    refine j_iload_n hC 1 dX11_put_15 rfl rfl ?_
    obtain ⟨c4, h⟩ := zchk_ex h
    obtain ⟨M5, eM5, h⟩ := zlet_ex h
    refine j_iast (n := 60) hC dX11_put_16 (w_id hg3) (w_id hv1) hv1 (zFx_kd hF 55 rfl) (zFx_ln hF 55 rfl) c4.1 c4.2 eM5 ?_
    refine j_aload_n hC 0 dX11_put_17 rfl rfl ?_
    refine j_dup hC dX11_put_18 (zr_cat _ _) ?_
    refine j_get hC dX11_put_19 f_X11_163 (zFx_kd hF 48 rfl) rfl 17 rfl (fun hg6 => ?_)
    refine j_iconst hC dX11_put_22 ?_
    refine j_iadd hC dX11_put_23 ?_
    obtain ⟨M7, eM7, h⟩ := zlet_ex h
    refine j_put hC dX11_put_24 f_X11_163 pF_X11 (zFx_kd hF 48 rfl) (Or.inl rfl) rfl 17 rfl rfl (inR_w _) eM7 ?_
    have e1 := Option.some.inj h
    exact j_vret hC hE dX11_put_27 rfl e1 rfl trivial (Nat.le_of_ble_eq_true rfl) (Nat.le_of_ble_eq_true rfl)
set_option maxHeartbeats 4000000 in
set_option maxRecDepth 100000 in
theorem c_X11_opens (l : Launch) (hlt : l.stackTraces = false) (g : zG) (M : zM) (S : zS) (hF : zFx S) {M' : zM} (h : F_X11_opens M = some M') : zMet l g yX11_opens cX11_opens 1 none 1 0 0 [zr g 48] M S (.inl none) M' S (True) := by
  refine zMet_of (by decide) hlt [(0, zr g 48)] rfl (Nat.le_of_ble_eq_true rfl) (fun K hC hE hN => ?_)
  unfold F_X11_opens at h
  have J_26 : ∀ (M : zM) (_ : F_X11_opens_J26 M = some M'), zJ K g 0 0 26 1 [(0, zr g 48)] [] M S := by
    intro M h
    unfold F_X11_opens_J26 at h
    refine j_aload_n hC 0 dX11_opens_26 rfl rfl ?_
    refine j_dup hC dX11_opens_27 (zr_cat _ _) ?_
    refine j_get hC dX11_opens_28 f_X11_176 (zFx_kd hF 48 rfl) rfl 15 rfl (fun hg1 => ?_)
    refine j_iconst hC dX11_opens_31 ?_
    refine j_iadd hC dX11_opens_32 ?_
    obtain ⟨M2, eM2, h⟩ := zlet_ex h
    refine j_put hC dX11_opens_33 f_X11_176 pF_X11 (zFx_kd hF 48 rfl) (Or.inl rfl) rfl 15 rfl rfl (inR_w _) eM2 ?_
    have e1 := Option.some.inj h
    exact j_vret hC hE dX11_opens_36 rfl e1 rfl trivial (Nat.le_of_ble_eq_true rfl) (Nat.le_of_ble_eq_true rfl)
  refine j_aload_n hC 0 dX11_opens_0 rfl rfl ?_
  refine j_get hC dX11_opens_1 f_X11_176 (zFx_kd hF 48 rfl) rfl 15 rfl (fun hg3 => ?_)
  refine j_bipush hC dX11_opens_4 rfl ?_
  refine j_icmp_ne hC dX11_opens_6 rfl (w_id hg3) (w_id kR_6) (fun c4 => ?_) (fun c4 => ?_)
  · have h := zf c4 h
    exact J_26 M h
  · have h := zt c4 h
    refine j_aload_n hC 0 dX11_opens_9 rfl rfl ?_
    refine j_get hC dX11_opens_10 f_X11_36 (zFx_kd hF 48 rfl) rfl 14 rfl (fun hg5 => ?_)
    refine j_if_ge hC dX11_opens_13 rfl (w_id hg5) (fun c6 => ?_) (fun c6 => ?_)
    · have h := zf c6 h
      exact J_26 M h
    · have h := zt c6 h
      refine j_aload_n hC 0 dX11_opens_16 rfl rfl ?_
      refine j_aload_n hC 0 dX11_opens_17 rfl rfl ?_
      refine j_get hC dX11_opens_18 f_X11_141 (zFx_kd hF 48 rfl) rfl 13 rfl (fun hg7 => ?_)
      refine j_iconst hC dX11_opens_21 ?_
      refine j_isub hC dX11_opens_22 ?_
      obtain ⟨M8, eM8, h⟩ := zlet_ex h
      refine j_put hC dX11_opens_23 f_X11_36 pF_X11 (zFx_kd hF 48 rfl) (Or.inl rfl) rfl 14 rfl rfl (inR_w _) eM8 ?_
      exact J_26 M8 h
set_option maxHeartbeats 4000000 in
set_option maxRecDepth 100000 in
theorem c_X11_readDigit (l : Launch) (hlt : l.stackTraces = false) (g : zG) (v1 : Int) (hv1 : inR v1) (M : zM) (S : zS) (hF : zFx S) {r : Int} {M' : zM} (h : F_X11_readDigit v1 M = some (r, M')) : zMet l g yX11_readDigit cX11_readDigit 3 (some .int) 2 0 0 [zr g 48, .int (zi v1)] M S (.inl (some (.int (zi r)))) M' S (inR r) := by
  refine zMet_of (by decide) hlt [(0, zr g 48), (1, .int (zi v1))] rfl (Nat.le_of_ble_eq_true rfl) (fun K hC hE hN => ?_)
  unfold F_X11_readDigit at h
  have J_67 : ∀ (v2 : Int) (t1 : Int) (t2 : Int) (hv2 : inR v2) (ht1 : inR t1) (ht2 : inR t2) (M : zM) (_ : F_X11_readDigit_J67 v2 t1 t2 M = some (r, M')), zJ K g 0 0 67 3 [(2, .int (zi v2))] [.int (zi t2), .int (zi t1), zr g 48] M S := by
    intro v2 t1 t2 hv2 ht1 ht2 M h
    unfold F_X11_readDigit_J67 at h
    refine j_iadd hC dX11_readDigit_67 ?_
    obtain ⟨M1, eM1, h⟩ := zlet_ex h
    refine j_put hC dX11_readDigit_68 f_X11_141 pF_X11 (zFx_kd hF 48 rfl) (Or.inl rfl) rfl 13 rfl rfl (inR_w _) eM1 ?_
    refine j_iload_n hC 0 dX11_readDigit_71 rfl rfl ?_
    obtain ⟨e1, e2⟩ := zpr2 (Option.some.inj h)
    exact j_iret hC hE dX11_readDigit_72 (w_id hv2) (zn_i _) (by rw [← e1]) e2 rfl (by rw [← e1]; exact hv2) (Nat.le_of_ble_eq_true rfl) (Nat.le_of_ble_eq_true rfl)
  have J_49 : ∀ (t0 : Int) (ht0 : inR t0) (M : zM) (_ : F_X11_readDigit_J49 t0 M = some (r, M')), zJ K g 0 0 49 3 [(0, zr g 48)] [.int (zi t0)] M S := by
    intro t0 ht0 M h
    unfold F_X11_readDigit_J49 at h
    refine j_istore_n hC dX11_readDigit_49 rfl (Nat.le_of_ble_eq_true rfl) rfl ?_
    refine j_aload_n hC 1 dX11_readDigit_50 rfl rfl ?_
    refine j_dup hC dX11_readDigit_51 (zr_cat _ _) ?_
    refine j_get hC dX11_readDigit_52 f_X11_141 (zFx_kd hF 48 rfl) rfl 13 rfl (fun hg2 => ?_)
    refine j_aload_n hC 1 dX11_readDigit_55 rfl rfl ?_
    refine j_get hC dX11_readDigit_56 f_X11_36 (zFx_kd hF 48 rfl) rfl 14 rfl (fun hg3 => ?_)
    refine j_if_ge hC dX11_readDigit_59 rfl (w_id hg3) (fun c4 => ?_) (fun c4 => ?_)
    · have h := zf c4 h
      refine j_iconst hC dX11_readDigit_66 ?_
      refine j_sub [0] rfl ?_
      exact J_67 t0 (M 48 13) 0 ht0 hg2 kR_0 M h
    · have h := zt c4 h
      refine j_iconst hC dX11_readDigit_62 ?_
      refine j_goto hC dX11_readDigit_63 rfl ?_
      refine j_sub [0] rfl ?_
      exact J_67 t0 (M 48 13) 1 ht0 hg2 kR_1 M h
  have J_31 : ∀ (M : zM) (_ : F_X11_readDigit_J31 M = some (r, M')), zJ K g 0 0 31 3 [(0, zr g 48)] [] M S := by
    intro M h
    unfold F_X11_readDigit_J31 at h
    refine j_aload_n hC 0 dX11_readDigit_31 rfl rfl ?_
    refine j_get hC dX11_readDigit_32 f_X11_36 (zFx_kd hF 48 rfl) rfl 14 rfl (fun hg5 => ?_)
    refine j_if_ge hC dX11_readDigit_35 rfl (w_id hg5) (fun c6 => ?_) (fun c6 => ?_)
    · have h := zf c6 h
      refine j_iconst hC dX11_readDigit_48 ?_
      exact J_49 0 kR_0 M h
    · have h := zt c6 h
      refine j_aload_n hC 0 dX11_readDigit_38 rfl rfl ?_
      obtain ⟨r7, hy, h⟩ := zb1_ex h
      refine j_callVi (ci := 8) hC hE lk_X11_147 dX11_readDigit_39 (c_X11_sign l hlt g M S hF hy) [] [] (zFx_kd hF 48 rfl) ⟨_, rfl, by decide, rfl⟩ rfl rfl rfl (zcat (Nat.le_of_ble_eq_true rfl)) (Nat.le_of_ble_eq_true rfl) (Nat.le_of_ble_eq_true rfl) (Nat.le_of_ble_eq_true rfl) (Nat.le_of_ble_eq_true rfl) (fun hp8 => ?_)
      have hr7 := hp8
      refine j_bipush hC dX11_readDigit_42 rfl ?_
      refine j_isub hC dX11_readDigit_44 ?_
      refine j_goto hC dX11_readDigit_45 rfl ?_
      refine j_stk (st2 := [.int (zi (w (r7 - 48)))]) (by simp only [zi_w, zl_wl]) ?_
      exact J_49 (w (r7 - 48)) (inR_w _) M h
  refine j_aload_n hC 0 dX11_readDigit_0 rfl rfl ?_
  refine j_get hC dX11_readDigit_1 f_X11_36 (zFx_kd hF 48 rfl) rfl 14 rfl (fun hg9 => ?_)
  refine j_if_ge hC dX11_readDigit_4 rfl (w_id hg9) (fun c10 => ?_) (fun c10 => ?_)
  · have h := zf c10 h
    refine j_sub [0] rfl ?_
    exact J_31 M h
  · have h := zt c10 h
    refine j_aload_n hC 0 dX11_readDigit_7 rfl rfl ?_
    obtain ⟨r11, hy, h⟩ := zb1_ex h
    refine j_callVi (ci := 8) hC hE lk_X11_147 dX11_readDigit_8 (c_X11_sign l hlt g M S hF hy) [] [] (zFx_kd hF 48 rfl) ⟨_, rfl, by decide, rfl⟩ rfl rfl rfl (zcat (Nat.le_of_ble_eq_true rfl)) (Nat.le_of_ble_eq_true rfl) (Nat.le_of_ble_eq_true rfl) (Nat.le_of_ble_eq_true rfl) (Nat.le_of_ble_eq_true rfl) (fun hp12 => ?_)
    have hr11 := hp12
    refine j_bipush hC dX11_readDigit_11 rfl ?_
    refine j_iload_n hC 1 dX11_readDigit_13 rfl rfl ?_
    refine j_iadd hC dX11_readDigit_14 ?_
    refine j_bipush hC dX11_readDigit_15 rfl ?_
    obtain ⟨r13, hy, h⟩ := zb1_ex h
    refine j_callSi hC hE lk_X11_124 dX11_readDigit_17 (c_X11_isIn l hlt g r11 (w (48 + v1)) 57 hr11 (inR_w _) kR_57 M S hy) [.int (zi r11), .int (zi (48 + v1)), .int (zi 57)] [] rfl (by simp only [zi_w, zl_wl]) rfl (zcat (Nat.le_of_ble_eq_true rfl)) (Nat.le_of_ble_eq_true rfl) (Nat.le_of_ble_eq_true rfl) (Nat.le_of_ble_eq_true rfl) (Nat.le_of_ble_eq_true rfl) (fun hp14 => ?_)
    have hr13 := hp14
    refine j_if_ne hC dX11_readDigit_20 rfl (w_id hr13) (fun c15 => ?_) (fun c15 => ?_)
    · have h := zf c15 h
      refine j_sub [0] rfl ?_
      exact J_31 M h
    · have h := zt c15 h
      refine j_aload_n hC 0 dX11_readDigit_23 rfl rfl ?_
      refine j_aload_n hC 0 dX11_readDigit_24 rfl rfl ?_
      refine j_get hC dX11_readDigit_25 f_X11_141 (zFx_kd hF 48 rfl) rfl 13 rfl (fun hg16 => ?_)
      obtain ⟨M17, eM17, h⟩ := zlet_ex h
      refine j_put hC dX11_readDigit_28 f_X11_36 pF_X11 (zFx_kd hF 48 rfl) (Or.inl rfl) rfl 14 rfl (w_id hg16) hg16 eM17 ?_
      refine j_sub [0] rfl ?_
      exact J_31 M17 h
set_option maxHeartbeats 4000000 in
set_option maxRecDepth 100000 in
theorem c_X11_readComparison (l : Launch) (hlt : l.stackTraces = false) (g : zG) (M : zM) (S : zS) (hF : zFx S) {M' : zM} (h : F_X11_readComparison M = some M') : zMet l g yX11_readComparison cX11_readComparison 3 none 4 0 0 [zr g 48] M S (.inl none) M' S (True) := by
  refine zMet_of (by decide) hlt [(0, zr g 48)] rfl (Nat.le_of_ble_eq_true rfl) (fun K hC hE hN => ?_)
  unfold F_X11_readComparison at h
  have J_90 : ∀ (v1 : Int) (v2 : Int) (hv1 : inR v1) (hv2 : inR v2) (M : zM) (_ : F_X11_readComparison_J90 v1 v2 M = some M'), zJ K g 0 0 90 3 [(0, zr g 48), (1, .int (zi v1)), (2, .int (zi v2))] [] M S := by
    intro v1 v2 hv1 hv2 M h
    unfold F_X11_readComparison_J90 at h
    refine j_aload_n hC 0 dX11_readComparison_90 rfl rfl ?_
    refine j_sipush hC dX11_readComparison_91 rfl ?_
    refine j_bipush hC dX11_readComparison_94 rfl ?_
    refine j_iload_n hC 1 dX11_readComparison_96 rfl rfl ?_
    refine j_imul hC dX11_readComparison_97 ?_
    refine j_iadd hC dX11_readComparison_98 ?_
    refine j_bipush hC dX11_readComparison_99 rfl ?_
    refine j_iload_n hC 2 dX11_readComparison_101 rfl rfl ?_
    refine j_imul hC dX11_readComparison_102 ?_
    refine j_iadd hC dX11_readComparison_103 ?_
    refine j_aload_n hC 0 dX11_readComparison_104 rfl rfl ?_
    refine j_iconst hC dX11_readComparison_105 ?_
    obtain ⟨r1, M2, hy, h⟩ := zb2_ex h
    refine j_callVi (ci := 8) hC hE lk_X11_195 dX11_readComparison_106 (c_X11_readDigit l hlt g 0 kR_0 M S hF hy) [.int (zi 0)] [.int (zi ((1000 + (100 * v1)) + (10 * v2))), zr g 48] (zFx_kd hF 48 rfl) ⟨_, rfl, by decide, rfl⟩ rfl rfl rfl (zcat (Nat.le_of_ble_eq_true rfl)) (Nat.le_of_ble_eq_true rfl) (Nat.le_of_ble_eq_true rfl) (Nat.le_of_ble_eq_true rfl) (Nat.le_of_ble_eq_true rfl) (fun hp3 => ?_)
    have hr1 := hp3
    refine j_iadd hC dX11_readComparison_109 ?_
    obtain ⟨M4, hy, h⟩ := zb1_ex h
    refine j_callVv (ci := 8) hC hE lk_X11_169 dX11_readComparison_110 (c_X11_put l hlt g (w (((1000 + (100 * v1)) + (10 * v2)) + r1)) (inR_w _) M2 S hF hy) [.int (zi (((1000 + (100 * v1)) + (10 * v2)) + r1))] [] (zFx_kd hF 48 rfl) ⟨_, rfl, by decide, rfl⟩ rfl (by simp only [zi_w, zl_wl]) rfl (zcat (Nat.le_of_ble_eq_true rfl)) (Nat.le_of_ble_eq_true rfl) (Nat.le_of_ble_eq_true rfl) (Nat.le_of_ble_eq_true rfl) (Nat.le_of_ble_eq_true rfl) (fun hp5 => ?_)
    have e1 := Option.some.inj h
    exact j_vret hC hE dX11_readComparison_113 rfl e1 rfl trivial (Nat.le_of_ble_eq_true rfl) (Nat.le_of_ble_eq_true rfl)
  have J_78 : ∀ (v1 : Int) (t0 : Int) (hv1 : inR v1) (ht0 : inR t0) (M : zM) (_ : F_X11_readComparison_J78 v1 t0 M = some M'), zJ K g 0 0 78 3 [(0, zr g 48), (1, .int (zi v1))] [.int (zi t0)] M S := by
    intro v1 t0 hv1 ht0 M h
    unfold F_X11_readComparison_J78 at h
    refine j_istore_n hC dX11_readComparison_78 rfl (Nat.le_of_ble_eq_true rfl) rfl ?_
    refine j_iload_n hC 0 dX11_readComparison_79 rfl rfl ?_
    refine j_iconst hC dX11_readComparison_80 ?_
    refine j_icmp_ne hC dX11_readComparison_81 rfl (w_id ht0) (w_id kR_2) (fun c6 => ?_) (fun c6 => ?_)
    · have h := zf c6 h
      refine j_sub [1, 2, 0] rfl ?_
      exact J_90 v1 t0 hv1 ht0 M h
    · have h := zt c6 h
      refine j_aload_n hC 1 dX11_readComparison_84 rfl rfl ?_
      refine j_bipush hC dX11_readComparison_85 rfl ?_
      obtain ⟨M7, hy, h⟩ := zb1_ex h
      refine j_callVv (ci := 8) hC hE lk_X11_185 dX11_readComparison_87 (c_X11_expect l hlt g 62 kR_62 M S hF hy) [.int (zi 62)] [] (zFx_kd hF 48 rfl) ⟨_, rfl, by decide, rfl⟩ rfl rfl rfl (zcat (Nat.le_of_ble_eq_true rfl)) (Nat.le_of_ble_eq_true rfl) (Nat.le_of_ble_eq_true rfl) (Nat.le_of_ble_eq_true rfl) (Nat.le_of_ble_eq_true rfl) (fun hp8 => ?_)
      refine j_sub [1, 2, 0] rfl ?_
      exact J_90 v1 t0 hv1 ht0 M7 h
  have J_51 : ∀ (v1 : Int) (hv1 : inR v1) (M : zM) (_ : F_X11_readComparison_J51 v1 M = some M'), zJ K g 0 0 51 3 [(0, zr g 48), (1, .int (zi v1))] [] M S := by
    intro v1 hv1 M h
    unfold F_X11_readComparison_J51 at h
    refine j_aload_n hC 0 dX11_readComparison_51 rfl rfl ?_
    refine j_bipush hC dX11_readComparison_52 rfl ?_
    obtain ⟨r9, M10, hy, h⟩ := zb2_ex h
    refine j_callVi (ci := 8) hC hE lk_X11_151 dX11_readComparison_54 (c_X11_goes l hlt g 60 kR_60 M S hF hy) [.int (zi 60)] [] (zFx_kd hF 48 rfl) ⟨_, rfl, by decide, rfl⟩ rfl rfl rfl (zcat (Nat.le_of_ble_eq_true rfl)) (Nat.le_of_ble_eq_true rfl) (Nat.le_of_ble_eq_true rfl) (Nat.le_of_ble_eq_true rfl) (Nat.le_of_ble_eq_true rfl) (fun hp11 => ?_)
    have hr9 := hp11
    refine j_if_eq hC dX11_readComparison_57 rfl (w_id hr9) (fun c12 => ?_) (fun c12 => ?_)
    · have h := zt c12 h
      refine j_aload_n hC 0 dX11_readComparison_64 rfl rfl ?_
      refine j_bipush hC dX11_readComparison_65 rfl ?_
      obtain ⟨r13, M14, hy, h⟩ := zb2_ex h
      refine j_callVi (ci := 8) hC hE lk_X11_151 dX11_readComparison_67 (c_X11_goes l hlt g 61 kR_61 M10 S hF hy) [.int (zi 61)] [] (zFx_kd hF 48 rfl) ⟨_, rfl, by decide, rfl⟩ rfl rfl rfl (zcat (Nat.le_of_ble_eq_true rfl)) (Nat.le_of_ble_eq_true rfl) (Nat.le_of_ble_eq_true rfl) (Nat.le_of_ble_eq_true rfl) (Nat.le_of_ble_eq_true rfl) (fun hp15 => ?_)
      have hr13 := hp15
      refine j_if_eq hC dX11_readComparison_70 rfl (w_id hr13) (fun c16 => ?_) (fun c16 => ?_)
      · have h := zt c16 h
        refine j_iconst hC dX11_readComparison_77 ?_
        exact J_78 v1 2 hv1 kR_2 M14 h
      · have h := zf c16 h
        refine j_iconst hC dX11_readComparison_73 ?_
        refine j_goto hC dX11_readComparison_74 rfl ?_
        exact J_78 v1 1 hv1 kR_1 M14 h
    · have h := zf c12 h
      refine j_iconst hC dX11_readComparison_60 ?_
      refine j_goto hC dX11_readComparison_61 rfl ?_
      exact J_78 v1 0 hv1 kR_0 M10 h
  have J_36 : ∀ (v1 : Int) (t1 : Int) (t2 : Int) (hv1 : inR v1) (ht1 : inR t1) (ht2 : inR t2) (M : zM) (_ : F_X11_readComparison_J36 v1 t1 t2 M = some M'), zJ K g 0 0 36 3 [(0, zr g 48), (1, .int (zi v1))] [.int (zi t2), .int (zi t1), zr g 48] M S := by
    intro v1 t1 t2 hv1 ht1 ht2 M h
    unfold F_X11_readComparison_J36 at h
    refine j_iadd hC dX11_readComparison_36 ?_
    obtain ⟨M17, eM17, h⟩ := zlet_ex h
    refine j_put hC dX11_readComparison_37 f_X11_141 pF_X11 (zFx_kd hF 48 rfl) (Or.inl rfl) rfl 13 rfl rfl (inR_w _) eM17 ?_
    refine j_iload_n hC 1 dX11_readComparison_40 rfl rfl ?_
    refine j_iconst hC dX11_readComparison_41 ?_
    refine j_icmp_ne hC dX11_readComparison_42 rfl (w_id hv1) (w_id kR_3) (fun c18 => ?_) (fun c18 => ?_)
    · have h := zf c18 h
      exact J_51 v1 hv1 M17 h
    · have h := zt c18 h
      refine j_aload_n hC 0 dX11_readComparison_45 rfl rfl ?_
      refine j_bipush hC dX11_readComparison_46 rfl ?_
      obtain ⟨M19, hy, h⟩ := zb1_ex h
      refine j_callVv (ci := 8) hC hE lk_X11_185 dX11_readComparison_48 (c_X11_expect l hlt g 35 kR_35 M17 S hF hy) [.int (zi 35)] [] (zFx_kd hF 48 rfl) ⟨_, rfl, by decide, rfl⟩ rfl rfl rfl (zcat (Nat.le_of_ble_eq_true rfl)) (Nat.le_of_ble_eq_true rfl) (Nat.le_of_ble_eq_true rfl) (Nat.le_of_ble_eq_true rfl) (Nat.le_of_ble_eq_true rfl) (fun hp20 => ?_)
      exact J_51 v1 hv1 M19 h
  have J_18 : ∀ (t0 : Int) (ht0 : inR t0) (M : zM) (_ : F_X11_readComparison_J18 t0 M = some M'), zJ K g 0 0 18 3 [(0, zr g 48)] [.int (zi t0)] M S := by
    intro t0 ht0 M h
    unfold F_X11_readComparison_J18 at h
    refine j_istore_n hC dX11_readComparison_18 rfl (Nat.le_of_ble_eq_true rfl) rfl ?_
    refine j_aload_n hC 1 dX11_readComparison_19 rfl rfl ?_
    refine j_dup hC dX11_readComparison_20 (zr_cat _ _) ?_
    refine j_get hC dX11_readComparison_21 f_X11_141 (zFx_kd hF 48 rfl) rfl 13 rfl (fun hg21 => ?_)
    refine j_aload_n hC 1 dX11_readComparison_24 rfl rfl ?_
    obtain ⟨r22, hy, h⟩ := zb1_ex h
    refine j_callVi (ci := 8) hC hE lk_X11_155 dX11_readComparison_25 (c_X11_isLetter l hlt g M S hF hy) [] [.int (zi (M 48 13)), zr g 48] (zFx_kd hF 48 rfl) ⟨_, rfl, by decide, rfl⟩ rfl rfl rfl (zcat (Nat.le_of_ble_eq_true rfl)) (Nat.le_of_ble_eq_true rfl) (Nat.le_of_ble_eq_true rfl) (Nat.le_of_ble_eq_true rfl) (Nat.le_of_ble_eq_true rfl) (fun hp23 => ?_)
    have hr22 := hp23
    refine j_if_eq hC dX11_readComparison_28 rfl (w_id hr22) (fun c24 => ?_) (fun c24 => ?_)
    · have h := zt c24 h
      refine j_iconst hC dX11_readComparison_35 ?_
      refine j_sub [1, 0] rfl ?_
      exact J_36 t0 (M 48 13) 0 ht0 hg21 kR_0 M h
    · have h := zf c24 h
      refine j_iconst hC dX11_readComparison_31 ?_
      refine j_goto hC dX11_readComparison_32 rfl ?_
      refine j_sub [1, 0] rfl ?_
      exact J_36 t0 (M 48 13) 1 ht0 hg21 kR_1 M h
  refine j_aload_n hC 0 dX11_readComparison_0 rfl rfl ?_
  obtain ⟨r25, hy, h⟩ := zb1_ex h
  refine j_callVi (ci := 8) hC hE lk_X11_155 dX11_readComparison_1 (c_X11_isLetter l hlt g M S hF hy) [] [] (zFx_kd hF 48 rfl) ⟨_, rfl, by decide, rfl⟩ rfl rfl rfl (zcat (Nat.le_of_ble_eq_true rfl)) (Nat.le_of_ble_eq_true rfl) (Nat.le_of_ble_eq_true rfl) (Nat.le_of_ble_eq_true rfl) (Nat.le_of_ble_eq_true rfl) (fun hp26 => ?_)
  have hr25 := hp26
  refine j_if_eq hC dX11_readComparison_4 rfl (w_id hr25) (fun c27 => ?_) (fun c27 => ?_)
  · have h := zt c27 h
    refine j_iconst hC dX11_readComparison_17 ?_
    exact J_18 3 kR_3 M h
  · have h := zf c27 h
    refine j_aload_n hC 0 dX11_readComparison_7 rfl rfl ?_
    obtain ⟨r28, hy, h⟩ := zb1_ex h
    refine j_callVi (ci := 8) hC hE lk_X11_147 dX11_readComparison_8 (c_X11_sign l hlt g M S hF hy) [] [] (zFx_kd hF 48 rfl) ⟨_, rfl, by decide, rfl⟩ rfl rfl rfl (zcat (Nat.le_of_ble_eq_true rfl)) (Nat.le_of_ble_eq_true rfl) (Nat.le_of_ble_eq_true rfl) (Nat.le_of_ble_eq_true rfl) (Nat.le_of_ble_eq_true rfl) (fun hp29 => ?_)
    have hr28 := hp29
    refine j_bipush hC dX11_readComparison_11 rfl ?_
    refine j_isub hC dX11_readComparison_13 ?_
    refine j_goto hC dX11_readComparison_14 rfl ?_
    refine j_stk (st2 := [.int (zi (w (r28 - 97)))]) (by simp only [zi_w, zl_wl]) ?_
    exact J_18 (w (r28 - 97)) (inR_w _) M h
set_option maxHeartbeats 8000000 in
set_option maxRecDepth 100000 in
theorem c_GQ (l : Launch) (hlt : l.stackTraces = false) (g : zG) : ∀ n : Nat, (∀ (M : zM) (S : zS) (_ : zFx S) (M' : zM) (_ : F_GQ n 0 M = some M'), zMet l g yX11_readSelector cX11_readSelector 1 none (6 + n) 0 0 [zr g 48] M S (.inl none) M' S (True)) ∧ (∀ (M : zM) (S : zS) (_ : zFx S) (M' : zM) (_ : F_GQ n 1 M = some M'), zMet l g yX11_readAll cX11_readAll 1 none (6 + n) 0 0 [zr g 48] M S (.inl none) M' S (True)) ∧ (∀ (M : zM) (S : zS) (_ : zFx S) (M' : zM) (_ : F_GQ n 2 M = some M'), zMet l g yX11_readOne cX11_readOne 1 none (6 + n) 0 0 [zr g 48] M S (.inl none) M' S (True)) := by
  intro n
  induction n with
  | zero => exact ⟨(by intro M S hF M' h; cases h), (by intro M S hF M' h; cases h), (by intro M S hF M' h; cases h)⟩
  | succ n ih =>
    obtain ⟨ihG0, ihG1, ihG2⟩ := ih
    have erc : ∃ rc, rc = F_GQ n := ⟨_, rfl⟩
    obtain ⟨rc, erc⟩ := erc
    refine ⟨?_, ?_, ?_⟩
    · intro M S hF M' h
      have h : F_X11_readSelector rc M = some M' := by rw [erc]; exact h
      rw [← erc] at ihG0 ihG1 ihG2
      refine zMet_of (by decide) hlt [(0, zr g 48)] rfl (Nat.le_of_ble_eq_true rfl) (fun K hC hE hN => ?_)
      unfold F_X11_readSelector at h
      have J_25 : ∀ (M : zM) (_ : F_X11_readSelector_J25 rc M = some M'), zJ K g 0 0 25 1 [] [] M S := by
        intro M h
        unfold F_X11_readSelector_J25 at h
        have e1 := Option.some.inj h
        exact j_vret hC hE dX11_readSelector_25 rfl e1 rfl trivial (Nat.le_of_ble_eq_true rfl) (Nat.le_of_ble_eq_true rfl)
      have L_4 : ∀ (M : zM) (_ : F_X11_readSelector_L4 rc M = some M'), zJ K g 0 0 4 1 [(0, zr g 48)] [] M S := by
        intro M h
        unfold F_X11_readSelector_L4 at h
        obtain ⟨ex4, hl, hd4⟩ := zb1_ex h
        obtain ⟨bd4, ebd⟩ : ∃ f, f = (fun (s : zM) => F_X11_readSelector_B4 rc s) := ⟨_, rfl⟩
        rw [← ebd] at hl
        have main : ∀ (n4 : Nat) (M : zM) (_ : zloop bd4 n4 M = some ex4), zJ K g 0 0 4 1 [(0, zr g 48)] [] M S := by
          intro n4
          induction n4 with
          | zero => intro M hl; exact zloop_0 hl
          | succ n4 ih4 =>
            intro M hl
            obtain ⟨o, h, hT⟩ := zloop_ex hl
            have h : F_X11_readSelector_B4 rc M = some o := by rw [ebd] at h; exact h
            unfold F_X11_readSelector_B4 at h
            refine j_aload_n hC 0 dX11_readSelector_4 rfl rfl ?_
            refine j_bipush hC dX11_readSelector_5 rfl ?_
            obtain ⟨r1, M2, hy, h⟩ := zb2_ex h
            refine j_callVi (ci := 8) hC hE lk_X11_151 dX11_readSelector_7 (c_X11_goes l hlt g 124 kR_124 M S hF hy) [.int (zi 124)] [] (zFx_kd hF 48 rfl) ⟨_, rfl, by decide, rfl⟩ rfl rfl rfl (zcat (Nat.le_of_ble_eq_true rfl)) (Nat.le_of_ble_eq_true rfl) (by omega) (Nat.le_of_ble_eq_true rfl) (Nat.le_of_ble_eq_true rfl) (fun hp3 => ?_)
            have hr1 := hp3
            refine j_if_eq hC dX11_readSelector_10 rfl (w_id hr1) (fun c4 => ?_) (fun c4 => ?_)
            · have h := zt c4 h
              obtain rfl := Option.some.inj h
              have hx4 := hd4
              rw [← show _ = ex4 from hT] at hx4
              refine j_sub [] rfl ?_
              exact J_25 M2 hx4
            · have h := zf c4 h
              refine j_aload_n hC 0 dX11_readSelector_13 rfl rfl ?_
              obtain ⟨M5, hy, h⟩ := zb1_ex h
              refine j_callVv (ci := 8) hC hE lk_X11_166 dX11_readSelector_14 (ihG1 M2 S hF _ hy) [] [] (zFx_kd hF 48 rfl) ⟨_, rfl, by decide, rfl⟩ rfl rfl rfl (zcat (Nat.le_of_ble_eq_true rfl)) (Nat.le_of_ble_eq_true rfl) (by omega) (Nat.le_of_ble_eq_true rfl) (Nat.le_of_ble_eq_true rfl) (fun hp6 => ?_)
              refine j_aload_n hC 0 dX11_readSelector_17 rfl rfl ?_
              refine j_iconst hC dX11_readSelector_18 ?_
              obtain ⟨M7, hy, h⟩ := zb1_ex h
              refine j_callVv (ci := 8) hC hE lk_X11_169 dX11_readSelector_19 (c_X11_put l hlt g 4 kR_4 M5 S hF hy) [.int (zi 4)] [] (zFx_kd hF 48 rfl) ⟨_, rfl, by decide, rfl⟩ rfl rfl rfl (zcat (Nat.le_of_ble_eq_true rfl)) (Nat.le_of_ble_eq_true rfl) (by omega) (Nat.le_of_ble_eq_true rfl) (Nat.le_of_ble_eq_true rfl) (fun hp8 => ?_)
              refine j_goto hC dX11_readSelector_22 rfl ?_
              obtain rfl := Option.some.inj h
              exact ih4 M7 hT
        exact main zN M hl
      refine j_aload_n hC 0 dX11_readSelector_0 rfl rfl ?_
      obtain ⟨M9, hy, h⟩ := zb1_ex h
      refine j_callVv (ci := 8) hC hE lk_X11_166 dX11_readSelector_1 (ihG1 M S hF _ hy) [] [] (zFx_kd hF 48 rfl) ⟨_, rfl, by decide, rfl⟩ rfl rfl rfl (zcat (Nat.le_of_ble_eq_true rfl)) (Nat.le_of_ble_eq_true rfl) (by omega) (Nat.le_of_ble_eq_true rfl) (Nat.le_of_ble_eq_true rfl) (fun hp10 => ?_)
      exact L_4 M9 h
    · intro M S hF M' h
      have h : F_X11_readAll rc M = some M' := by rw [erc]; exact h
      rw [← erc] at ihG0 ihG1 ihG2
      refine zMet_of (by decide) hlt [(0, zr g 48)] rfl (Nat.le_of_ble_eq_true rfl) (fun K hC hE hN => ?_)
      unfold F_X11_readAll at h
      have J_25 : ∀ (M : zM) (_ : F_X11_readAll_J25 rc M = some M'), zJ K g 0 0 25 1 [] [] M S := by
        intro M h
        unfold F_X11_readAll_J25 at h
        have e1 := Option.some.inj h
        exact j_vret hC hE dX11_readAll_25 rfl e1 rfl trivial (Nat.le_of_ble_eq_true rfl) (Nat.le_of_ble_eq_true rfl)
      have L_4 : ∀ (M : zM) (_ : F_X11_readAll_L4 rc M = some M'), zJ K g 0 0 4 1 [(0, zr g 48)] [] M S := by
        intro M h
        unfold F_X11_readAll_L4 at h
        obtain ⟨ex4, hl, hd4⟩ := zb1_ex h
        obtain ⟨bd4, ebd⟩ : ∃ f, f = (fun (s : zM) => F_X11_readAll_B4 rc s) := ⟨_, rfl⟩
        rw [← ebd] at hl
        have main : ∀ (n4 : Nat) (M : zM) (_ : zloop bd4 n4 M = some ex4), zJ K g 0 0 4 1 [(0, zr g 48)] [] M S := by
          intro n4
          induction n4 with
          | zero => intro M hl; exact zloop_0 hl
          | succ n4 ih4 =>
            intro M hl
            obtain ⟨o, h, hT⟩ := zloop_ex hl
            have h : F_X11_readAll_B4 rc M = some o := by rw [ebd] at h; exact h
            unfold F_X11_readAll_B4 at h
            refine j_aload_n hC 0 dX11_readAll_4 rfl rfl ?_
            refine j_bipush hC dX11_readAll_5 rfl ?_
            obtain ⟨r1, M2, hy, h⟩ := zb2_ex h
            refine j_callVi (ci := 8) hC hE lk_X11_151 dX11_readAll_7 (c_X11_goes l hlt g 38 kR_38 M S hF hy) [.int (zi 38)] [] (zFx_kd hF 48 rfl) ⟨_, rfl, by decide, rfl⟩ rfl rfl rfl (zcat (Nat.le_of_ble_eq_true rfl)) (Nat.le_of_ble_eq_true rfl) (by omega) (Nat.le_of_ble_eq_true rfl) (Nat.le_of_ble_eq_true rfl) (fun hp3 => ?_)
            have hr1 := hp3
            refine j_if_eq hC dX11_readAll_10 rfl (w_id hr1) (fun c4 => ?_) (fun c4 => ?_)
            · have h := zt c4 h
              obtain rfl := Option.some.inj h
              have hx4 := hd4
              rw [← show _ = ex4 from hT] at hx4
              refine j_sub [] rfl ?_
              exact J_25 M2 hx4
            · have h := zf c4 h
              refine j_aload_n hC 0 dX11_readAll_13 rfl rfl ?_
              obtain ⟨M5, hy, h⟩ := zb1_ex h
              refine j_callVv (ci := 8) hC hE lk_X11_173 dX11_readAll_14 (ihG2 M2 S hF _ hy) [] [] (zFx_kd hF 48 rfl) ⟨_, rfl, by decide, rfl⟩ rfl rfl rfl (zcat (Nat.le_of_ble_eq_true rfl)) (Nat.le_of_ble_eq_true rfl) (by omega) (Nat.le_of_ble_eq_true rfl) (Nat.le_of_ble_eq_true rfl) (fun hp6 => ?_)
              refine j_aload_n hC 0 dX11_readAll_17 rfl rfl ?_
              refine j_iconst hC dX11_readAll_18 ?_
              obtain ⟨M7, hy, h⟩ := zb1_ex h
              refine j_callVv (ci := 8) hC hE lk_X11_169 dX11_readAll_19 (c_X11_put l hlt g 3 kR_3 M5 S hF hy) [.int (zi 3)] [] (zFx_kd hF 48 rfl) ⟨_, rfl, by decide, rfl⟩ rfl rfl rfl (zcat (Nat.le_of_ble_eq_true rfl)) (Nat.le_of_ble_eq_true rfl) (by omega) (Nat.le_of_ble_eq_true rfl) (Nat.le_of_ble_eq_true rfl) (fun hp8 => ?_)
              refine j_goto hC dX11_readAll_22 rfl ?_
              obtain rfl := Option.some.inj h
              exact ih4 M7 hT
        exact main zN M hl
      refine j_aload_n hC 0 dX11_readAll_0 rfl rfl ?_
      obtain ⟨M9, hy, h⟩ := zb1_ex h
      refine j_callVv (ci := 8) hC hE lk_X11_173 dX11_readAll_1 (ihG2 M S hF _ hy) [] [] (zFx_kd hF 48 rfl) ⟨_, rfl, by decide, rfl⟩ rfl rfl rfl (zcat (Nat.le_of_ble_eq_true rfl)) (Nat.le_of_ble_eq_true rfl) (by omega) (Nat.le_of_ble_eq_true rfl) (Nat.le_of_ble_eq_true rfl) (fun hp10 => ?_)
      exact L_4 M9 h
    · intro M S hF M' h
      have h : F_X11_readOne rc M = some M' := by rw [erc]; exact h
      rw [← erc] at ihG0 ihG1 ihG2
      refine zMet_of (by decide) hlt [(0, zr g 48)] rfl (Nat.le_of_ble_eq_true rfl) (fun K hC hE hN => ?_)
      unfold F_X11_readOne at h
      refine j_aload_n hC 0 dX11_readOne_0 rfl rfl ?_
      refine j_bipush hC dX11_readOne_1 rfl ?_
      obtain ⟨r1, M2, hy, h⟩ := zb2_ex h
      refine j_callVi (ci := 8) hC hE lk_X11_151 dX11_readOne_3 (c_X11_goes l hlt g 33 kR_33 M S hF hy) [.int (zi 33)] [] (zFx_kd hF 48 rfl) ⟨_, rfl, by decide, rfl⟩ rfl rfl rfl (zcat (Nat.le_of_ble_eq_true rfl)) (Nat.le_of_ble_eq_true rfl) (by omega) (Nat.le_of_ble_eq_true rfl) (Nat.le_of_ble_eq_true rfl) (fun hp3 => ?_)
      have hr1 := hp3
      refine j_if_eq hC dX11_readOne_6 rfl (w_id hr1) (fun c4 => ?_) (fun c4 => ?_)
      · have h := zt c4 h
        refine j_aload_n hC 0 dX11_readOne_35 rfl rfl ?_
        refine j_bipush hC dX11_readOne_36 rfl ?_
        obtain ⟨r5, M6, hy, h⟩ := zb2_ex h
        refine j_callVi (ci := 8) hC hE lk_X11_151 dX11_readOne_38 (c_X11_goes l hlt g 40 kR_40 M2 S hF hy) [.int (zi 40)] [] (zFx_kd hF 48 rfl) ⟨_, rfl, by decide, rfl⟩ rfl rfl rfl (zcat (Nat.le_of_ble_eq_true rfl)) (Nat.le_of_ble_eq_true rfl) (by omega) (Nat.le_of_ble_eq_true rfl) (Nat.le_of_ble_eq_true rfl) (fun hp7 => ?_)
        have hr5 := hp7
        refine j_if_eq hC dX11_readOne_41 rfl (w_id hr5) (fun c8 => ?_) (fun c8 => ?_)
        · have h := zt c8 h
          refine j_aload_n hC 0 dX11_readOne_71 rfl rfl ?_
          refine j_bipush hC dX11_readOne_72 rfl ?_
          obtain ⟨r9, M10, hy, h⟩ := zb2_ex h
          refine j_callVi (ci := 8) hC hE lk_X11_151 dX11_readOne_74 (c_X11_goes l hlt g 42 kR_42 M6 S hF hy) [.int (zi 42)] [] (zFx_kd hF 48 rfl) ⟨_, rfl, by decide, rfl⟩ rfl rfl rfl (zcat (Nat.le_of_ble_eq_true rfl)) (Nat.le_of_ble_eq_true rfl) (by omega) (Nat.le_of_ble_eq_true rfl) (Nat.le_of_ble_eq_true rfl) (fun hp11 => ?_)
          have hr9 := hp11
          refine j_if_eq hC dX11_readOne_77 rfl (w_id hr9) (fun c12 => ?_) (fun c12 => ?_)
          · have h := zt c12 h
            refine j_aload_n hC 0 dX11_readOne_88 rfl rfl ?_
            refine j_bipush hC dX11_readOne_89 rfl ?_
            obtain ⟨r13, M14, hy, h⟩ := zb2_ex h
            refine j_callVi (ci := 8) hC hE lk_X11_151 dX11_readOne_91 (c_X11_goes l hlt g 94 kR_94 M10 S hF hy) [.int (zi 94)] [] (zFx_kd hF 48 rfl) ⟨_, rfl, by decide, rfl⟩ rfl rfl rfl (zcat (Nat.le_of_ble_eq_true rfl)) (Nat.le_of_ble_eq_true rfl) (by omega) (Nat.le_of_ble_eq_true rfl) (Nat.le_of_ble_eq_true rfl) (fun hp15 => ?_)
            have hr13 := hp15
            refine j_if_eq hC dX11_readOne_94 rfl (w_id hr13) (fun c16 => ?_) (fun c16 => ?_)
            · have h := zt c16 h
              refine j_aload_n hC 0 dX11_readOne_114 rfl rfl ?_
              refine j_bipush hC dX11_readOne_115 rfl ?_
              obtain ⟨r17, M18, hy, h⟩ := zb2_ex h
              refine j_callVi (ci := 8) hC hE lk_X11_151 dX11_readOne_117 (c_X11_goes l hlt g 36 kR_36 M14 S hF hy) [.int (zi 36)] [] (zFx_kd hF 48 rfl) ⟨_, rfl, by decide, rfl⟩ rfl rfl rfl (zcat (Nat.le_of_ble_eq_true rfl)) (Nat.le_of_ble_eq_true rfl) (by omega) (Nat.le_of_ble_eq_true rfl) (Nat.le_of_ble_eq_true rfl) (fun hp19 => ?_)
              have hr17 := hp19
              refine j_if_eq hC dX11_readOne_120 rfl (w_id hr17) (fun c20 => ?_) (fun c20 => ?_)
              · have h := zt c20 h
                refine j_aload_n hC 0 dX11_readOne_140 rfl rfl ?_
                refine j_bipush hC dX11_readOne_141 rfl ?_
                obtain ⟨r21, M22, hy, h⟩ := zb2_ex h
                refine j_callVi (ci := 8) hC hE lk_X11_151 dX11_readOne_143 (c_X11_goes l hlt g 126 kR_126 M18 S hF hy) [.int (zi 126)] [] (zFx_kd hF 48 rfl) ⟨_, rfl, by decide, rfl⟩ rfl rfl rfl (zcat (Nat.le_of_ble_eq_true rfl)) (Nat.le_of_ble_eq_true rfl) (by omega) (Nat.le_of_ble_eq_true rfl) (Nat.le_of_ble_eq_true rfl) (fun hp23 => ?_)
                have hr21 := hp23
                refine j_if_eq hC dX11_readOne_146 rfl (w_id hr21) (fun c24 => ?_) (fun c24 => ?_)
                · have h := zt c24 h
                  refine j_aload_n hC 0 dX11_readOne_166 rfl rfl ?_
                  obtain ⟨M25, hy, h⟩ := zb1_ex h
                  refine j_callVv (ci := 8) hC hE lk_X11_192 dX11_readOne_167 (c_X11_readComparison l hlt g M22 S hF hy) [] [] (zFx_kd hF 48 rfl) ⟨_, rfl, by decide, rfl⟩ rfl rfl rfl (zcat (Nat.le_of_ble_eq_true rfl)) (Nat.le_of_ble_eq_true rfl) (by omega) (Nat.le_of_ble_eq_true rfl) (Nat.le_of_ble_eq_true rfl) (fun hp26 => ?_)
                  have e1 := Option.some.inj h
                  exact j_vret hC hE dX11_readOne_170 rfl e1 rfl trivial (Nat.le_of_ble_eq_true rfl) (Nat.le_of_ble_eq_true rfl)
                · have h := zf c24 h
                  refine j_aload_n hC 0 dX11_readOne_149 rfl rfl ?_
                  refine j_sipush hC dX11_readOne_150 rfl ?_
                  refine j_aload_n hC 0 dX11_readOne_153 rfl rfl ?_
                  refine j_iconst hC dX11_readOne_154 ?_
                  refine j_iconst hC dX11_readOne_155 ?_
                  obtain ⟨r27, M28, hy, h⟩ := zb2_ex h
                  refine j_callVi (ci := 8) hC hE lk_X11_189 dX11_readOne_156 (c_X11_readWord l hlt g 1 3 kR_1 kR_3 M22 S hF hy) [.int (zi 1), .int (zi 3)] [.int (zi 5200), zr g 48] (zFx_kd hF 48 rfl) ⟨_, rfl, by decide, rfl⟩ rfl rfl rfl (zcat (Nat.le_of_ble_eq_true rfl)) (Nat.le_of_ble_eq_true rfl) (by omega) (Nat.le_of_ble_eq_true rfl) (Nat.le_of_ble_eq_true rfl) (fun hp29 => ?_)
                  have hr27 := hp29
                  refine j_iadd hC dX11_readOne_159 ?_
                  obtain ⟨M30, hy, h⟩ := zb1_ex h
                  refine j_callVv (ci := 8) hC hE lk_X11_169 dX11_readOne_160 (c_X11_put l hlt g (w (5200 + r27)) (inR_w _) M28 S hF hy) [.int (zi (5200 + r27))] [] (zFx_kd hF 48 rfl) ⟨_, rfl, by decide, rfl⟩ rfl (by simp only [zi_w, zl_wl]) rfl (zcat (Nat.le_of_ble_eq_true rfl)) (Nat.le_of_ble_eq_true rfl) (by omega) (Nat.le_of_ble_eq_true rfl) (Nat.le_of_ble_eq_true rfl) (fun hp31 => ?_)
                  refine j_goto hC dX11_readOne_163 rfl ?_
                  have e1 := Option.some.inj h
                  exact j_vret hC hE dX11_readOne_170 rfl e1 rfl trivial (Nat.le_of_ble_eq_true rfl) (Nat.le_of_ble_eq_true rfl)
              · have h := zf c20 h
                refine j_aload_n hC 0 dX11_readOne_123 rfl rfl ?_
                refine j_sipush hC dX11_readOne_124 rfl ?_
                refine j_aload_n hC 0 dX11_readOne_127 rfl rfl ?_
                refine j_iconst hC dX11_readOne_128 ?_
                refine j_iconst hC dX11_readOne_129 ?_
                obtain ⟨r32, M33, hy, h⟩ := zb2_ex h
                refine j_callVi (ci := 8) hC hE lk_X11_189 dX11_readOne_130 (c_X11_readWord l hlt g 1 3 kR_1 kR_3 M18 S hF hy) [.int (zi 1), .int (zi 3)] [.int (zi 5100), zr g 48] (zFx_kd hF 48 rfl) ⟨_, rfl, by decide, rfl⟩ rfl rfl rfl (zcat (Nat.le_of_ble_eq_true rfl)) (Nat.le_of_ble_eq_true rfl) (by omega) (Nat.le_of_ble_eq_true rfl) (Nat.le_of_ble_eq_true rfl) (fun hp34 => ?_)
                have hr32 := hp34
                refine j_iadd hC dX11_readOne_133 ?_
                obtain ⟨M35, hy, h⟩ := zb1_ex h
                refine j_callVv (ci := 8) hC hE lk_X11_169 dX11_readOne_134 (c_X11_put l hlt g (w (5100 + r32)) (inR_w _) M33 S hF hy) [.int (zi (5100 + r32))] [] (zFx_kd hF 48 rfl) ⟨_, rfl, by decide, rfl⟩ rfl (by simp only [zi_w, zl_wl]) rfl (zcat (Nat.le_of_ble_eq_true rfl)) (Nat.le_of_ble_eq_true rfl) (by omega) (Nat.le_of_ble_eq_true rfl) (Nat.le_of_ble_eq_true rfl) (fun hp36 => ?_)
                refine j_goto hC dX11_readOne_137 rfl ?_
                have e1 := Option.some.inj h
                exact j_vret hC hE dX11_readOne_170 rfl e1 rfl trivial (Nat.le_of_ble_eq_true rfl) (Nat.le_of_ble_eq_true rfl)
            · have h := zf c16 h
              refine j_aload_n hC 0 dX11_readOne_97 rfl rfl ?_
              refine j_sipush hC dX11_readOne_98 rfl ?_
              refine j_aload_n hC 0 dX11_readOne_101 rfl rfl ?_
              refine j_iconst hC dX11_readOne_102 ?_
              refine j_iconst hC dX11_readOne_103 ?_
              obtain ⟨r37, M38, hy, h⟩ := zb2_ex h
              refine j_callVi (ci := 8) hC hE lk_X11_189 dX11_readOne_104 (c_X11_readWord l hlt g 1 3 kR_1 kR_3 M14 S hF hy) [.int (zi 1), .int (zi 3)] [.int (zi 5000), zr g 48] (zFx_kd hF 48 rfl) ⟨_, rfl, by decide, rfl⟩ rfl rfl rfl (zcat (Nat.le_of_ble_eq_true rfl)) (Nat.le_of_ble_eq_true rfl) (by omega) (Nat.le_of_ble_eq_true rfl) (Nat.le_of_ble_eq_true rfl) (fun hp39 => ?_)
              have hr37 := hp39
              refine j_iadd hC dX11_readOne_107 ?_
              obtain ⟨M40, hy, h⟩ := zb1_ex h
              refine j_callVv (ci := 8) hC hE lk_X11_169 dX11_readOne_108 (c_X11_put l hlt g (w (5000 + r37)) (inR_w _) M38 S hF hy) [.int (zi (5000 + r37))] [] (zFx_kd hF 48 rfl) ⟨_, rfl, by decide, rfl⟩ rfl (by simp only [zi_w, zl_wl]) rfl (zcat (Nat.le_of_ble_eq_true rfl)) (Nat.le_of_ble_eq_true rfl) (by omega) (Nat.le_of_ble_eq_true rfl) (Nat.le_of_ble_eq_true rfl) (fun hp41 => ?_)
              refine j_goto hC dX11_readOne_111 rfl ?_
              have e1 := Option.some.inj h
              exact j_vret hC hE dX11_readOne_170 rfl e1 rfl trivial (Nat.le_of_ble_eq_true rfl) (Nat.le_of_ble_eq_true rfl)
          · have h := zf c12 h
            refine j_aload_n hC 0 dX11_readOne_80 rfl rfl ?_
            refine j_iconst hC dX11_readOne_81 ?_
            obtain ⟨M42, hy, h⟩ := zb1_ex h
            refine j_callVv (ci := 8) hC hE lk_X11_169 dX11_readOne_82 (c_X11_put l hlt g 1 kR_1 M10 S hF hy) [.int (zi 1)] [] (zFx_kd hF 48 rfl) ⟨_, rfl, by decide, rfl⟩ rfl rfl rfl (zcat (Nat.le_of_ble_eq_true rfl)) (Nat.le_of_ble_eq_true rfl) (by omega) (Nat.le_of_ble_eq_true rfl) (Nat.le_of_ble_eq_true rfl) (fun hp43 => ?_)
            refine j_goto hC dX11_readOne_85 rfl ?_
            have e1 := Option.some.inj h
            exact j_vret hC hE dX11_readOne_170 rfl e1 rfl trivial (Nat.le_of_ble_eq_true rfl) (Nat.le_of_ble_eq_true rfl)
        · have h := zf c8 h
          refine j_aload_n hC 0 dX11_readOne_44 rfl rfl ?_
          obtain ⟨M44, hy, h⟩ := zb1_ex h
          refine j_callVv (ci := 8) hC hE lk_X11_179 dX11_readOne_45 (c_X11_opens l hlt g M6 S hF hy) [] [] (zFx_kd hF 48 rfl) ⟨_, rfl, by decide, rfl⟩ rfl rfl rfl (zcat (Nat.le_of_ble_eq_true rfl)) (Nat.le_of_ble_eq_true rfl) (by omega) (Nat.le_of_ble_eq_true rfl) (Nat.le_of_ble_eq_true rfl) (fun hp45 => ?_)
          refine j_aload_n hC 0 dX11_readOne_48 rfl rfl ?_
          obtain ⟨M46, hy, h⟩ := zb1_ex h
          refine j_callVv (ci := 8) hC hE lk_X11_182 dX11_readOne_49 (ihG0 M44 S hF _ hy) [] [] (zFx_kd hF 48 rfl) ⟨_, rfl, by decide, rfl⟩ rfl rfl rfl (zcat (Nat.le_of_ble_eq_true rfl)) (Nat.le_of_ble_eq_true rfl) (by omega) (Nat.le_of_ble_eq_true rfl) (Nat.le_of_ble_eq_true rfl) (fun hp47 => ?_)
          refine j_aload_n hC 0 dX11_readOne_52 rfl rfl ?_
          refine j_bipush hC dX11_readOne_53 rfl ?_
          obtain ⟨M48, hy, h⟩ := zb1_ex h
          refine j_callVv (ci := 8) hC hE lk_X11_185 dX11_readOne_55 (c_X11_expect l hlt g 41 kR_41 M46 S hF hy) [.int (zi 41)] [] (zFx_kd hF 48 rfl) ⟨_, rfl, by decide, rfl⟩ rfl rfl rfl (zcat (Nat.le_of_ble_eq_true rfl)) (Nat.le_of_ble_eq_true rfl) (by omega) (Nat.le_of_ble_eq_true rfl) (Nat.le_of_ble_eq_true rfl) (fun hp49 => ?_)
          refine j_aload_n hC 0 dX11_readOne_58 rfl rfl ?_
          refine j_dup hC dX11_readOne_59 (zr_cat _ _) ?_
          refine j_get hC dX11_readOne_60 f_X11_176 (zFx_kd hF 48 rfl) rfl 15 rfl (fun hg50 => ?_)
          refine j_iconst hC dX11_readOne_63 ?_
          refine j_isub hC dX11_readOne_64 ?_
          obtain ⟨M51, eM51, h⟩ := zlet_ex h
          refine j_put hC dX11_readOne_65 f_X11_176 pF_X11 (zFx_kd hF 48 rfl) (Or.inl rfl) rfl 15 rfl rfl (inR_w _) eM51 ?_
          refine j_goto hC dX11_readOne_68 rfl ?_
          have e1 := Option.some.inj h
          exact j_vret hC hE dX11_readOne_170 rfl e1 rfl trivial (Nat.le_of_ble_eq_true rfl) (Nat.le_of_ble_eq_true rfl)
      · have h := zf c4 h
        refine j_aload_n hC 0 dX11_readOne_9 rfl rfl ?_
        obtain ⟨M52, hy, h⟩ := zb1_ex h
        refine j_callVv (ci := 8) hC hE lk_X11_179 dX11_readOne_10 (c_X11_opens l hlt g M2 S hF hy) [] [] (zFx_kd hF 48 rfl) ⟨_, rfl, by decide, rfl⟩ rfl rfl rfl (zcat (Nat.le_of_ble_eq_true rfl)) (Nat.le_of_ble_eq_true rfl) (by omega) (Nat.le_of_ble_eq_true rfl) (Nat.le_of_ble_eq_true rfl) (fun hp53 => ?_)
        refine j_aload_n hC 0 dX11_readOne_13 rfl rfl ?_
        obtain ⟨M54, hy, h⟩ := zb1_ex h
        refine j_callVv (ci := 8) hC hE lk_X11_173 dX11_readOne_14 (ihG2 M52 S hF _ hy) [] [] (zFx_kd hF 48 rfl) ⟨_, rfl, by decide, rfl⟩ rfl rfl rfl (zcat (Nat.le_of_ble_eq_true rfl)) (Nat.le_of_ble_eq_true rfl) (by omega) (Nat.le_of_ble_eq_true rfl) (Nat.le_of_ble_eq_true rfl) (fun hp55 => ?_)
        refine j_aload_n hC 0 dX11_readOne_17 rfl rfl ?_
        refine j_dup hC dX11_readOne_18 (zr_cat _ _) ?_
        refine j_get hC dX11_readOne_19 f_X11_176 (zFx_kd hF 48 rfl) rfl 15 rfl (fun hg56 => ?_)
        refine j_iconst hC dX11_readOne_22 ?_
        refine j_isub hC dX11_readOne_23 ?_
        obtain ⟨M57, eM57, h⟩ := zlet_ex h
        refine j_put hC dX11_readOne_24 f_X11_176 pF_X11 (zFx_kd hF 48 rfl) (Or.inl rfl) rfl 15 rfl rfl (inR_w _) eM57 ?_
        refine j_aload_n hC 0 dX11_readOne_27 rfl rfl ?_
        refine j_iconst hC dX11_readOne_28 ?_
        obtain ⟨M58, hy, h⟩ := zb1_ex h
        refine j_callVv (ci := 8) hC hE lk_X11_169 dX11_readOne_29 (c_X11_put l hlt g 2 kR_2 M57 S hF hy) [.int (zi 2)] [] (zFx_kd hF 48 rfl) ⟨_, rfl, by decide, rfl⟩ rfl rfl rfl (zcat (Nat.le_of_ble_eq_true rfl)) (Nat.le_of_ble_eq_true rfl) (by omega) (Nat.le_of_ble_eq_true rfl) (Nat.le_of_ble_eq_true rfl) (fun hp59 => ?_)
        refine j_goto hC dX11_readOne_32 rfl ?_
        have e1 := Option.some.inj h
        exact j_vret hC hE dX11_readOne_170 rfl e1 rfl trivial (Nat.le_of_ble_eq_true rfl) (Nat.le_of_ble_eq_true rfl)
theorem c_GQ_0 (l : Launch) (hlt : l.stackTraces = false) (g : zG) (n : Nat) (M : zM) (S : zS) (hF : zFx S) {M' : zM} (h : F_GQ n 0 M = some M') : zMet l g yX11_readSelector cX11_readSelector 1 none (6 + n) 0 0 [zr g 48] M S (.inl none) M' S (True) := (c_GQ l hlt g n).1 M S hF _ h
theorem c_GQ_1 (l : Launch) (hlt : l.stackTraces = false) (g : zG) (n : Nat) (M : zM) (S : zS) (hF : zFx S) {M' : zM} (h : F_GQ n 1 M = some M') : zMet l g yX11_readAll cX11_readAll 1 none (6 + n) 0 0 [zr g 48] M S (.inl none) M' S (True) := (c_GQ l hlt g n).2.1 M S hF _ h
theorem c_GQ_2 (l : Launch) (hlt : l.stackTraces = false) (g : zG) (n : Nat) (M : zM) (S : zS) (hF : zFx S) {M' : zM} (h : F_GQ n 2 M = some M') : zMet l g yX11_readOne cX11_readOne 1 none (6 + n) 0 0 [zr g 48] M S (.inl none) M' S (True) := (c_GQ l hlt g n).2.2 M S hF _ h
set_option maxHeartbeats 4000000 in
set_option maxRecDepth 100000 in
theorem c_X11_ernal (l : Launch) (hlt : l.stackTraces = false) (g : zG) (v0 : Int) (hv0 : inR v0) (M : zM) (S : zS) {r : Int} (h : F_X11_ernal v0 = some r) : zMet l g yX11_ernal cX11_ernal 1 (some .int) 1 0 0 [.int (zi v0)] M S (.inl (some (.int (zi r)))) M S (inR r) := by
  refine zMet_of (by decide) hlt [(0, .int (zi v0))] rfl (Nat.le_of_ble_eq_true rfl) (fun K hC hE hN => ?_)
  unfold F_X11_ernal at h
  refine j_iload_n hC 0 dX11_ernal_0 rfl rfl ?_
  refine j_if_ne hC dX11_ernal_1 rfl (w_id hv0) (fun c1 => ?_) (fun c1 => ?_)
  · have h := zf c1 h
    refine j_iload_n hC 0 dX11_ernal_9 rfl rfl ?_
    refine j_iconst hC dX11_ernal_10 ?_
    refine j_icmp_ne hC dX11_ernal_11 rfl (w_id hv0) (w_id kR_1) (fun c2 => ?_) (fun c2 => ?_)
    · have h := zf c2 h
      refine j_iload_n hC 0 dX11_ernal_19 rfl rfl ?_
      refine j_iconst hC dX11_ernal_20 ?_
      refine j_icmp_ne hC dX11_ernal_21 rfl (w_id hv0) (w_id kR_2) (fun c3 => ?_) (fun c3 => ?_)
      · have h := zf c3 h
        refine j_iload_n hC 0 dX11_ernal_29 rfl rfl ?_
        refine j_iconst hC dX11_ernal_30 ?_
        refine j_icmp_ne hC dX11_ernal_31 rfl (w_id hv0) (w_id kR_3) (fun c4 => ?_) (fun c4 => ?_)
        · have h := zf c4 h
          refine j_bipush hC dX11_ernal_39 rfl ?_
          have e1 := Option.some.inj h
          exact j_iret hC hE dX11_ernal_41 (w_id kR_108) (zn_i _) (by rw [← e1]) rfl rfl (by rw [← e1]; exact kR_108) (Nat.le_of_ble_eq_true rfl) (Nat.le_of_ble_eq_true rfl)
        · have h := zt c4 h
          refine j_bipush hC dX11_ernal_34 rfl ?_
          refine j_goto hC dX11_ernal_36 rfl ?_
          have e1 := Option.some.inj h
          exact j_iret hC hE dX11_ernal_41 (w_id kR_97) (zn_i _) (by rw [← e1]) rfl rfl (by rw [← e1]; exact kR_97) (Nat.le_of_ble_eq_true rfl) (Nat.le_of_ble_eq_true rfl)
      · have h := zt c3 h
        refine j_bipush hC dX11_ernal_24 rfl ?_
        refine j_goto hC dX11_ernal_26 rfl ?_
        have e1 := Option.some.inj h
        exact j_iret hC hE dX11_ernal_41 (w_id kR_110) (zn_i _) (by rw [← e1]) rfl rfl (by rw [← e1]; exact kR_110) (Nat.le_of_ble_eq_true rfl) (Nat.le_of_ble_eq_true rfl)
    · have h := zt c2 h
      refine j_bipush hC dX11_ernal_14 rfl ?_
      refine j_goto hC dX11_ernal_16 rfl ?_
      have e1 := Option.some.inj h
      exact j_iret hC hE dX11_ernal_41 (w_id kR_114) (zn_i _) (by rw [← e1]) rfl rfl (by rw [← e1]; exact kR_114) (Nat.le_of_ble_eq_true rfl) (Nat.le_of_ble_eq_true rfl)
  · have h := zt c1 h
    refine j_bipush hC dX11_ernal_4 rfl ?_
    refine j_goto hC dX11_ernal_6 rfl ?_
    have e1 := Option.some.inj h
    exact j_iret hC hE dX11_ernal_41 (w_id kR_101) (zn_i _) (by rw [← e1]) rfl rfl (by rw [← e1]; exact kR_101) (Nat.le_of_ble_eq_true rfl) (Nat.le_of_ble_eq_true rfl)
set_option maxHeartbeats 4000000 in
set_option maxRecDepth 100000 in
theorem c_X11_imal (l : Launch) (hlt : l.stackTraces = false) (g : zG) (v0 : Int) (hv0 : inR v0) (M : zM) (S : zS) {r : Int} (h : F_X11_imal v0 = some r) : zMet l g yX11_imal cX11_imal 1 (some .int) 1 0 0 [.int (zi v0)] M S (.inl (some (.int (zi r)))) M S (inR r) := by
  refine zMet_of (by decide) hlt [(0, .int (zi v0))] rfl (Nat.le_of_ble_eq_true rfl) (fun K hC hE hN => ?_)
  unfold F_X11_imal at h
  refine j_iload_n hC 0 dX11_imal_0 rfl rfl ?_
  refine j_if_ne hC dX11_imal_1 rfl (w_id hv0) (fun c1 => ?_) (fun c1 => ?_)
  · have h := zf c1 h
    refine j_iload_n hC 0 dX11_imal_9 rfl rfl ?_
    refine j_iconst hC dX11_imal_10 ?_
    refine j_icmp_ne hC dX11_imal_11 rfl (w_id hv0) (w_id kR_1) (fun c2 => ?_) (fun c2 => ?_)
    · have h := zf c2 h
      refine j_iload_n hC 0 dX11_imal_19 rfl rfl ?_
      refine j_iconst hC dX11_imal_20 ?_
      refine j_icmp_ne hC dX11_imal_21 rfl (w_id hv0) (w_id kR_2) (fun c3 => ?_) (fun c3 => ?_)
      · have h := zf c3 h
        refine j_bipush hC dX11_imal_29 rfl ?_
        have e1 := Option.some.inj h
        exact j_iret hC hE dX11_imal_31 (w_id kR_108) (zn_i _) (by rw [← e1]) rfl rfl (by rw [← e1]; exact kR_108) (Nat.le_of_ble_eq_true rfl) (Nat.le_of_ble_eq_true rfl)
      · have h := zt c3 h
        refine j_bipush hC dX11_imal_24 rfl ?_
        refine j_goto hC dX11_imal_26 rfl ?_
        have e1 := Option.some.inj h
        exact j_iret hC hE dX11_imal_31 (w_id kR_97) (zn_i _) (by rw [← e1]) rfl rfl (by rw [← e1]; exact kR_97) (Nat.le_of_ble_eq_true rfl) (Nat.le_of_ble_eq_true rfl)
    · have h := zt c2 h
      refine j_bipush hC dX11_imal_14 rfl ?_
      refine j_goto hC dX11_imal_16 rfl ?_
      have e1 := Option.some.inj h
      exact j_iret hC hE dX11_imal_31 (w_id kR_109) (zn_i _) (by rw [← e1]) rfl rfl (by rw [← e1]; exact kR_109) (Nat.le_of_ble_eq_true rfl) (Nat.le_of_ble_eq_true rfl)
  · have h := zt c1 h
    refine j_bipush hC dX11_imal_4 rfl ?_
    refine j_goto hC dX11_imal_6 rfl ?_
    have e1 := Option.some.inj h
    exact j_iret hC hE dX11_imal_31 (w_id kR_105) (zn_i _) (by rw [← e1]) rfl rfl (by rw [← e1]; exact kR_105) (Nat.le_of_ble_eq_true rfl) (Nat.le_of_ble_eq_true rfl)
set_option maxHeartbeats 4000000 in
set_option maxRecDepth 100000 in
theorem c_X11_nameAt (l : Launch) (hlt : l.stackTraces = false) (g : zG) (v0 : Int) (v1 : Int) (hv0 : inR v0) (hv1 : inR v1) (M : zM) (S : zS) {r : Int} (h : F_X11_nameAt v0 v1 = some r) : zMet l g yX11_nameAt cX11_nameAt 2 (some .int) 2 0 0 [.int (zi v0), .int (zi v1)] M S (.inl (some (.int (zi r)))) M S (inR r) := by
  refine zMet_of (by decide) hlt [(0, .int (zi v0)), (1, .int (zi v1))] rfl (Nat.le_of_ble_eq_true rfl) (fun K hC hE hN => ?_)
  unfold F_X11_nameAt at h
  refine j_iload_n hC 0 dX11_nameAt_0 rfl rfl ?_
  by_cases c1 : v0 = 0
  · have h := zt c1 h
    refine j_tswIn hC 0 dX11_nameAt_1 (w_id hv0) c1 (by decide) (by decide) rfl rfl ?_
    refine j_iload_n hC 1 dX11_nameAt_48 rfl rfl ?_
    refine j_if_ne hC dX11_nameAt_49 rfl (w_id hv1) (fun c2 => ?_) (fun c2 => ?_)
    · have h := zf c2 h
      refine j_iload_n hC 1 dX11_nameAt_57 rfl rfl ?_
      refine j_iconst hC dX11_nameAt_58 ?_
      refine j_icmp_ne hC dX11_nameAt_59 rfl (w_id hv1) (w_id kR_1) (fun c3 => ?_) (fun c3 => ?_)
      · have h := zf c3 h
        refine j_iload_n hC 1 dX11_nameAt_67 rfl rfl ?_
        refine j_iconst hC dX11_nameAt_68 ?_
        refine j_icmp_ne hC dX11_nameAt_69 rfl (w_id hv1) (w_id kR_2) (fun c4 => ?_) (fun c4 => ?_)
        · have h := zf c4 h
          refine j_iload_n hC 1 dX11_nameAt_77 rfl rfl ?_
          refine j_iconst hC dX11_nameAt_78 ?_
          refine j_icmp_ne hC dX11_nameAt_79 rfl (w_id hv1) (w_id kR_3) (fun c5 => ?_) (fun c5 => ?_)
          · have h := zf c5 h
            refine j_iload_n hC 1 dX11_nameAt_87 rfl rfl ?_
            refine j_iconst hC dX11_nameAt_88 ?_
            refine j_icmp_ne hC dX11_nameAt_89 rfl (w_id hv1) (w_id kR_4) (fun c6 => ?_) (fun c6 => ?_)
            · have h := zf c6 h
              refine j_iconst hC dX11_nameAt_97 ?_
              have e1 := Option.some.inj h
              exact j_iret hC hE dX11_nameAt_98 (w_id kR_0) (zn_i _) (by rw [← e1]) rfl rfl (by rw [← e1]; exact kR_0) (Nat.le_of_ble_eq_true rfl) (Nat.le_of_ble_eq_true rfl)
            · have h := zt c6 h
              refine j_bipush hC dX11_nameAt_92 rfl ?_
              refine j_goto hC dX11_nameAt_94 rfl ?_
              have e1 := Option.some.inj h
              exact j_iret hC hE dX11_nameAt_98 (w_id kR_109) (zn_i _) (by rw [← e1]) rfl rfl (by rw [← e1]; exact kR_109) (Nat.le_of_ble_eq_true rfl) (Nat.le_of_ble_eq_true rfl)
          · have h := zt c5 h
            refine j_bipush hC dX11_nameAt_82 rfl ?_
            refine j_goto hC dX11_nameAt_84 rfl ?_
            have e1 := Option.some.inj h
            exact j_iret hC hE dX11_nameAt_98 (w_id kR_111) (zn_i _) (by rw [← e1]) rfl rfl (by rw [← e1]; exact kR_111) (Nat.le_of_ble_eq_true rfl) (Nat.le_of_ble_eq_true rfl)
        · have h := zt c4 h
          refine j_bipush hC dX11_nameAt_72 rfl ?_
          refine j_goto hC dX11_nameAt_74 rfl ?_
          have e1 := Option.some.inj h
          exact j_iret hC hE dX11_nameAt_98 (w_id kR_105) (zn_i _) (by rw [← e1]) rfl rfl (by rw [← e1]; exact kR_105) (Nat.le_of_ble_eq_true rfl) (Nat.le_of_ble_eq_true rfl)
      · have h := zt c3 h
        refine j_bipush hC dX11_nameAt_62 rfl ?_
        refine j_goto hC dX11_nameAt_64 rfl ?_
        have e1 := Option.some.inj h
        exact j_iret hC hE dX11_nameAt_98 (w_id kR_120) (zn_i _) (by rw [← e1]) rfl rfl (by rw [← e1]; exact kR_120) (Nat.le_of_ble_eq_true rfl) (Nat.le_of_ble_eq_true rfl)
    · have h := zt c2 h
      refine j_bipush hC dX11_nameAt_52 rfl ?_
      refine j_goto hC dX11_nameAt_54 rfl ?_
      have e1 := Option.some.inj h
      exact j_iret hC hE dX11_nameAt_98 (w_id kR_97) (zn_i _) (by rw [← e1]) rfl rfl (by rw [← e1]; exact kR_97) (Nat.le_of_ble_eq_true rfl) (Nat.le_of_ble_eq_true rfl)
  have h := zf c1 h
  by_cases c7 : v0 = 1
  · have h := zt c7 h
    refine j_tswIn hC 1 dX11_nameAt_1 (w_id hv0) c7 (by decide) (by decide) rfl rfl ?_
    refine j_iload_n hC 1 dX11_nameAt_99 rfl rfl ?_
    refine j_if_ne hC dX11_nameAt_100 rfl (w_id hv1) (fun c8 => ?_) (fun c8 => ?_)
    · have h := zf c8 h
      refine j_iload_n hC 1 dX11_nameAt_108 rfl rfl ?_
      refine j_iconst hC dX11_nameAt_109 ?_
      refine j_icmp_ne hC dX11_nameAt_110 rfl (w_id hv1) (w_id kR_1) (fun c9 => ?_) (fun c9 => ?_)
      · have h := zf c9 h
        refine j_iload_n hC 1 dX11_nameAt_118 rfl rfl ?_
        refine j_iconst hC dX11_nameAt_119 ?_
        refine j_icmp_ne hC dX11_nameAt_120 rfl (w_id hv1) (w_id kR_2) (fun c10 => ?_) (fun c10 => ?_)
        · have h := zf c10 h
          refine j_iload_n hC 1 dX11_nameAt_128 rfl rfl ?_
          refine j_iconst hC dX11_nameAt_129 ?_
          refine j_icmp_ne hC dX11_nameAt_130 rfl (w_id hv1) (w_id kR_3) (fun c11 => ?_) (fun c11 => ?_)
          · have h := zf c11 h
            refine j_iload_n hC 1 dX11_nameAt_138 rfl rfl ?_
            refine j_iconst hC dX11_nameAt_139 ?_
            refine j_icmp_ne hC dX11_nameAt_140 rfl (w_id hv1) (w_id kR_4) (fun c12 => ?_) (fun c12 => ?_)
            · have h := zf c12 h
              refine j_iload_n hC 1 dX11_nameAt_148 rfl rfl ?_
              refine j_iconst hC dX11_nameAt_149 ?_
              refine j_icmp_ne hC dX11_nameAt_150 rfl (w_id hv1) (w_id kR_5) (fun c13 => ?_) (fun c13 => ?_)
              · have h := zf c13 h
                refine j_iload_n hC 1 dX11_nameAt_158 rfl rfl ?_
                refine j_bipush hC dX11_nameAt_159 rfl ?_
                refine j_icmp_ne hC dX11_nameAt_161 rfl (w_id hv1) (w_id kR_6) (fun c14 => ?_) (fun c14 => ?_)
                · have h := zf c14 h
                  refine j_iconst hC dX11_nameAt_169 ?_
                  have e1 := Option.some.inj h
                  exact j_iret hC hE dX11_nameAt_170 (w_id kR_0) (zn_i _) (by rw [← e1]) rfl rfl (by rw [← e1]; exact kR_0) (Nat.le_of_ble_eq_true rfl) (Nat.le_of_ble_eq_true rfl)
                · have h := zt c14 h
                  refine j_bipush hC dX11_nameAt_164 rfl ?_
                  refine j_goto hC dX11_nameAt_166 rfl ?_
                  have e1 := Option.some.inj h
                  exact j_iret hC hE dX11_nameAt_170 (w_id kR_116) (zn_i _) (by rw [← e1]) rfl rfl (by rw [← e1]; exact kR_116) (Nat.le_of_ble_eq_true rfl) (Nat.le_of_ble_eq_true rfl)
              · have h := zt c13 h
                refine j_bipush hC dX11_nameAt_153 rfl ?_
                refine j_goto hC dX11_nameAt_155 rfl ?_
                have e1 := Option.some.inj h
                exact j_iret hC hE dX11_nameAt_170 (w_id kR_120) (zn_i _) (by rw [← e1]) rfl rfl (by rw [← e1]; exact kR_120) (Nat.le_of_ble_eq_true rfl) (Nat.le_of_ble_eq_true rfl)
            · have h := zt c12 h
              refine j_bipush hC dX11_nameAt_143 rfl ?_
              refine j_goto hC dX11_nameAt_145 rfl ?_
              have e1 := Option.some.inj h
              exact j_iret hC hE dX11_nameAt_170 (w_id kR_101) (zn_i _) (by rw [← e1]) rfl rfl (by rw [← e1]; exact kR_101) (Nat.le_of_ble_eq_true rfl) (Nat.le_of_ble_eq_true rfl)
          · have h := zt c11 h
            refine j_bipush hC dX11_nameAt_133 rfl ?_
            refine j_goto hC dX11_nameAt_135 rfl ?_
            have e1 := Option.some.inj h
            exact j_iret hC hE dX11_nameAt_170 (w_id kR_116) (zn_i _) (by rw [← e1]) rfl rfl (by rw [← e1]; exact kR_116) (Nat.le_of_ble_eq_true rfl) (Nat.le_of_ble_eq_true rfl)
        · have h := zt c10 h
          refine j_bipush hC dX11_nameAt_123 rfl ?_
          refine j_goto hC dX11_nameAt_125 rfl ?_
          have e1 := Option.some.inj h
          exact j_iret hC hE dX11_nameAt_170 (w_id kR_110) (zn_i _) (by rw [← e1]) rfl rfl (by rw [← e1]; exact kR_110) (Nat.le_of_ble_eq_true rfl) (Nat.le_of_ble_eq_true rfl)
      · have h := zt c9 h
        refine j_bipush hC dX11_nameAt_113 rfl ?_
        refine j_goto hC dX11_nameAt_115 rfl ?_
        have e1 := Option.some.inj h
        exact j_iret hC hE dX11_nameAt_170 (w_id kR_111) (zn_i _) (by rw [← e1]) rfl rfl (by rw [← e1]; exact kR_111) (Nat.le_of_ble_eq_true rfl) (Nat.le_of_ble_eq_true rfl)
    · have h := zt c8 h
      refine j_bipush hC dX11_nameAt_103 rfl ?_
      refine j_goto hC dX11_nameAt_105 rfl ?_
      have e1 := Option.some.inj h
      exact j_iret hC hE dX11_nameAt_170 (w_id kR_99) (zn_i _) (by rw [← e1]) rfl rfl (by rw [← e1]; exact kR_99) (Nat.le_of_ble_eq_true rfl) (Nat.le_of_ble_eq_true rfl)
  have h := zf c7 h
  by_cases c15 : v0 = 2
  · have h := zt c15 h
    refine j_tswIn hC 2 dX11_nameAt_1 (w_id hv0) c15 (by decide) (by decide) rfl rfl ?_
    refine j_iload_n hC 1 dX11_nameAt_171 rfl rfl ?_
    refine j_if_ne hC dX11_nameAt_172 rfl (w_id hv1) (fun c16 => ?_) (fun c16 => ?_)
    · have h := zf c16 h
      refine j_iload_n hC 1 dX11_nameAt_180 rfl rfl ?_
      refine j_iconst hC dX11_nameAt_181 ?_
      refine j_icmp_ne hC dX11_nameAt_182 rfl (w_id hv1) (w_id kR_1) (fun c17 => ?_) (fun c17 => ?_)
      · have h := zf c17 h
        refine j_iload_n hC 1 dX11_nameAt_190 rfl rfl ?_
        refine j_iconst hC dX11_nameAt_191 ?_
        refine j_icmp_ne hC dX11_nameAt_192 rfl (w_id hv1) (w_id kR_2) (fun c18 => ?_) (fun c18 => ?_)
        · have h := zf c18 h
          refine j_iload_n hC 1 dX11_nameAt_200 rfl rfl ?_
          refine j_iconst hC dX11_nameAt_201 ?_
          refine j_icmp_ne hC dX11_nameAt_202 rfl (w_id hv1) (w_id kR_3) (fun c19 => ?_) (fun c19 => ?_)
          · have h := zf c19 h
            refine j_iconst hC dX11_nameAt_210 ?_
            have e1 := Option.some.inj h
            exact j_iret hC hE dX11_nameAt_211 (w_id kR_0) (zn_i _) (by rw [← e1]) rfl rfl (by rw [← e1]; exact kR_0) (Nat.le_of_ble_eq_true rfl) (Nat.le_of_ble_eq_true rfl)
          · have h := zt c19 h
            refine j_bipush hC dX11_nameAt_205 rfl ?_
            refine j_goto hC dX11_nameAt_207 rfl ?_
            have e1 := Option.some.inj h
            exact j_iret hC hE dX11_nameAt_211 (w_id kR_101) (zn_i _) (by rw [← e1]) rfl rfl (by rw [← e1]; exact kR_101) (Nat.le_of_ble_eq_true rfl) (Nat.le_of_ble_eq_true rfl)
        · have h := zt c18 h
          refine j_bipush hC dX11_nameAt_195 rfl ?_
          refine j_goto hC dX11_nameAt_197 rfl ?_
          have e1 := Option.some.inj h
          exact j_iret hC hE dX11_nameAt_211 (w_id kR_100) (zn_i _) (by rw [← e1]) rfl rfl (by rw [← e1]; exact kR_100) (Nat.le_of_ble_eq_true rfl) (Nat.le_of_ble_eq_true rfl)
      · have h := zt c17 h
        refine j_bipush hC dX11_nameAt_185 rfl ?_
        refine j_goto hC dX11_nameAt_187 rfl ?_
        have e1 := Option.some.inj h
        exact j_iret hC hE dX11_nameAt_211 (w_id kR_111) (zn_i _) (by rw [← e1]) rfl rfl (by rw [← e1]; exact kR_111) (Nat.le_of_ble_eq_true rfl) (Nat.le_of_ble_eq_true rfl)
    · have h := zt c16 h
      refine j_bipush hC dX11_nameAt_175 rfl ?_
      refine j_goto hC dX11_nameAt_177 rfl ?_
      have e1 := Option.some.inj h
      exact j_iret hC hE dX11_nameAt_211 (w_id kR_109) (zn_i _) (by rw [← e1]) rfl rfl (by rw [← e1]; exact kR_109) (Nat.le_of_ble_eq_true rfl) (Nat.le_of_ble_eq_true rfl)
  have h := zf c15 h
  by_cases c20 : v0 = 3
  · have h := zt c20 h
    refine j_tswIn hC 3 dX11_nameAt_1 (w_id hv0) c20 (by decide) (by decide) rfl rfl ?_
    refine j_iload_n hC 1 dX11_nameAt_212 rfl rfl ?_
    refine j_if_ne hC dX11_nameAt_213 rfl (w_id hv1) (fun c21 => ?_) (fun c21 => ?_)
    · have h := zf c21 h
      refine j_iload_n hC 1 dX11_nameAt_221 rfl rfl ?_
      refine j_iconst hC dX11_nameAt_222 ?_
      refine j_icmp_ne hC dX11_nameAt_223 rfl (w_id hv1) (w_id kR_1) (fun c22 => ?_) (fun c22 => ?_)
      · have h := zf c22 h
        refine j_iload_n hC 1 dX11_nameAt_231 rfl rfl ?_
        refine j_iconst hC dX11_nameAt_232 ?_
        refine j_icmp_ne hC dX11_nameAt_233 rfl (w_id hv1) (w_id kR_2) (fun c23 => ?_) (fun c23 => ?_)
        · have h := zf c23 h
          refine j_iload_n hC 1 dX11_nameAt_241 rfl rfl ?_
          refine j_iconst hC dX11_nameAt_242 ?_
          refine j_icmp_ne hC dX11_nameAt_243 rfl (w_id hv1) (w_id kR_3) (fun c24 => ?_) (fun c24 => ?_)
          · have h := zf c24 h
            refine j_iload_n hC 1 dX11_nameAt_251 rfl rfl ?_
            refine j_iconst hC dX11_nameAt_252 ?_
            refine j_icmp_ne hC dX11_nameAt_253 rfl (w_id hv1) (w_id kR_4) (fun c25 => ?_) (fun c25 => ?_)
            · have h := zf c25 h
              refine j_iconst hC dX11_nameAt_261 ?_
              have e1 := Option.some.inj h
              exact j_iret hC hE dX11_nameAt_262 (w_id kR_0) (zn_i _) (by rw [← e1]) rfl rfl (by rw [← e1]; exact kR_0) (Nat.le_of_ble_eq_true rfl) (Nat.le_of_ble_eq_true rfl)
            · have h := zt c25 h
              refine j_bipush hC dX11_nameAt_256 rfl ?_
              refine j_goto hC dX11_nameAt_258 rfl ?_
              have e1 := Option.some.inj h
              exact j_iret hC hE dX11_nameAt_262 (w_id kR_116) (zn_i _) (by rw [← e1]) rfl rfl (by rw [← e1]; exact kR_116) (Nat.le_of_ble_eq_true rfl) (Nat.le_of_ble_eq_true rfl)
          · have h := zt c24 h
            refine j_bipush hC dX11_nameAt_246 rfl ?_
            refine j_goto hC dX11_nameAt_248 rfl ?_
            have e1 := Option.some.inj h
            exact j_iret hC hE dX11_nameAt_262 (w_id kR_105) (zn_i _) (by rw [← e1]) rfl rfl (by rw [← e1]; exact kR_105) (Nat.le_of_ble_eq_true rfl) (Nat.le_of_ble_eq_true rfl)
        · have h := zt c23 h
          refine j_bipush hC dX11_nameAt_236 rfl ?_
          refine j_goto hC dX11_nameAt_238 rfl ?_
          have e1 := Option.some.inj h
          exact j_iret hC hE dX11_nameAt_262 (w_id kR_109) (zn_i _) (by rw [← e1]) rfl rfl (by rw [← e1]; exact kR_109) (Nat.le_of_ble_eq_true rfl) (Nat.le_of_ble_eq_true rfl)
      · have h := zt c22 h
        refine j_bipush hC dX11_nameAt_226 rfl ?_
        refine j_goto hC dX11_nameAt_228 rfl ?_
        have e1 := Option.some.inj h
        exact j_iret hC hE dX11_nameAt_262 (w_id kR_105) (zn_i _) (by rw [← e1]) rfl rfl (by rw [← e1]; exact kR_105) (Nat.le_of_ble_eq_true rfl) (Nat.le_of_ble_eq_true rfl)
    · have h := zt c21 h
      refine j_bipush hC dX11_nameAt_216 rfl ?_
      refine j_goto hC dX11_nameAt_218 rfl ?_
      have e1 := Option.some.inj h
      exact j_iret hC hE dX11_nameAt_262 (w_id kR_108) (zn_i _) (by rw [← e1]) rfl rfl (by rw [← e1]; exact kR_108) (Nat.le_of_ble_eq_true rfl) (Nat.le_of_ble_eq_true rfl)
  have h := zf c20 h
  by_cases c26 : v0 = 4
  · have h := zt c26 h
    refine j_tswIn hC 4 dX11_nameAt_1 (w_id hv0) c26 (by decide) (by decide) rfl rfl ?_
    refine j_iload_n hC 1 dX11_nameAt_263 rfl rfl ?_
    refine j_iconst hC dX11_nameAt_264 ?_
    refine j_icmp_ge hC dX11_nameAt_265 rfl (w_id hv1) (w_id kR_2) (fun c27 => ?_) (fun c27 => ?_)
    · have h := zf c27 h
      refine j_iload_n hC 1 dX11_nameAt_282 rfl rfl ?_
      refine j_iconst hC dX11_nameAt_283 ?_
      refine j_icmp_ne hC dX11_nameAt_284 rfl (w_id hv1) (w_id kR_2) (fun c28 => ?_) (fun c28 => ?_)
      · have h := zf c28 h
        refine j_iload_n hC 1 dX11_nameAt_292 rfl rfl ?_
        refine j_bipush hC dX11_nameAt_293 rfl ?_
        refine j_icmp_ge hC dX11_nameAt_295 rfl (w_id hv1) (w_id kR_8) (fun c29 => ?_) (fun c29 => ?_)
        · have h := zf c29 h
          refine j_iconst hC dX11_nameAt_307 ?_
          have e1 := Option.some.inj h
          exact j_iret hC hE dX11_nameAt_308 (w_id kR_0) (zn_i _) (by rw [← e1]) rfl rfl (by rw [← e1]; exact kR_0) (Nat.le_of_ble_eq_true rfl) (Nat.le_of_ble_eq_true rfl)
        · have h := zt c29 h
          refine j_iload_n hC 1 dX11_nameAt_298 rfl rfl ?_
          refine j_iconst hC dX11_nameAt_299 ?_
          refine j_isub hC dX11_nameAt_300 ?_
          obtain ⟨r30, hy, h⟩ := zb1_ex h
          refine j_callSi hC hE lk_X11_198 dX11_nameAt_301 (c_X11_ernal l hlt g (w (v1 - 3)) (inR_w _) M S hy) [.int (zi (v1 - 3))] [] rfl (by simp only [zi_w, zl_wl]) rfl (zcat (Nat.le_of_ble_eq_true rfl)) (Nat.le_of_ble_eq_true rfl) (Nat.le_of_ble_eq_true rfl) (Nat.le_of_ble_eq_true rfl) (Nat.le_of_ble_eq_true rfl) (fun hp31 => ?_)
          have hr30 := hp31
          refine j_goto hC dX11_nameAt_304 rfl ?_
          have e1 := Option.some.inj h
          exact j_iret hC hE dX11_nameAt_308 (w_id hr30) (zn_i _) (by rw [← e1]) rfl rfl (by rw [← e1]; exact hr30) (Nat.le_of_ble_eq_true rfl) (Nat.le_of_ble_eq_true rfl)
      · have h := zt c28 h
        refine j_bipush hC dX11_nameAt_287 rfl ?_
        refine j_goto hC dX11_nameAt_289 rfl ?_
        have e1 := Option.some.inj h
        exact j_iret hC hE dX11_nameAt_308 (w_id kR_116) (zn_i _) (by rw [← e1]) rfl rfl (by rw [← e1]; exact kR_116) (Nat.le_of_ble_eq_true rfl) (Nat.le_of_ble_eq_true rfl)
    · have h := zt c27 h
      refine j_iload_n hC 1 dX11_nameAt_268 rfl rfl ?_
      refine j_if_ne hC dX11_nameAt_269 rfl (w_id hv1) (fun c32 => ?_) (fun c32 => ?_)
      · have h := zf c32 h
        refine j_bipush hC dX11_nameAt_277 rfl ?_
        refine j_goto hC dX11_nameAt_279 rfl ?_
        have e1 := Option.some.inj h
        exact j_iret hC hE dX11_nameAt_308 (w_id kR_120) (zn_i _) (by rw [← e1]) rfl rfl (by rw [← e1]; exact kR_120) (Nat.le_of_ble_eq_true rfl) (Nat.le_of_ble_eq_true rfl)
      · have h := zt c32 h
        refine j_bipush hC dX11_nameAt_272 rfl ?_
        refine j_goto hC dX11_nameAt_274 rfl ?_
        have e1 := Option.some.inj h
        exact j_iret hC hE dX11_nameAt_308 (w_id kR_101) (zn_i _) (by rw [← e1]) rfl rfl (by rw [← e1]; exact kR_101) (Nat.le_of_ble_eq_true rfl) (Nat.le_of_ble_eq_true rfl)
  have h := zf c26 h
  by_cases c33 : v0 = 5
  · have h := zt c33 h
    refine j_tswIn hC 5 dX11_nameAt_1 (w_id hv0) c33 (by decide) (by decide) rfl rfl ?_
    refine j_iload_n hC 1 dX11_nameAt_309 rfl rfl ?_
    refine j_iconst hC dX11_nameAt_310 ?_
    refine j_icmp_ge hC dX11_nameAt_311 rfl (w_id hv1) (w_id kR_2) (fun c34 => ?_) (fun c34 => ?_)
    · have h := zf c34 h
      refine j_iload_n hC 1 dX11_nameAt_328 rfl rfl ?_
      refine j_iconst hC dX11_nameAt_329 ?_
      refine j_icmp_ne hC dX11_nameAt_330 rfl (w_id hv1) (w_id kR_2) (fun c35 => ?_) (fun c35 => ?_)
      · have h := zf c35 h
        refine j_iload_n hC 1 dX11_nameAt_338 rfl rfl ?_
        refine j_bipush hC dX11_nameAt_339 rfl ?_
        refine j_icmp_ge hC dX11_nameAt_341 rfl (w_id hv1) (w_id kR_8) (fun c36 => ?_) (fun c36 => ?_)
        · have h := zf c36 h
          refine j_iconst hC dX11_nameAt_353 ?_
          have e1 := Option.some.inj h
          exact j_iret hC hE dX11_nameAt_354 (w_id kR_0) (zn_i _) (by rw [← e1]) rfl rfl (by rw [← e1]; exact kR_0) (Nat.le_of_ble_eq_true rfl) (Nat.le_of_ble_eq_true rfl)
        · have h := zt c36 h
          refine j_iload_n hC 1 dX11_nameAt_344 rfl rfl ?_
          refine j_iconst hC dX11_nameAt_345 ?_
          refine j_isub hC dX11_nameAt_346 ?_
          obtain ⟨r37, hy, h⟩ := zb1_ex h
          refine j_callSi hC hE lk_X11_198 dX11_nameAt_347 (c_X11_ernal l hlt g (w (v1 - 3)) (inR_w _) M S hy) [.int (zi (v1 - 3))] [] rfl (by simp only [zi_w, zl_wl]) rfl (zcat (Nat.le_of_ble_eq_true rfl)) (Nat.le_of_ble_eq_true rfl) (Nat.le_of_ble_eq_true rfl) (Nat.le_of_ble_eq_true rfl) (Nat.le_of_ble_eq_true rfl) (fun hp38 => ?_)
          have hr37 := hp38
          refine j_goto hC dX11_nameAt_350 rfl ?_
          have e1 := Option.some.inj h
          exact j_iret hC hE dX11_nameAt_354 (w_id hr37) (zn_i _) (by rw [← e1]) rfl rfl (by rw [← e1]; exact hr37) (Nat.le_of_ble_eq_true rfl) (Nat.le_of_ble_eq_true rfl)
      · have h := zt c35 h
        refine j_bipush hC dX11_nameAt_333 rfl ?_
        refine j_goto hC dX11_nameAt_335 rfl ?_
        have e1 := Option.some.inj h
        exact j_iret hC hE dX11_nameAt_354 (w_id kR_116) (zn_i _) (by rw [← e1]) rfl rfl (by rw [← e1]; exact kR_116) (Nat.le_of_ble_eq_true rfl) (Nat.le_of_ble_eq_true rfl)
    · have h := zt c34 h
      refine j_iload_n hC 1 dX11_nameAt_314 rfl rfl ?_
      refine j_if_ne hC dX11_nameAt_315 rfl (w_id hv1) (fun c39 => ?_) (fun c39 => ?_)
      · have h := zf c39 h
        refine j_bipush hC dX11_nameAt_323 rfl ?_
        refine j_goto hC dX11_nameAt_325 rfl ?_
        have e1 := Option.some.inj h
        exact j_iret hC hE dX11_nameAt_354 (w_id kR_110) (zn_i _) (by rw [← e1]) rfl rfl (by rw [← e1]; exact kR_110) (Nat.le_of_ble_eq_true rfl) (Nat.le_of_ble_eq_true rfl)
      · have h := zt c39 h
        refine j_bipush hC dX11_nameAt_318 rfl ?_
        refine j_goto hC dX11_nameAt_320 rfl ?_
        have e1 := Option.some.inj h
        exact j_iret hC hE dX11_nameAt_354 (w_id kR_105) (zn_i _) (by rw [← e1]) rfl rfl (by rw [← e1]; exact kR_105) (Nat.le_of_ble_eq_true rfl) (Nat.le_of_ble_eq_true rfl)
  have h := zf c33 h
  by_cases c40 : v0 = 6
  · have h := zt c40 h
    refine j_tswIn hC 6 dX11_nameAt_1 (w_id hv0) c40 (by decide) (by decide) rfl rfl ?_
    refine j_iload_n hC 1 dX11_nameAt_355 rfl rfl ?_
    refine j_iconst hC dX11_nameAt_356 ?_
    refine j_icmp_ge hC dX11_nameAt_357 rfl (w_id hv1) (w_id kR_2) (fun c41 => ?_) (fun c41 => ?_)
    · have h := zf c41 h
      refine j_iload_n hC 1 dX11_nameAt_374 rfl rfl ?_
      refine j_iconst hC dX11_nameAt_375 ?_
      refine j_icmp_ne hC dX11_nameAt_376 rfl (w_id hv1) (w_id kR_2) (fun c42 => ?_) (fun c42 => ?_)
      · have h := zf c42 h
        refine j_iload_n hC 1 dX11_nameAt_384 rfl rfl ?_
        refine j_bipush hC dX11_nameAt_385 rfl ?_
        refine j_icmp_ge hC dX11_nameAt_387 rfl (w_id hv1) (w_id kR_7) (fun c43 => ?_) (fun c43 => ?_)
        · have h := zf c43 h
          refine j_iconst hC dX11_nameAt_399 ?_
          have e1 := Option.some.inj h
          exact j_iret hC hE dX11_nameAt_400 (w_id kR_0) (zn_i _) (by rw [← e1]) rfl rfl (by rw [← e1]; exact kR_0) (Nat.le_of_ble_eq_true rfl) (Nat.le_of_ble_eq_true rfl)
        · have h := zt c43 h
          refine j_iload_n hC 1 dX11_nameAt_390 rfl rfl ?_
          refine j_iconst hC dX11_nameAt_391 ?_
          refine j_isub hC dX11_nameAt_392 ?_
          obtain ⟨r44, hy, h⟩ := zb1_ex h
          refine j_callSi hC hE lk_X11_201 dX11_nameAt_393 (c_X11_imal l hlt g (w (v1 - 3)) (inR_w _) M S hy) [.int (zi (v1 - 3))] [] rfl (by simp only [zi_w, zl_wl]) rfl (zcat (Nat.le_of_ble_eq_true rfl)) (Nat.le_of_ble_eq_true rfl) (Nat.le_of_ble_eq_true rfl) (Nat.le_of_ble_eq_true rfl) (Nat.le_of_ble_eq_true rfl) (fun hp45 => ?_)
          have hr44 := hp45
          refine j_goto hC dX11_nameAt_396 rfl ?_
          have e1 := Option.some.inj h
          exact j_iret hC hE dX11_nameAt_400 (w_id hr44) (zn_i _) (by rw [← e1]) rfl rfl (by rw [← e1]; exact hr44) (Nat.le_of_ble_eq_true rfl) (Nat.le_of_ble_eq_true rfl)
      · have h := zt c42 h
        refine j_bipush hC dX11_nameAt_379 rfl ?_
        refine j_goto hC dX11_nameAt_381 rfl ?_
        have e1 := Option.some.inj h
        exact j_iret hC hE dX11_nameAt_400 (w_id kR_120) (zn_i _) (by rw [← e1]) rfl rfl (by rw [← e1]; exact kR_120) (Nat.le_of_ble_eq_true rfl) (Nat.le_of_ble_eq_true rfl)
    · have h := zt c41 h
      refine j_iload_n hC 1 dX11_nameAt_360 rfl rfl ?_
      refine j_if_ne hC dX11_nameAt_361 rfl (w_id hv1) (fun c46 => ?_) (fun c46 => ?_)
      · have h := zf c46 h
        refine j_bipush hC dX11_nameAt_369 rfl ?_
        refine j_goto hC dX11_nameAt_371 rfl ?_
        have e1 := Option.some.inj h
        exact j_iret hC hE dX11_nameAt_400 (w_id kR_97) (zn_i _) (by rw [← e1]) rfl rfl (by rw [← e1]; exact kR_97) (Nat.le_of_ble_eq_true rfl) (Nat.le_of_ble_eq_true rfl)
      · have h := zt c46 h
        refine j_bipush hC dX11_nameAt_364 rfl ?_
        refine j_goto hC dX11_nameAt_366 rfl ?_
        have e1 := Option.some.inj h
        exact j_iret hC hE dX11_nameAt_400 (w_id kR_109) (zn_i _) (by rw [← e1]) rfl rfl (by rw [← e1]; exact kR_109) (Nat.le_of_ble_eq_true rfl) (Nat.le_of_ble_eq_true rfl)
  have h := zf c40 h
  by_cases c47 : v0 = 7
  · have h := zt c47 h
    refine j_tswIn hC 7 dX11_nameAt_1 (w_id hv0) c47 (by decide) (by decide) rfl rfl ?_
    refine j_iload_n hC 1 dX11_nameAt_401 rfl rfl ?_
    refine j_iconst hC dX11_nameAt_402 ?_
    refine j_icmp_ge hC dX11_nameAt_403 rfl (w_id hv1) (w_id kR_2) (fun c48 => ?_) (fun c48 => ?_)
    · have h := zf c48 h
      refine j_iload_n hC 1 dX11_nameAt_420 rfl rfl ?_
      refine j_iconst hC dX11_nameAt_421 ?_
      refine j_icmp_ne hC dX11_nameAt_422 rfl (w_id hv1) (w_id kR_2) (fun c49 => ?_) (fun c49 => ?_)
      · have h := zf c49 h
        refine j_iload_n hC 1 dX11_nameAt_430 rfl rfl ?_
        refine j_bipush hC dX11_nameAt_431 rfl ?_
        refine j_icmp_ge hC dX11_nameAt_433 rfl (w_id hv1) (w_id kR_7) (fun c50 => ?_) (fun c50 => ?_)
        · have h := zf c50 h
          refine j_iconst hC dX11_nameAt_445 ?_
          have e1 := Option.some.inj h
          exact j_iret hC hE dX11_nameAt_446 (w_id kR_0) (zn_i _) (by rw [← e1]) rfl rfl (by rw [← e1]; exact kR_0) (Nat.le_of_ble_eq_true rfl) (Nat.le_of_ble_eq_true rfl)
        · have h := zt c50 h
          refine j_iload_n hC 1 dX11_nameAt_436 rfl rfl ?_
          refine j_iconst hC dX11_nameAt_437 ?_
          refine j_isub hC dX11_nameAt_438 ?_
          obtain ⟨r51, hy, h⟩ := zb1_ex h
          refine j_callSi hC hE lk_X11_201 dX11_nameAt_439 (c_X11_imal l hlt g (w (v1 - 3)) (inR_w _) M S hy) [.int (zi (v1 - 3))] [] rfl (by simp only [zi_w, zl_wl]) rfl (zcat (Nat.le_of_ble_eq_true rfl)) (Nat.le_of_ble_eq_true rfl) (Nat.le_of_ble_eq_true rfl) (Nat.le_of_ble_eq_true rfl) (Nat.le_of_ble_eq_true rfl) (fun hp52 => ?_)
          have hr51 := hp52
          refine j_goto hC dX11_nameAt_442 rfl ?_
          have e1 := Option.some.inj h
          exact j_iret hC hE dX11_nameAt_446 (w_id hr51) (zn_i _) (by rw [← e1]) rfl rfl (by rw [← e1]; exact hr51) (Nat.le_of_ble_eq_true rfl) (Nat.le_of_ble_eq_true rfl)
      · have h := zt c49 h
        refine j_bipush hC dX11_nameAt_425 rfl ?_
        refine j_goto hC dX11_nameAt_427 rfl ?_
        have e1 := Option.some.inj h
        exact j_iret hC hE dX11_nameAt_446 (w_id kR_110) (zn_i _) (by rw [← e1]) rfl rfl (by rw [← e1]; exact kR_110) (Nat.le_of_ble_eq_true rfl) (Nat.le_of_ble_eq_true rfl)
    · have h := zt c48 h
      refine j_iload_n hC 1 dX11_nameAt_406 rfl rfl ?_
      refine j_if_ne hC dX11_nameAt_407 rfl (w_id hv1) (fun c53 => ?_) (fun c53 => ?_)
      · have h := zf c53 h
        refine j_bipush hC dX11_nameAt_415 rfl ?_
        refine j_goto hC dX11_nameAt_417 rfl ?_
        have e1 := Option.some.inj h
        exact j_iret hC hE dX11_nameAt_446 (w_id kR_105) (zn_i _) (by rw [← e1]) rfl rfl (by rw [← e1]; exact kR_105) (Nat.le_of_ble_eq_true rfl) (Nat.le_of_ble_eq_true rfl)
      · have h := zt c53 h
        refine j_bipush hC dX11_nameAt_410 rfl ?_
        refine j_goto hC dX11_nameAt_412 rfl ?_
        have e1 := Option.some.inj h
        exact j_iret hC hE dX11_nameAt_446 (w_id kR_109) (zn_i _) (by rw [← e1]) rfl rfl (by rw [← e1]; exact kR_109) (Nat.le_of_ble_eq_true rfl) (Nat.le_of_ble_eq_true rfl)
  have h := zf c47 h
  refine j_tswOut hC dX11_nameAt_1 (w_id hv0) (by omega) rfl ?_
  refine j_iload_n hC 1 dX11_nameAt_447 rfl rfl ?_
  refine j_if_ne hC dX11_nameAt_448 rfl (w_id hv1) (fun c54 => ?_) (fun c54 => ?_)
  · have h := zf c54 h
    refine j_iload_n hC 1 dX11_nameAt_456 rfl rfl ?_
    refine j_iconst hC dX11_nameAt_457 ?_
    refine j_icmp_ne hC dX11_nameAt_458 rfl (w_id hv1) (w_id kR_1) (fun c55 => ?_) (fun c55 => ?_)
    · have h := zf c55 h
      refine j_iload_n hC 1 dX11_nameAt_466 rfl rfl ?_
      refine j_iconst hC dX11_nameAt_467 ?_
      refine j_icmp_ne hC dX11_nameAt_468 rfl (w_id hv1) (w_id kR_2) (fun c56 => ?_) (fun c56 => ?_)
      · have h := zf c56 h
        refine j_iload_n hC 1 dX11_nameAt_476 rfl rfl ?_
        refine j_iconst hC dX11_nameAt_477 ?_
        refine j_icmp_ne hC dX11_nameAt_478 rfl (w_id hv1) (w_id kR_3) (fun c57 => ?_) (fun c57 => ?_)
        · have h := zf c57 h
          refine j_iconst hC dX11_nameAt_486 ?_
          have e1 := Option.some.inj h
          exact j_iret hC hE dX11_nameAt_487 (w_id kR_0) (zn_i _) (by rw [← e1]) rfl rfl (by rw [← e1]; exact kR_0) (Nat.le_of_ble_eq_true rfl) (Nat.le_of_ble_eq_true rfl)
        · have h := zt c57 h
          refine j_bipush hC dX11_nameAt_481 rfl ?_
          refine j_goto hC dX11_nameAt_483 rfl ?_
          have e1 := Option.some.inj h
          exact j_iret hC hE dX11_nameAt_487 (w_id kR_116) (zn_i _) (by rw [← e1]) rfl rfl (by rw [← e1]; exact kR_116) (Nat.le_of_ble_eq_true rfl) (Nat.le_of_ble_eq_true rfl)
      · have h := zt c56 h
        refine j_bipush hC dX11_nameAt_471 rfl ?_
        refine j_goto hC dX11_nameAt_473 rfl ?_
        have e1 := Option.some.inj h
        exact j_iret hC hE dX11_nameAt_487 (w_id kR_102) (zn_i _) (by rw [← e1]) rfl rfl (by rw [← e1]; exact kR_102) (Nat.le_of_ble_eq_true rfl) (Nat.le_of_ble_eq_true rfl)
    · have h := zt c55 h
      refine j_bipush hC dX11_nameAt_461 rfl ?_
      refine j_goto hC dX11_nameAt_463 rfl ?_
      have e1 := Option.some.inj h
      exact j_iret hC hE dX11_nameAt_487 (w_id kR_101) (zn_i _) (by rw [← e1]) rfl rfl (by rw [← e1]; exact kR_101) (Nat.le_of_ble_eq_true rfl) (Nat.le_of_ble_eq_true rfl)
  · have h := zt c54 h
    refine j_bipush hC dX11_nameAt_451 rfl ?_
    refine j_goto hC dX11_nameAt_453 rfl ?_
    have e1 := Option.some.inj h
    exact j_iret hC hE dX11_nameAt_487 (w_id kR_108) (zn_i _) (by rw [← e1]) rfl rfl (by rw [← e1]; exact kR_108) (Nat.le_of_ble_eq_true rfl) (Nat.le_of_ble_eq_true rfl)
set_option maxHeartbeats 4000000 in
set_option maxRecDepth 100000 in
theorem c_X11_readName (l : Launch) (hlt : l.stackTraces = false) (g : zG) (v1 : Int) (v2 : Int) (hv1 : inR v1) (hv2 : inR v2) (M : zM) (S : zS) (hF : zFx S) {r : Int} {M' : zM} (h : F_X11_readName v1 v2 M = some (r, M')) : zMet l g yX11_readName cX11_readName 6 (some .int) 3 0 0 [zr g 48, .int (zi v1), .int (zi v2)] M S (.inl (some (.int (zi r)))) M' S (inR r) := by
  refine zMet_of (by decide) hlt [(0, zr g 48), (1, .int (zi v1)), (2, .int (zi v2))] rfl (Nat.le_of_ble_eq_true rfl) (fun K hC hE hN => ?_)
  unfold F_X11_readName at h
  have J_103 : ∀ (v3 : Int) (hv3 : inR v3) (M : zM) (_ : F_X11_readName_J103 v3 M = some (r, M')), zJ K g 0 0 103 6 [(0, zr g 48), (3, .int (zi v3))] [] M S := by
    intro v3 hv3 M h
    unfold F_X11_readName_J103 at h
    refine j_aload_n hC 0 dX11_readName_103 rfl rfl ?_
    refine j_aload_n hC 0 dX11_readName_104 rfl rfl ?_
    refine j_get hC dX11_readName_105 f_X11_141 (zFx_kd hF 48 rfl) rfl 13 rfl (fun hg1 => ?_)
    refine j_iload_n hC 1 dX11_readName_108 rfl rfl ?_
    refine j_iadd hC dX11_readName_109 ?_
    obtain ⟨M2, eM2, h⟩ := zlet_ex h
    refine j_put hC dX11_readName_110 f_X11_36 pF_X11 (zFx_kd hF 48 rfl) (Or.inl rfl) rfl 14 rfl rfl (inR_w _) eM2 ?_
    refine j_iconst hC dX11_readName_113 ?_
    obtain ⟨e1, e2⟩ := zpr2 (Option.some.inj h)
    exact j_iret hC hE dX11_readName_114 (w_id kR_m1) (zn_i _) (by rw [← e1]) e2 rfl (by rw [← e1]; exact kR_m1) (Nat.le_of_ble_eq_true rfl) (Nat.le_of_ble_eq_true rfl)
  have J_76 : ∀ (v4 : Int) (v5 : Int) (hv4 : inR v4) (hv5 : inR v5) (M : zM) (_ : F_X11_readName_J76 v4 v5 M = some (r, M')), zJ K g 0 0 76 6 [(0, zr g 48), (4, .int (zi v4)), (5, .int (zi v5))] [] M S := by
    intro v4 v5 hv4 hv5 M h
    unfold F_X11_readName_J76 at h
    refine j_aload_n hC 0 dX11_readName_76 rfl rfl ?_
    refine j_dup hC dX11_readName_77 (zr_cat _ _) ?_
    refine j_get hC dX11_readName_78 f_X11_141 (zFx_kd hF 48 rfl) rfl 13 rfl (fun hg3 => ?_)
    refine j_iload hC 2 dX11_readName_81 rfl ?_
    refine j_iadd hC dX11_readName_83 ?_
    obtain ⟨M4, eM4, h⟩ := zlet_ex h
    refine j_put hC dX11_readName_84 f_X11_141 pF_X11 (zFx_kd hF 48 rfl) (Or.inl rfl) rfl 13 rfl rfl (inR_w _) eM4 ?_
    refine j_iload hC 1 dX11_readName_87 rfl ?_
    obtain ⟨e1, e2⟩ := zpr2 (Option.some.inj h)
    exact j_iret hC hE dX11_readName_89 (w_id hv4) (zn_i _) (by rw [← e1]) e2 rfl (by rw [← e1]; exact hv4) (Nat.le_of_ble_eq_true rfl) (Nat.le_of_ble_eq_true rfl)
  have L_5 : ∀ (v2 : Int) (v3 : Int) (v4 : Int) (hv2 : inR v2) (hv3 : inR v3) (hv4 : inR v4) (M : zM) (_ : F_X11_readName_L5 v2 v3 v4 M = some (r, M')), zJ K g 0 0 5 6 [(0, zr g 48), (2, .int (zi v2)), (3, .int (zi v3)), (4, .int (zi v4))] [] M S := by
    intro v2 v3 v4 hv2 hv3 hv4 M h
    unfold F_X11_readName_L5 at h
    obtain ⟨ex5, hl, hd5⟩ := zb1_ex h
    obtain ⟨bd5, ebd⟩ : ∃ f, f = (fun (s : Int × Int) => F_X11_readName_B5 v2 s.1 s.2 M) := ⟨_, rfl⟩
    rw [← ebd] at hl
    have main : ∀ (n5 : Nat) (v3 : Int) (v4 : Int) (hv3 : inR v3) (hv4 : inR v4) (_ : zloop bd5 n5 (v3, v4) = some ex5), zJ K g 0 0 5 6 [(0, zr g 48), (2, .int (zi v2)), (3, .int (zi v3)), (4, .int (zi v4))] [] M S := by
      intro n5
      induction n5 with
      | zero => intro v3 v4 hv3 hv4 hl; exact zloop_0 hl
      | succ n5 ih5 =>
        have J_66 : ∀ (v3 : Int) (v4 : Int) (v5 : Int) (hv3 : inR v3) (hv4 : inR v4) (hv5 : inR v5) (o : _) (_ : F_X11_readName_J66 v2 v3 v4 v5 M = some o), zAft (bd5) n5 ex5 o → zJ K g 0 0 66 6 [(0, zr g 48), (2, .int (zi v2)), (3, .int (zi v3)), (4, .int (zi v4)), (5, .int (zi v5))] [] M S := by
          intro v3 v4 v5 hv3 hv4 hv5 o h hT
          unfold F_X11_readName_J66 at h
          refine j_iload hC 3 dX11_readName_66 rfl ?_
          refine j_iload hC 4 dX11_readName_68 rfl ?_
          obtain ⟨r5, hy, h⟩ := zb1_ex h
          refine j_callSi hC hE lk_X11_204 dX11_readName_70 (c_X11_nameAt l hlt g v4 v5 hv4 hv5 M S hy) [.int (zi v4), .int (zi v5)] [] rfl rfl rfl (zcat (Nat.le_of_ble_eq_true rfl)) (Nat.le_of_ble_eq_true rfl) (Nat.le_of_ble_eq_true rfl) (Nat.le_of_ble_eq_true rfl) (Nat.le_of_ble_eq_true rfl) (fun hp6 => ?_)
          have hr5 := hp6
          refine j_if_ne hC dX11_readName_73 rfl (w_id hr5) (fun c7 => ?_) (fun c7 => ?_)
          · have h := zf c7 h
            refine j_iload_n hC 2 dX11_readName_90 rfl rfl ?_
            refine j_iload hC 4 dX11_readName_91 rfl ?_
            refine j_mmax hC hE lk_X11_207 dX11_readName_93 (w_id hv3) (w_id hv5) (Nat.le_of_ble_eq_true rfl) (Nat.le_of_ble_eq_true rfl) (Nat.le_of_ble_eq_true rfl) (Nat.le_of_ble_eq_true rfl) ?_
            obtain ⟨x8, ex8, h⟩ := zlet_ex h
            have hx8 : inR x8 := by rw [ex8]; exact (cR_zmax hv3 hv5)
            refine j_names ex8 ?_
            refine j_istore_n hC dX11_readName_96 rfl (Nat.le_of_ble_eq_true rfl) rfl ?_
            obtain ⟨x9, ex9, h⟩ := zlet_ex h
            have hx9 : inR x9 := by rw [ex9]; exact inR_w _
            refine j_iinc hC 3 dX11_readName_97 rfl ex9 (Nat.le_of_ble_eq_true rfl) rfl ?_
            refine j_goto hC dX11_readName_100 rfl ?_
            obtain rfl := Option.some.inj h
            refine j_sub [2, 3, 1, 0] rfl ?_
            exact ih5 x8 x9 hx8 hx9 hT
          · have h := zt c7 h
            obtain rfl := Option.some.inj h
            have hx5 := hd5
            rw [← show _ = ex5 from hT] at hx5
            dsimp only [Sum.elim] at hx5
            refine j_sub [0, 3, 4] rfl ?_
            exact J_76 v4 v5 hv4 hv5 M hx5
        have L_14 : ∀ (v3 : Int) (v4 : Int) (v5 : Int) (hv3 : inR v3) (hv4 : inR v4) (hv5 : inR v5) (o : _) (_ : F_X11_readName_L14 v2 v3 v4 v5 M = some o), zAft (bd5) n5 ex5 o → zJ K g 0 0 14 6 [(0, zr g 48), (2, .int (zi v2)), (3, .int (zi v3)), (4, .int (zi v4)), (5, .int (zi v5))] [] M S := by
          intro v3 v4 v5 hv3 hv4 hv5 oh14 h hT14
          unfold F_X11_readName_L14 at h
          obtain ⟨ex14, hl, hd14⟩ := zb1_ex h
          obtain ⟨bd14, ebd⟩ : ∃ f, f = (fun (s : Int) => F_X11_readName_B14 v2 v3 v4 s M) := ⟨_, rfl⟩
          rw [← ebd] at hl
          have main : ∀ (n14 : Nat) (v5 : Int) (hv5 : inR v5) (_ : zloop bd14 n14 v5 = some ex14), zJ K g 0 0 14 6 [(0, zr g 48), (2, .int (zi v2)), (3, .int (zi v3)), (4, .int (zi v4)), (5, .int (zi v5))] [] M S := by
            intro n14
            induction n14 with
            | zero => intro v5 hv5 hl; exact zloop_0 hl
            | succ n14 ih14 =>
              intro v5 hv5 hl
              obtain ⟨o, h, hT⟩ := zloop_ex hl
              have h : F_X11_readName_B14 v2 v3 v4 v5 M = some o := by rw [ebd] at h; exact h
              unfold F_X11_readName_B14 at h
              refine j_aload_n hC 0 dX11_readName_14 rfl rfl ?_
              refine j_get hC dX11_readName_15 f_X11_141 (zFx_kd hF 48 rfl) rfl 13 rfl (fun hg10 => ?_)
              refine j_iload hC 4 dX11_readName_18 rfl ?_
              refine j_iadd hC dX11_readName_20 ?_
              refine j_aload_n hC 0 dX11_readName_21 rfl rfl ?_
              refine j_get hC dX11_readName_22 f_X11_144 (zFx_kd hF 48 rfl) rfl 12 rfl (fun hg11 => ?_)
              refine j_icmp_ge hC dX11_readName_25 rfl rfl (w_id hg11) (fun c12 => ?_) (fun c12 => ?_)
              · have h := zf c12 h
                obtain rfl := Option.some.inj h
                have hx14 := hd14
                rw [← show _ = ex14 from hT] at hx14
                exact J_66 v3 v4 v5 hv3 hv4 hv5 _ hx14 hT14
              · have h := zt c12 h
                refine j_iload hC 3 dX11_readName_28 rfl ?_
                refine j_iload hC 4 dX11_readName_30 rfl ?_
                obtain ⟨r13, hy, h⟩ := zb1_ex h
                refine j_callSi hC hE lk_X11_204 dX11_readName_32 (c_X11_nameAt l hlt g v4 v5 hv4 hv5 M S hy) [.int (zi v4), .int (zi v5)] [] rfl rfl rfl (zcat (Nat.le_of_ble_eq_true rfl)) (Nat.le_of_ble_eq_true rfl) (Nat.le_of_ble_eq_true rfl) (Nat.le_of_ble_eq_true rfl) (Nat.le_of_ble_eq_true rfl) (fun hp14 => ?_)
                have hr13 := hp14
                refine j_if_eq hC dX11_readName_35 rfl (w_id hr13) (fun c15 => ?_) (fun c15 => ?_)
                · have h := zt c15 h
                  obtain rfl := Option.some.inj h
                  have hx14 := hd14
                  rw [← show _ = ex14 from hT] at hx14
                  exact J_66 v3 v4 v5 hv3 hv4 hv5 _ hx14 hT14
                · have h := zf c15 h
                  refine j_aload_n hC 0 dX11_readName_38 rfl rfl ?_
                  refine j_getq (q := 54) hC dX11_readName_39 f_X11_32 (zFx_kd hF 48 rfl) rfl 10 rfl (zFx_rf hF 48 10 rfl) ?_
                  refine j_aload_n hC 0 dX11_readName_42 rfl rfl ?_
                  refine j_get hC dX11_readName_43 f_X11_141 (zFx_kd hF 48 rfl) rfl 13 rfl (fun hg16 => ?_)
                  refine j_iload hC 4 dX11_readName_46 rfl ?_
                  refine j_iadd hC dX11_readName_48 ?_
                  obtain ⟨c17, h⟩ := zchk_ex h
                  refine j_cald (n := 60) hC dX11_readName_49 rfl (zFx_kd hF 54 rfl) (zFx_ln hF 54 rfl) c17.1 c17.2 (fun hg18 => ?_)
                  refine j_iload hC 3 dX11_readName_50 rfl ?_
                  refine j_iload hC 4 dX11_readName_52 rfl ?_
                  obtain ⟨r19, hy, h⟩ := zb1_ex h
                  refine j_callSi hC hE lk_X11_204 dX11_readName_54 (c_X11_nameAt l hlt g v4 v5 hv4 hv5 M S hy) [.int (zi v4), .int (zi v5)] [.int (zi (M 54 (w ((M 48 13) + v5))))] rfl rfl rfl (zcat (Nat.le_of_ble_eq_true rfl)) (Nat.le_of_ble_eq_true rfl) (Nat.le_of_ble_eq_true rfl) (Nat.le_of_ble_eq_true rfl) (Nat.le_of_ble_eq_true rfl) (fun hp20 => ?_)
                  have hr19 := hp20
                  refine j_icmp_ne hC dX11_readName_57 rfl (w_id (inR_c hg18)) (w_id hr19) (fun c21 => ?_) (fun c21 => ?_)
                  · have h := zf c21 h
                    obtain rfl := Option.some.inj h
                    have hx14 := hd14
                    rw [← show _ = ex14 from hT] at hx14
                    exact J_66 v3 v4 v5 hv3 hv4 hv5 _ hx14 hT14
                  · have h := zt c21 h
                    obtain ⟨x22, ex22, h⟩ := zlet_ex h
                    have hx22 : inR x22 := by rw [ex22]; exact inR_w _
                    refine j_iinc hC 4 dX11_readName_60 rfl ex22 (Nat.le_of_ble_eq_true rfl) rfl ?_
                    refine j_goto hC dX11_readName_63 rfl ?_
                    obtain rfl := Option.some.inj h
                    refine j_sub [1, 2, 3, 4, 0] rfl ?_
                    exact ih14 x22 hx22 hT
          exact main zN v5 hv5 hl
        intro v3 v4 hv3 hv4 hl
        obtain ⟨o, h, hT⟩ := zloop_ex hl
        have h : F_X11_readName_B5 v2 v3 v4 M = some o := by rw [ebd] at h; exact h
        unfold F_X11_readName_B5 at h
        refine j_iload hC 3 dX11_readName_5 rfl ?_
        refine j_iload_n hC 1 dX11_readName_7 rfl rfl ?_
        refine j_icmp_gt hC dX11_readName_8 rfl (w_id hv4) (w_id hv2) (fun c23 => ?_) (fun c23 => ?_)
        · have h := zt c23 h
          obtain rfl := Option.some.inj h
          have hx5 := hd5
          rw [← show _ = ex5 from hT] at hx5
          dsimp only [Sum.elim] at hx5
          refine j_sub [0, 2] rfl ?_
          exact J_103 v3 hv3 M hx5
        · have h := zf c23 h
          refine j_iconst hC dX11_readName_11 ?_
          refine j_istore hC dX11_readName_12 (Nat.le_of_ble_eq_true rfl) rfl ?_
          refine j_sub [1, 2, 3, 4, 0] rfl ?_
          exact L_14 v3 v4 0 hv3 hv4 kR_0 _ h hT
    exact main zN v3 v4 hv3 hv4 hl
  refine j_iconst hC dX11_readName_0 ?_
  refine j_istore_n hC dX11_readName_1 rfl (Nat.le_of_ble_eq_true rfl) rfl ?_
  refine j_iload_n hC 2 dX11_readName_2 rfl rfl ?_
  refine j_istore hC dX11_readName_3 (Nat.le_of_ble_eq_true rfl) rfl ?_
  refine j_sub [2, 4, 1, 0] rfl ?_
  exact L_5 v2 0 v1 hv2 kR_0 hv1 M h
set_option maxHeartbeats 4000000 in
set_option maxRecDepth 100000 in
theorem c_X11_finish (l : Launch) (hlt : l.stackTraces = false) (g : zG) (M : zM) (S : zS) (hF : zFx S) {M' : zM} (h : F_X11_finish M = some M') : zMet l g yX11_finish cX11_finish 1 none 1 0 0 [zr g 48] M S (.inl none) M' S (True) := by
  refine zMet_of (by decide) hlt [(0, zr g 48)] rfl (Nat.le_of_ble_eq_true rfl) (fun K hC hE hN => ?_)
  unfold F_X11_finish at h
  refine j_aload_n hC 0 dX11_finish_0 rfl rfl ?_
  refine j_get hC dX11_finish_1 f_X11_36 (zFx_kd hF 48 rfl) rfl 14 rfl (fun hg1 => ?_)
  refine j_if_ge hC dX11_finish_4 rfl (w_id hg1) (fun c2 => ?_) (fun c2 => ?_)
  · have h := zf c2 h
    have e1 := Option.some.inj h
    exact j_vret hC hE dX11_finish_26 rfl e1 rfl trivial (Nat.le_of_ble_eq_true rfl) (Nat.le_of_ble_eq_true rfl)
  · have h := zt c2 h
    refine j_aload_n hC 0 dX11_finish_7 rfl rfl ?_
    refine j_get hC dX11_finish_8 f_X11_141 (zFx_kd hF 48 rfl) rfl 13 rfl (fun hg3 => ?_)
    refine j_aload_n hC 0 dX11_finish_11 rfl rfl ?_
    refine j_get hC dX11_finish_12 f_X11_144 (zFx_kd hF 48 rfl) rfl 12 rfl (fun hg4 => ?_)
    refine j_icmp_ge hC dX11_finish_15 rfl (w_id hg3) (w_id hg4) (fun c5 => ?_) (fun c5 => ?_)
    · have h := zf c5 h
      have e1 := Option.some.inj h
      exact j_vret hC hE dX11_finish_26 rfl e1 rfl trivial (Nat.le_of_ble_eq_true rfl) (Nat.le_of_ble_eq_true rfl)
    · have h := zt c5 h
      refine j_aload_n hC 0 dX11_finish_18 rfl rfl ?_
      refine j_aload_n hC 0 dX11_finish_19 rfl rfl ?_
      refine j_get hC dX11_finish_20 f_X11_141 (zFx_kd hF 48 rfl) rfl 13 rfl (fun hg6 => ?_)
      obtain ⟨M7, eM7, h⟩ := zlet_ex h
      refine j_put hC dX11_finish_23 f_X11_36 pF_X11 (zFx_kd hF 48 rfl) (Or.inl rfl) rfl 14 rfl (w_id hg6) hg6 eM7 ?_
      have e1 := Option.some.inj h
      exact j_vret hC hE dX11_finish_26 rfl e1 rfl trivial (Nat.le_of_ble_eq_true rfl) (Nat.le_of_ble_eq_true rfl)
set_option maxHeartbeats 4000000 in
set_option maxRecDepth 100000 in
theorem c_X11_defineAxiom (l : Launch) (hlt : l.stackTraces = false) (g : zG) (M : zM) (S : zS) (hF : zFx S) {r : Int} {M' : zM} (h : F_X11_defineAxiom M = some (r, M')) : zMet l g yX11_defineAxiom cX11_defineAxiom 4 (some .int) 6 0 0 [zr g 48] M S (.inl (some (.int (zi r)))) M' S (inR r) := by
  refine zMet_of (by decide) hlt [(0, zr g 48)] rfl (Nat.le_of_ble_eq_true rfl) (fun K hC hE hN => ?_)
  unfold F_X11_defineAxiom at h
  have J_76 : ∀ (M : zM) (_ : F_X11_defineAxiom_J76 M = some (r, M')), zJ K g 0 0 76 4 [(0, zr g 48)] [] M S := by
    intro M h
    unfold F_X11_defineAxiom_J76 at h
    refine j_aload_n hC 0 dX11_defineAxiom_76 rfl rfl ?_
    refine j_iconst hC dX11_defineAxiom_77 ?_
    obtain ⟨r1, M2, hy, h⟩ := zb2_ex h
    refine j_callVi (ci := 8) hC hE lk_X11_134 dX11_defineAxiom_78 (c_X11_fail l hlt g 2 kR_2 M S hF hy) [.int (zi 2)] [] (zFx_kd hF 48 rfl) ⟨_, rfl, by decide, rfl⟩ rfl rfl rfl (zcat (Nat.le_of_ble_eq_true rfl)) (Nat.le_of_ble_eq_true rfl) (Nat.le_of_ble_eq_true rfl) (Nat.le_of_ble_eq_true rfl) (Nat.le_of_ble_eq_true rfl) (fun hp3 => ?_)
    have hr1 := hp3
    obtain ⟨e1, e2⟩ := zpr2 (Option.some.inj h)
    exact j_iret hC hE dX11_defineAxiom_81 (w_id hr1) (zn_i _) (by rw [← e1]) e2 rfl (by rw [← e1]; exact hr1) (Nat.le_of_ble_eq_true rfl) (Nat.le_of_ble_eq_true rfl)
  have J_63 : ∀ (v1 : Int) (v2 : Int) (hv1 : inR v1) (hv2 : inR v2) (M : zM) (_ : F_X11_defineAxiom_J63 v1 v2 M = some (r, M')), zJ K g 0 0 63 4 [(0, zr g 48), (1, .int (zi v1)), (2, .int (zi v2))] [] M S := by
    intro v1 v2 hv1 hv2 M h
    unfold F_X11_defineAxiom_J63 at h
    refine j_aload_n hC 0 dX11_defineAxiom_63 rfl rfl ?_
    refine j_get hC dX11_defineAxiom_64 f_X11_128 (zFx_kd hF 48 rfl) rfl 2 rfl (fun hg4 => ?_)
    refine j_bipush hC dX11_defineAxiom_67 rfl ?_
    refine j_icmp_eq hC dX11_defineAxiom_69 rfl (w_id hg4) (w_id kR_6) (fun c5 => ?_) (fun c5 => ?_)
    · have h := zt c5 h
      refine j_sub [0] rfl ?_
      exact J_76 M h
    · have h := zf c5 h
      refine j_iload_n hC 2 dX11_defineAxiom_72 rfl rfl ?_
      refine j_if_eq hC dX11_defineAxiom_73 rfl (w_id hv2) (fun c6 => ?_) (fun c6 => ?_)
      · have h := zt c6 h
        refine j_aload_n hC 0 dX11_defineAxiom_82 rfl rfl ?_
        refine j_getq (q := 49) hC dX11_defineAxiom_83 f_X11_7 (zFx_kd hF 48 rfl) rfl 1 rfl (zFx_rf hF 48 1 rfl) ?_
        refine j_aload_n hC 0 dX11_defineAxiom_86 rfl rfl ?_
        refine j_get hC dX11_defineAxiom_87 f_X11_128 (zFx_kd hF 48 rfl) rfl 2 rfl (fun hg7 => ?_)
        refine j_iload_n hC 1 dX11_defineAxiom_90 rfl rfl ?_
        obtain ⟨c8, h⟩ := zchk_ex h
        obtain ⟨M9, eM9, h⟩ := zlet_ex h
        refine j_iast (n := 6) hC dX11_defineAxiom_91 (w_id hg7) (w_id hv1) hv1 (zFx_kd hF 49 rfl) (zFx_ln hF 49 rfl) c8.1 c8.2 eM9 ?_
        refine j_aload_n hC 0 dX11_defineAxiom_92 rfl rfl ?_
        refine j_dup hC dX11_defineAxiom_93 (zr_cat _ _) ?_
        refine j_get hC dX11_defineAxiom_94 f_X11_128 (zFx_kd hF 48 rfl) rfl 2 rfl (fun hg10 => ?_)
        refine j_iconst hC dX11_defineAxiom_97 ?_
        refine j_iadd hC dX11_defineAxiom_98 ?_
        obtain ⟨M11, eM11, h⟩ := zlet_ex h
        refine j_put hC dX11_defineAxiom_99 f_X11_128 pF_X11 (zFx_kd hF 48 rfl) (Or.inl rfl) rfl 2 rfl rfl (inR_w _) eM11 ?_
        refine j_aload_n hC 0 dX11_defineAxiom_102 rfl rfl ?_
        refine j_get hC dX11_defineAxiom_103 f_X11_128 (zFx_kd hF 48 rfl) rfl 2 rfl (fun hg12 => ?_)
        refine j_iconst hC dX11_defineAxiom_106 ?_
        refine j_isub hC dX11_defineAxiom_107 ?_
        obtain ⟨e1, e2⟩ := zpr2 (Option.some.inj h)
        exact j_iret hC hE dX11_defineAxiom_108 rfl (zn_i _) (by rw [← e1]) e2 rfl (by rw [← e1]; exact (inR_w _)) (Nat.le_of_ble_eq_true rfl) (Nat.le_of_ble_eq_true rfl)
      · have h := zf c6 h
        refine j_sub [0] rfl ?_
        exact J_76 M h
  have L_29 : ∀ (v1 : Int) (v2 : Int) (v3 : Int) (hv1 : inR v1) (hv2 : inR v2) (hv3 : inR v3) (M : zM) (_ : F_X11_defineAxiom_L29 v1 v2 v3 M = some (r, M')), zJ K g 0 0 29 4 [(0, zr g 48), (1, .int (zi v1)), (2, .int (zi v2)), (3, .int (zi v3))] [] M S := by
    intro v1 v2 v3 hv1 hv2 hv3 M h
    unfold F_X11_defineAxiom_L29 at h
    obtain ⟨ex29, hl, hd29⟩ := zb1_ex h
    obtain ⟨bd29, ebd⟩ : ∃ f, f = (fun (s : Int × Int) => F_X11_defineAxiom_B29 v1 s.1 s.2 M) := ⟨_, rfl⟩
    rw [← ebd] at hl
    have main : ∀ (n29 : Nat) (v2 : Int) (v3 : Int) (hv2 : inR v2) (hv3 : inR v3) (_ : zloop bd29 n29 (v2, v3) = some ex29), zJ K g 0 0 29 4 [(0, zr g 48), (1, .int (zi v1)), (2, .int (zi v2)), (3, .int (zi v3))] [] M S := by
      intro n29
      induction n29 with
      | zero => intro v2 v3 hv2 hv3 hl; exact zloop_0 hl
      | succ n29 ih29 =>
        have J_56 : ∀ (v3 : Int) (t0 : Int) (hv3 : inR v3) (ht0 : inR t0) (o : _) (_ : F_X11_defineAxiom_J56 v1 v3 t0 M = some o), zAft (bd29) n29 ex29 o → zJ K g 0 0 56 4 [(0, zr g 48), (1, .int (zi v1)), (3, .int (zi v3))] [.int (zi t0)] M S := by
          intro v3 t0 hv3 ht0 o h hT
          unfold F_X11_defineAxiom_J56 at h
          refine j_istore_n hC dX11_defineAxiom_56 rfl (Nat.le_of_ble_eq_true rfl) rfl ?_
          obtain ⟨x13, ex13, h⟩ := zlet_ex h
          have hx13 : inR x13 := by rw [ex13]; exact inR_w _
          refine j_iinc hC 3 dX11_defineAxiom_57 rfl ex13 (Nat.le_of_ble_eq_true rfl) rfl ?_
          refine j_goto hC dX11_defineAxiom_60 rfl ?_
          obtain rfl := Option.some.inj h
          refine j_sub [2, 3, 1, 0] rfl ?_
          exact ih29 t0 x13 ht0 hx13 hT
        have J_51 : ∀ (v3 : Int) (hv3 : inR v3) (o : _) (_ : F_X11_defineAxiom_J51 v1 v3 M = some o), zAft (bd29) n29 ex29 o → zJ K g 0 0 51 4 [(0, zr g 48), (1, .int (zi v1)), (3, .int (zi v3))] [] M S := by
          intro v3 hv3 o h hT
          unfold F_X11_defineAxiom_J51 at h
          refine j_iconst hC dX11_defineAxiom_51 ?_
          refine j_goto hC dX11_defineAxiom_52 rfl ?_
          exact J_56 v3 1 hv3 kR_1 _ h hT
        intro v2 v3 hv2 hv3 hl
        obtain ⟨o, h, hT⟩ := zloop_ex hl
        have h : F_X11_defineAxiom_B29 v1 v2 v3 M = some o := by rw [ebd] at h; exact h
        unfold F_X11_defineAxiom_B29 at h
        refine j_iload_n hC 3 dX11_defineAxiom_29 rfl rfl ?_
        refine j_aload_n hC 0 dX11_defineAxiom_30 rfl rfl ?_
        refine j_get hC dX11_defineAxiom_31 f_X11_128 (zFx_kd hF 48 rfl) rfl 2 rfl (fun hg14 => ?_)
        refine j_icmp_ge hC dX11_defineAxiom_34 rfl (w_id hv3) (w_id hg14) (fun c15 => ?_) (fun c15 => ?_)
        · have h := zf c15 h
          obtain rfl := Option.some.inj h
          have hx29 := hd29
          rw [← show _ = ex29 from hT] at hx29
          refine j_sub [0, 1, 2] rfl ?_
          exact J_63 v1 v2 hv1 hv2 M hx29
        · have h := zt c15 h
          refine j_iload_n hC 2 dX11_defineAxiom_37 rfl rfl ?_
          refine j_if_ne hC dX11_defineAxiom_38 rfl (w_id hv2) (fun c16 => ?_) (fun c16 => ?_)
          · have h := zf c16 h
            refine j_sub [0, 1, 3] rfl ?_
            exact J_51 v3 hv3 _ h hT
          · have h := zt c16 h
            refine j_aload_n hC 0 dX11_defineAxiom_41 rfl rfl ?_
            refine j_getq (q := 49) hC dX11_defineAxiom_42 f_X11_7 (zFx_kd hF 48 rfl) rfl 1 rfl (zFx_rf hF 48 1 rfl) ?_
            refine j_iload_n hC 3 dX11_defineAxiom_45 rfl rfl ?_
            obtain ⟨c17, h⟩ := zchk_ex h
            refine j_iald (n := 6) hC dX11_defineAxiom_46 (w_id hv3) (zFx_kd hF 49 rfl) (zFx_ln hF 49 rfl) c17.1 c17.2 (fun hg18 => ?_)
            refine j_iload_n hC 1 dX11_defineAxiom_47 rfl rfl ?_
            refine j_icmp_ne hC dX11_defineAxiom_48 rfl (w_id hg18) (w_id hv1) (fun c19 => ?_) (fun c19 => ?_)
            · have h := zf c19 h
              refine j_iconst hC dX11_defineAxiom_55 ?_
              refine j_sub [0, 1, 3] rfl ?_
              exact J_56 v3 0 hv3 kR_0 _ h hT
            · have h := zt c19 h
              refine j_sub [0, 1, 3] rfl ?_
              exact J_51 v3 hv3 _ h hT
    exact main zN v2 v3 hv2 hv3 hl
  refine j_aload_n hC 0 dX11_defineAxiom_0 rfl rfl ?_
  refine j_iconst hC dX11_defineAxiom_1 ?_
  refine j_bipush hC dX11_defineAxiom_2 rfl ?_
  obtain ⟨r20, M21, hy, h⟩ := zb2_ex h
  refine j_callVi (ci := 8) hC hE lk_X11_189 dX11_defineAxiom_4 (c_X11_readWord l hlt g 1 8 kR_1 kR_8 M S hF hy) [.int (zi 1), .int (zi 8)] [] (zFx_kd hF 48 rfl) ⟨_, rfl, by decide, rfl⟩ rfl rfl rfl (zcat (Nat.le_of_ble_eq_true rfl)) (Nat.le_of_ble_eq_true rfl) (Nat.le_of_ble_eq_true rfl) (Nat.le_of_ble_eq_true rfl) (Nat.le_of_ble_eq_true rfl) (fun hp22 => ?_)
  have hr20 := hp22
  refine j_istore_n hC dX11_defineAxiom_7 rfl (Nat.le_of_ble_eq_true rfl) rfl ?_
  refine j_aload_n hC 1 dX11_defineAxiom_8 rfl rfl ?_
  obtain ⟨M23, hy, h⟩ := zb1_ex h
  refine j_callVv (ci := 8) hC hE lk_X11_227 dX11_defineAxiom_9 (c_X11_finish l hlt g M21 S hF hy) [] [] (zFx_kd hF 48 rfl) ⟨_, rfl, by decide, rfl⟩ rfl rfl rfl (zcat (Nat.le_of_ble_eq_true rfl)) (Nat.le_of_ble_eq_true rfl) (Nat.le_of_ble_eq_true rfl) (Nat.le_of_ble_eq_true rfl) (Nat.le_of_ble_eq_true rfl) (fun hp24 => ?_)
  refine j_aload_n hC 1 dX11_defineAxiom_12 rfl rfl ?_
  refine j_get hC dX11_defineAxiom_13 f_X11_36 (zFx_kd hF 48 rfl) rfl 14 rfl (fun hg25 => ?_)
  refine j_if_lt hC dX11_defineAxiom_16 rfl (w_id hg25) (fun c26 => ?_) (fun c26 => ?_)
  · have h := zt c26 h
    refine j_iconst hC dX11_defineAxiom_25 ?_
    refine j_istore_n hC dX11_defineAxiom_26 rfl (Nat.le_of_ble_eq_true rfl) rfl ?_
    refine j_iconst hC dX11_defineAxiom_27 ?_
    refine j_istore_n hC dX11_defineAxiom_28 rfl (Nat.le_of_ble_eq_true rfl) rfl ?_
    refine j_sub [3, 2, 1, 0] rfl ?_
    exact L_29 r20 0 0 hr20 kR_0 kR_0 M23 h
  · have h := zf c26 h
    refine j_aload_n hC 1 dX11_defineAxiom_19 rfl rfl ?_
    refine j_iconst hC dX11_defineAxiom_20 ?_
    obtain ⟨r27, M28, hy, h⟩ := zb2_ex h
    refine j_callVi (ci := 8) hC hE lk_X11_134 dX11_defineAxiom_21 (c_X11_fail l hlt g 1 kR_1 M23 S hF hy) [.int (zi 1)] [] (zFx_kd hF 48 rfl) ⟨_, rfl, by decide, rfl⟩ rfl rfl rfl (zcat (Nat.le_of_ble_eq_true rfl)) (Nat.le_of_ble_eq_true rfl) (Nat.le_of_ble_eq_true rfl) (Nat.le_of_ble_eq_true rfl) (Nat.le_of_ble_eq_true rfl) (fun hp29 => ?_)
    have hr27 := hp29
    obtain ⟨e1, e2⟩ := zpr2 (Option.some.inj h)
    exact j_iret hC hE dX11_defineAxiom_24 (w_id hr27) (zn_i _) (by rw [← e1]) e2 rfl (by rw [← e1]; exact hr27) (Nat.le_of_ble_eq_true rfl) (Nat.le_of_ble_eq_true rfl)
set_option maxHeartbeats 4000000 in
set_option maxRecDepth 100000 in
theorem c_X11_defineContext (l : Launch) (hlt : l.stackTraces = false) (g : zG) (M : zM) (S : zS) (hF : zFx S) {r : Int} {M' : zM} (h : F_X11_defineContext M = some (r, M')) : zMet l g yX11_defineContext cX11_defineContext 4 (some .int) 47 0 0 [zr g 48] M S (.inl (some (.int (zi r)))) M' S (inR r) := by
  refine zMet_of (by decide) hlt [(0, zr g 48)] rfl (Nat.le_of_ble_eq_true rfl) (fun K hC hE hN => ?_)
  unfold F_X11_defineContext at h
  have J_130 : ∀ (M : zM) (_ : F_X11_defineContext_J130 M = some (r, M')), zJ K g 0 0 130 4 [(0, zr g 48)] [] M S := by
    intro M h
    unfold F_X11_defineContext_J130 at h
    refine j_aload_n hC 0 dX11_defineContext_130 rfl rfl ?_
    refine j_dup hC dX11_defineContext_131 (zr_cat _ _) ?_
    refine j_get hC dX11_defineContext_132 f_X11_121 (zFx_kd hF 48 rfl) rfl 7 rfl (fun hg1 => ?_)
    refine j_iconst hC dX11_defineContext_135 ?_
    refine j_iadd hC dX11_defineContext_136 ?_
    obtain ⟨M2, eM2, h⟩ := zlet_ex h
    refine j_put hC dX11_defineContext_137 f_X11_121 pF_X11 (zFx_kd hF 48 rfl) (Or.inl rfl) rfl 7 rfl rfl (inR_w _) eM2 ?_
    refine j_aload_n hC 0 dX11_defineContext_140 rfl rfl ?_
    refine j_get hC dX11_defineContext_141 f_X11_121 (zFx_kd hF 48 rfl) rfl 7 rfl (fun hg3 => ?_)
    refine j_iconst hC dX11_defineContext_144 ?_
    refine j_isub hC dX11_defineContext_145 ?_
    obtain ⟨e1, e2⟩ := zpr2 (Option.some.inj h)
    exact j_iret hC hE dX11_defineContext_146 rfl (zn_i _) (by rw [← e1]) e2 rfl (by rw [← e1]; exact (inR_w _)) (Nat.le_of_ble_eq_true rfl) (Nat.le_of_ble_eq_true rfl)
  have L_96 : ∀ (v3 : Int) (hv3 : inR v3) (M : zM) (_ : F_X11_defineContext_L96 v3 M = some (r, M')), zJ K g 0 0 96 4 [(0, zr g 48), (3, .int (zi v3))] [] M S := by
    intro v3 hv3 M h
    unfold F_X11_defineContext_L96 at h
    obtain ⟨ex96, hl, hd96⟩ := zb1_ex h
    obtain ⟨bd96, ebd⟩ : ∃ f, f = (fun (s : Int × zM) => F_X11_defineContext_B96 s.1 s.2) := ⟨_, rfl⟩
    rw [← ebd] at hl
    have main : ∀ (n96 : Nat) (v3 : Int) (hv3 : inR v3) (M : zM) (_ : zloop bd96 n96 (v3, M) = some ex96), zJ K g 0 0 96 4 [(0, zr g 48), (3, .int (zi v3))] [] M S := by
      intro n96
      induction n96 with
      | zero => intro v3 hv3 M hl; exact zloop_0 hl
      | succ n96 ih96 =>
        intro v3 hv3 M hl
        obtain ⟨o, h, hT⟩ := zloop_ex hl
        have h : F_X11_defineContext_B96 v3 M = some o := by rw [ebd] at h; exact h
        unfold F_X11_defineContext_B96 at h
        refine j_iload_n hC 1 dX11_defineContext_96 rfl rfl ?_
        refine j_aload_n hC 0 dX11_defineContext_97 rfl rfl ?_
        refine j_get hC dX11_defineContext_98 f_X11_163 (zFx_kd hF 48 rfl) rfl 17 rfl (fun hg4 => ?_)
        refine j_icmp_ge hC dX11_defineContext_101 rfl (w_id hv3) (w_id hg4) (fun c5 => ?_) (fun c5 => ?_)
        · have h := zf c5 h
          obtain rfl := Option.some.inj h
          have hx96 := hd96
          rw [← show _ = ex96 from hT] at hx96
          refine j_sub [0] rfl ?_
          exact J_130 M hx96
        · have h := zt c5 h
          refine j_aload_n hC 0 dX11_defineContext_104 rfl rfl ?_
          refine j_getq (q := 52) hC dX11_defineContext_105 f_X11_19 (zFx_kd hF 48 rfl) rfl 5 rfl (zFx_rf hF 48 5 rfl) ?_
          refine j_bipush hC dX11_defineContext_108 rfl ?_
          refine j_aload_n hC 0 dX11_defineContext_110 rfl rfl ?_
          refine j_get hC dX11_defineContext_111 f_X11_121 (zFx_kd hF 48 rfl) rfl 7 rfl (fun hg6 => ?_)
          refine j_imul hC dX11_defineContext_114 ?_
          refine j_iload_n hC 1 dX11_defineContext_115 rfl rfl ?_
          refine j_iadd hC dX11_defineContext_116 ?_
          refine j_aload_n hC 0 dX11_defineContext_117 rfl rfl ?_
          refine j_getq (q := 55) hC dX11_defineContext_118 f_X11_39 (zFx_kd hF 48 rfl) rfl 16 rfl (zFx_rf hF 48 16 rfl) ?_
          refine j_iload_n hC 1 dX11_defineContext_121 rfl rfl ?_
          obtain ⟨c7, h⟩ := zchk_ex h
          refine j_iald (n := 60) hC dX11_defineContext_122 (w_id hv3) (zFx_kd hF 55 rfl) (zFx_ln hF 55 rfl) c7.1 c7.2 (fun hg8 => ?_)
          obtain ⟨c9, h⟩ := zchk_ex h
          obtain ⟨M10, eM10, h⟩ := zlet_ex h
          refine j_iast (n := 300) hC dX11_defineContext_123 rfl (w_id hg8) hg8 (zFx_kd hF 52 rfl) (zFx_ln hF 52 rfl) c9.1 c9.2 eM10 ?_
          obtain ⟨x11, ex11, h⟩ := zlet_ex h
          have hx11 : inR x11 := by rw [ex11]; exact inR_w _
          refine j_iinc hC 1 dX11_defineContext_124 rfl ex11 (Nat.le_of_ble_eq_true rfl) rfl ?_
          refine j_goto hC dX11_defineContext_127 rfl ?_
          obtain rfl := Option.some.inj h
          refine j_sub [1, 0] rfl ?_
          exact ih96 x11 hx11 M10 hT
    exact main zN v3 hv3 M hl
  refine j_aload_n hC 0 dX11_defineContext_0 rfl rfl ?_
  refine j_iconst hC dX11_defineContext_1 ?_
  refine j_iconst hC dX11_defineContext_2 ?_
  obtain ⟨r12, M13, hy, h⟩ := zb2_ex h
  refine j_callVi (ci := 8) hC hE lk_X11_189 dX11_defineContext_3 (c_X11_readWord l hlt g 1 3 kR_1 kR_3 M S hF hy) [.int (zi 1), .int (zi 3)] [] (zFx_kd hF 48 rfl) ⟨_, rfl, by decide, rfl⟩ rfl rfl rfl (zcat (Nat.le_of_ble_eq_true rfl)) (Nat.le_of_ble_eq_true rfl) (Nat.le_of_ble_eq_true rfl) (Nat.le_of_ble_eq_true rfl) (Nat.le_of_ble_eq_true rfl) (fun hp14 => ?_)
  have hr12 := hp14
  refine j_istore_n hC dX11_defineContext_6 rfl (Nat.le_of_ble_eq_true rfl) rfl ?_
  refine j_aload_n hC 1 dX11_defineContext_7 rfl rfl ?_
  refine j_bipush hC dX11_defineContext_8 rfl ?_
  obtain ⟨M15, hy, h⟩ := zb1_ex h
  refine j_callVv (ci := 8) hC hE lk_X11_185 dX11_defineContext_10 (c_X11_expect l hlt g 44 kR_44 M13 S hF hy) [.int (zi 44)] [] (zFx_kd hF 48 rfl) ⟨_, rfl, by decide, rfl⟩ rfl rfl rfl (zcat (Nat.le_of_ble_eq_true rfl)) (Nat.le_of_ble_eq_true rfl) (Nat.le_of_ble_eq_true rfl) (Nat.le_of_ble_eq_true rfl) (Nat.le_of_ble_eq_true rfl) (fun hp16 => ?_)
  refine j_aload_n hC 1 dX11_defineContext_13 rfl rfl ?_
  refine j_iconst hC dX11_defineContext_14 ?_
  refine j_iconst hC dX11_defineContext_15 ?_
  obtain ⟨r17, M18, hy, h⟩ := zb2_ex h
  refine j_callVi (ci := 8) hC hE lk_X11_189 dX11_defineContext_16 (c_X11_readWord l hlt g 0 3 kR_0 kR_3 M15 S hF hy) [.int (zi 0), .int (zi 3)] [] (zFx_kd hF 48 rfl) ⟨_, rfl, by decide, rfl⟩ rfl rfl rfl (zcat (Nat.le_of_ble_eq_true rfl)) (Nat.le_of_ble_eq_true rfl) (Nat.le_of_ble_eq_true rfl) (Nat.le_of_ble_eq_true rfl) (Nat.le_of_ble_eq_true rfl) (fun hp19 => ?_)
  have hr17 := hp19
  refine j_istore_n hC dX11_defineContext_19 rfl (Nat.le_of_ble_eq_true rfl) rfl ?_
  refine j_aload_n hC 2 dX11_defineContext_20 rfl rfl ?_
  refine j_bipush hC dX11_defineContext_21 rfl ?_
  obtain ⟨M20, hy, h⟩ := zb1_ex h
  refine j_callVv (ci := 8) hC hE lk_X11_185 dX11_defineContext_23 (c_X11_expect l hlt g 32 kR_32 M18 S hF hy) [.int (zi 32)] [] (zFx_kd hF 48 rfl) ⟨_, rfl, by decide, rfl⟩ rfl rfl rfl (zcat (Nat.le_of_ble_eq_true rfl)) (Nat.le_of_ble_eq_true rfl) (Nat.le_of_ble_eq_true rfl) (Nat.le_of_ble_eq_true rfl) (Nat.le_of_ble_eq_true rfl) (fun hp21 => ?_)
  refine j_aload_n hC 2 dX11_defineContext_26 rfl rfl ?_
  obtain ⟨M22, hy, h⟩ := zb1_ex h
  refine j_callVv (ci := 8) hC hE lk_X11_182 dX11_defineContext_27 (c_GQ_0 l hlt g 40 M20 S hF hy) [] [] (zFx_kd hF 48 rfl) ⟨_, rfl, by decide, rfl⟩ rfl rfl rfl (zcat (Nat.le_of_ble_eq_true rfl)) (Nat.le_of_ble_eq_true rfl) (Nat.le_of_ble_eq_true rfl) (Nat.le_of_ble_eq_true rfl) (Nat.le_of_ble_eq_true rfl) (fun hp23 => ?_)
  refine j_aload_n hC 2 dX11_defineContext_30 rfl rfl ?_
  obtain ⟨M24, hy, h⟩ := zb1_ex h
  refine j_callVv (ci := 8) hC hE lk_X11_227 dX11_defineContext_31 (c_X11_finish l hlt g M22 S hF hy) [] [] (zFx_kd hF 48 rfl) ⟨_, rfl, by decide, rfl⟩ rfl rfl rfl (zcat (Nat.le_of_ble_eq_true rfl)) (Nat.le_of_ble_eq_true rfl) (Nat.le_of_ble_eq_true rfl) (Nat.le_of_ble_eq_true rfl) (Nat.le_of_ble_eq_true rfl) (fun hp25 => ?_)
  refine j_aload_n hC 2 dX11_defineContext_34 rfl rfl ?_
  refine j_get hC dX11_defineContext_35 f_X11_36 (zFx_kd hF 48 rfl) rfl 14 rfl (fun hg26 => ?_)
  refine j_if_lt hC dX11_defineContext_38 rfl (w_id hg26) (fun c27 => ?_) (fun c27 => ?_)
  · have h := zt c27 h
    refine j_aload_n hC 2 dX11_defineContext_47 rfl rfl ?_
    refine j_get hC dX11_defineContext_48 f_X11_121 (zFx_kd hF 48 rfl) rfl 7 rfl (fun hg28 => ?_)
    refine j_iconst hC dX11_defineContext_51 ?_
    refine j_icmp_ne hC dX11_defineContext_52 rfl (w_id hg28) (w_id kR_5) (fun c29 => ?_) (fun c29 => ?_)
    · have h := zf c29 h
      refine j_aload_n hC 2 dX11_defineContext_61 rfl rfl ?_
      refine j_getq (q := 50) hC dX11_defineContext_62 f_X11_13 (zFx_kd hF 48 rfl) rfl 3 rfl (zFx_rf hF 48 3 rfl) ?_
      refine j_aload_n hC 2 dX11_defineContext_65 rfl rfl ?_
      refine j_get hC dX11_defineContext_66 f_X11_121 (zFx_kd hF 48 rfl) rfl 7 rfl (fun hg30 => ?_)
      refine j_iload_n hC 1 dX11_defineContext_69 rfl rfl ?_
      obtain ⟨c31, h⟩ := zchk_ex h
      obtain ⟨M32, eM32, h⟩ := zlet_ex h
      refine j_iast (n := 5) hC dX11_defineContext_70 (w_id hg30) (w_id hr12) hr12 (zFx_kd hF 50 rfl) (zFx_ln hF 50 rfl) c31.1 c31.2 eM32 ?_
      refine j_aload_n hC 2 dX11_defineContext_71 rfl rfl ?_
      refine j_getq (q := 51) hC dX11_defineContext_72 f_X11_16 (zFx_kd hF 48 rfl) rfl 4 rfl (zFx_rf hF 48 4 rfl) ?_
      refine j_aload_n hC 2 dX11_defineContext_75 rfl rfl ?_
      refine j_get hC dX11_defineContext_76 f_X11_121 (zFx_kd hF 48 rfl) rfl 7 rfl (fun hg33 => ?_)
      refine j_iload_n hC 0 dX11_defineContext_79 rfl rfl ?_
      obtain ⟨c34, h⟩ := zchk_ex h
      obtain ⟨M35, eM35, h⟩ := zlet_ex h
      refine j_iast (n := 5) hC dX11_defineContext_80 (w_id hg33) (w_id hr17) hr17 (zFx_kd hF 51 rfl) (zFx_ln hF 51 rfl) c34.1 c34.2 eM35 ?_
      refine j_aload_n hC 2 dX11_defineContext_81 rfl rfl ?_
      refine j_getq (q := 53) hC dX11_defineContext_82 f_X11_22 (zFx_kd hF 48 rfl) rfl 6 rfl (zFx_rf hF 48 6 rfl) ?_
      refine j_aload_n hC 2 dX11_defineContext_85 rfl rfl ?_
      refine j_get hC dX11_defineContext_86 f_X11_121 (zFx_kd hF 48 rfl) rfl 7 rfl (fun hg36 => ?_)
      refine j_aload_n hC 2 dX11_defineContext_89 rfl rfl ?_
      refine j_get hC dX11_defineContext_90 f_X11_163 (zFx_kd hF 48 rfl) rfl 17 rfl (fun hg37 => ?_)
      obtain ⟨c38, h⟩ := zchk_ex h
      obtain ⟨M39, eM39, h⟩ := zlet_ex h
      refine j_iast (n := 5) hC dX11_defineContext_93 (w_id hg36) (w_id hg37) hg37 (zFx_kd hF 53 rfl) (zFx_ln hF 53 rfl) c38.1 c38.2 eM39 ?_
      refine j_iconst hC dX11_defineContext_94 ?_
      refine j_istore_n hC dX11_defineContext_95 rfl (Nat.le_of_ble_eq_true rfl) rfl ?_
      refine j_sub [3, 0] rfl ?_
      exact L_96 0 kR_0 M39 h
    · have h := zt c29 h
      refine j_aload_n hC 2 dX11_defineContext_55 rfl rfl ?_
      refine j_iconst hC dX11_defineContext_56 ?_
      obtain ⟨r40, M41, hy, h⟩ := zb2_ex h
      refine j_callVi (ci := 8) hC hE lk_X11_134 dX11_defineContext_57 (c_X11_fail l hlt g 2 kR_2 M24 S hF hy) [.int (zi 2)] [] (zFx_kd hF 48 rfl) ⟨_, rfl, by decide, rfl⟩ rfl rfl rfl (zcat (Nat.le_of_ble_eq_true rfl)) (Nat.le_of_ble_eq_true rfl) (Nat.le_of_ble_eq_true rfl) (Nat.le_of_ble_eq_true rfl) (Nat.le_of_ble_eq_true rfl) (fun hp42 => ?_)
      have hr40 := hp42
      obtain ⟨e1, e2⟩ := zpr2 (Option.some.inj h)
      exact j_iret hC hE dX11_defineContext_60 (w_id hr40) (zn_i _) (by rw [← e1]) e2 rfl (by rw [← e1]; exact hr40) (Nat.le_of_ble_eq_true rfl) (Nat.le_of_ble_eq_true rfl)
  · have h := zf c27 h
    refine j_aload_n hC 2 dX11_defineContext_41 rfl rfl ?_
    refine j_iconst hC dX11_defineContext_42 ?_
    obtain ⟨r43, M44, hy, h⟩ := zb2_ex h
    refine j_callVi (ci := 8) hC hE lk_X11_134 dX11_defineContext_43 (c_X11_fail l hlt g 1 kR_1 M24 S hF hy) [.int (zi 1)] [] (zFx_kd hF 48 rfl) ⟨_, rfl, by decide, rfl⟩ rfl rfl rfl (zcat (Nat.le_of_ble_eq_true rfl)) (Nat.le_of_ble_eq_true rfl) (Nat.le_of_ble_eq_true rfl) (Nat.le_of_ble_eq_true rfl) (Nat.le_of_ble_eq_true rfl) (fun hp45 => ?_)
    have hr43 := hp45
    obtain ⟨e1, e2⟩ := zpr2 (Option.some.inj h)
    exact j_iret hC hE dX11_defineContext_46 (w_id hr43) (zn_i _) (by rw [← e1]) e2 rfl (by rw [← e1]; exact hr43) (Nat.le_of_ble_eq_true rfl) (Nat.le_of_ble_eq_true rfl)
set_option maxHeartbeats 4000000 in
set_option maxRecDepth 100000 in
theorem c_X11_defineMode (l : Launch) (hlt : l.stackTraces = false) (g : zG) (M : zM) (S : zS) (hF : zFx S) {r : Int} {M' : zM} (h : F_X11_defineMode M = some (r, M')) : zMet l g yX11_defineMode cX11_defineMode 3 (some .int) 4 0 0 [zr g 48] M S (.inl (some (.int (zi r)))) M' S (inR r) := by
  refine zMet_of (by decide) hlt [(0, zr g 48)] rfl (Nat.le_of_ble_eq_true rfl) (fun K hC hE hN => ?_)
  unfold F_X11_defineMode at h
  have J_18 : ∀ (t0 : Int) (ht0 : inR t0) (M : zM) (_ : F_X11_defineMode_J18 t0 M = some (r, M')), zJ K g 0 0 18 3 [(0, zr g 48)] [.int (zi t0)] M S := by
    intro t0 ht0 M h
    unfold F_X11_defineMode_J18 at h
    refine j_istore_n hC dX11_defineMode_18 rfl (Nat.le_of_ble_eq_true rfl) rfl ?_
    refine j_aload_n hC 1 dX11_defineMode_19 rfl rfl ?_
    obtain ⟨M1, hy, h⟩ := zb1_ex h
    refine j_callVv (ci := 8) hC hE lk_X11_227 dX11_defineMode_20 (c_X11_finish l hlt g M S hF hy) [] [] (zFx_kd hF 48 rfl) ⟨_, rfl, by decide, rfl⟩ rfl rfl rfl (zcat (Nat.le_of_ble_eq_true rfl)) (Nat.le_of_ble_eq_true rfl) (Nat.le_of_ble_eq_true rfl) (Nat.le_of_ble_eq_true rfl) (Nat.le_of_ble_eq_true rfl) (fun hp2 => ?_)
    refine j_aload_n hC 1 dX11_defineMode_23 rfl rfl ?_
    refine j_get hC dX11_defineMode_24 f_X11_36 (zFx_kd hF 48 rfl) rfl 14 rfl (fun hg3 => ?_)
    refine j_if_lt hC dX11_defineMode_27 rfl (w_id hg3) (fun c4 => ?_) (fun c4 => ?_)
    · have h := zt c4 h
      refine j_aload_n hC 1 dX11_defineMode_36 rfl rfl ?_
      refine j_get hC dX11_defineMode_37 f_X11_25 (zFx_kd hF 48 rfl) rfl 8 rfl (fun hg5 => ?_)
      obtain ⟨x6, ex6, h⟩ := zlet_ex h
      have hx6 : inR x6 := by rw [ex6]; exact hg5
      refine j_names ex6 ?_
      refine j_istore_n hC dX11_defineMode_40 rfl (Nat.le_of_ble_eq_true rfl) rfl ?_
      refine j_aload_n hC 2 dX11_defineMode_41 rfl rfl ?_
      refine j_iload_n hC 1 dX11_defineMode_42 rfl rfl ?_
      refine j_iconst hC dX11_defineMode_43 ?_
      refine j_isub hC dX11_defineMode_44 ?_
      obtain ⟨M7, eM7, h⟩ := zlet_ex h
      refine j_put hC dX11_defineMode_45 f_X11_25 pF_X11 (zFx_kd hF 48 rfl) (Or.inl rfl) rfl 8 rfl rfl (inR_w _) eM7 ?_
      refine j_iload_n hC 0 dX11_defineMode_48 rfl rfl ?_
      obtain ⟨e1, e2⟩ := zpr2 (Option.some.inj h)
      exact j_iret hC hE dX11_defineMode_49 (w_id hx6) (zn_i _) (by rw [← e1]) e2 rfl (by rw [← e1]; exact hx6) (Nat.le_of_ble_eq_true rfl) (Nat.le_of_ble_eq_true rfl)
    · have h := zf c4 h
      refine j_aload_n hC 1 dX11_defineMode_30 rfl rfl ?_
      refine j_iconst hC dX11_defineMode_31 ?_
      obtain ⟨r8, M9, hy, h⟩ := zb2_ex h
      refine j_callVi (ci := 8) hC hE lk_X11_134 dX11_defineMode_32 (c_X11_fail l hlt g 1 kR_1 M1 S hF hy) [.int (zi 1)] [] (zFx_kd hF 48 rfl) ⟨_, rfl, by decide, rfl⟩ rfl rfl rfl (zcat (Nat.le_of_ble_eq_true rfl)) (Nat.le_of_ble_eq_true rfl) (Nat.le_of_ble_eq_true rfl) (Nat.le_of_ble_eq_true rfl) (Nat.le_of_ble_eq_true rfl) (fun hp10 => ?_)
      have hr8 := hp10
      obtain ⟨e1, e2⟩ := zpr2 (Option.some.inj h)
      exact j_iret hC hE dX11_defineMode_35 (w_id hr8) (zn_i _) (by rw [← e1]) e2 rfl (by rw [← e1]; exact hr8) (Nat.le_of_ble_eq_true rfl) (Nat.le_of_ble_eq_true rfl)
  refine j_aload_n hC 0 dX11_defineMode_0 rfl rfl ?_
  refine j_get hC dX11_defineMode_1 f_X11_36 (zFx_kd hF 48 rfl) rfl 14 rfl (fun hg11 => ?_)
  refine j_if_ge hC dX11_defineMode_4 rfl (w_id hg11) (fun c12 => ?_) (fun c12 => ?_)
  · have h := zf c12 h
    refine j_iconst hC dX11_defineMode_17 ?_
    exact J_18 (-1) kR_m1 M h
  · have h := zt c12 h
    refine j_aload_n hC 0 dX11_defineMode_7 rfl rfl ?_
    refine j_iconst hC dX11_defineMode_8 ?_
    refine j_bipush hC dX11_defineMode_9 rfl ?_
    obtain ⟨r13, M14, hy, h⟩ := zb2_ex h
    refine j_callVi (ci := 8) hC hE lk_X11_212 dX11_defineMode_11 (c_X11_readName l hlt g 4 8 kR_4 kR_8 M S hF hy) [.int (zi 4), .int (zi 8)] [] (zFx_kd hF 48 rfl) ⟨_, rfl, by decide, rfl⟩ rfl rfl rfl (zcat (Nat.le_of_ble_eq_true rfl)) (Nat.le_of_ble_eq_true rfl) (Nat.le_of_ble_eq_true rfl) (Nat.le_of_ble_eq_true rfl) (Nat.le_of_ble_eq_true rfl) (fun hp15 => ?_)
    have hr13 := hp15
    refine j_goto hC dX11_defineMode_14 rfl ?_
    exact J_18 r13 hr13 M14 h
set_option maxHeartbeats 4000000 in
set_option maxRecDepth 100000 in
theorem c_X11_defineLimit (l : Launch) (hlt : l.stackTraces = false) (g : zG) (M : zM) (S : zS) (hF : zFx S) {r : Int} {M' : zM} (h : F_X11_defineLimit M = some (r, M')) : zMet l g yX11_defineLimit cX11_defineLimit 3 (some .int) 3 0 0 [zr g 48] M S (.inl (some (.int (zi r)))) M' S (inR r) := by
  refine zMet_of (by decide) hlt [(0, zr g 48)] rfl (Nat.le_of_ble_eq_true rfl) (fun K hC hE hN => ?_)
  unfold F_X11_defineLimit at h
  refine j_aload_n hC 0 dX11_defineLimit_0 rfl rfl ?_
  refine j_iconst hC dX11_defineLimit_1 ?_
  obtain ⟨r1, M2, hy, h⟩ := zb2_ex h
  refine j_callVi (ci := 8) hC hE lk_X11_195 dX11_defineLimit_2 (c_X11_readDigit l hlt g 1 kR_1 M S hF hy) [.int (zi 1)] [] (zFx_kd hF 48 rfl) ⟨_, rfl, by decide, rfl⟩ rfl rfl rfl (zcat (Nat.le_of_ble_eq_true rfl)) (Nat.le_of_ble_eq_true rfl) (Nat.le_of_ble_eq_true rfl) (Nat.le_of_ble_eq_true rfl) (Nat.le_of_ble_eq_true rfl) (fun hp3 => ?_)
  have hr1 := hp3
  refine j_istore_n hC dX11_defineLimit_5 rfl (Nat.le_of_ble_eq_true rfl) rfl ?_
  refine j_aload_n hC 1 dX11_defineLimit_6 rfl rfl ?_
  obtain ⟨M4, hy, h⟩ := zb1_ex h
  refine j_callVv (ci := 8) hC hE lk_X11_227 dX11_defineLimit_7 (c_X11_finish l hlt g M2 S hF hy) [] [] (zFx_kd hF 48 rfl) ⟨_, rfl, by decide, rfl⟩ rfl rfl rfl (zcat (Nat.le_of_ble_eq_true rfl)) (Nat.le_of_ble_eq_true rfl) (Nat.le_of_ble_eq_true rfl) (Nat.le_of_ble_eq_true rfl) (Nat.le_of_ble_eq_true rfl) (fun hp5 => ?_)
  refine j_aload_n hC 1 dX11_defineLimit_10 rfl rfl ?_
  refine j_get hC dX11_defineLimit_11 f_X11_36 (zFx_kd hF 48 rfl) rfl 14 rfl (fun hg6 => ?_)
  refine j_if_lt hC dX11_defineLimit_14 rfl (w_id hg6) (fun c7 => ?_) (fun c7 => ?_)
  · have h := zt c7 h
    refine j_aload_n hC 1 dX11_defineLimit_23 rfl rfl ?_
    refine j_get hC dX11_defineLimit_24 f_X11_29 (zFx_kd hF 48 rfl) rfl 9 rfl (fun hg8 => ?_)
    obtain ⟨x9, ex9, h⟩ := zlet_ex h
    have hx9 : inR x9 := by rw [ex9]; exact hg8
    refine j_names ex9 ?_
    refine j_istore_n hC dX11_defineLimit_27 rfl (Nat.le_of_ble_eq_true rfl) rfl ?_
    refine j_aload_n hC 2 dX11_defineLimit_28 rfl rfl ?_
    refine j_iload_n hC 1 dX11_defineLimit_29 rfl rfl ?_
    obtain ⟨M10, eM10, h⟩ := zlet_ex h
    refine j_put hC dX11_defineLimit_30 f_X11_29 pF_X11 (zFx_kd hF 48 rfl) (Or.inl rfl) rfl 9 rfl (w_id hr1) hr1 eM10 ?_
    refine j_iload_n hC 0 dX11_defineLimit_33 rfl rfl ?_
    obtain ⟨e1, e2⟩ := zpr2 (Option.some.inj h)
    exact j_iret hC hE dX11_defineLimit_34 (w_id hx9) (zn_i _) (by rw [← e1]) e2 rfl (by rw [← e1]; exact hx9) (Nat.le_of_ble_eq_true rfl) (Nat.le_of_ble_eq_true rfl)
  · have h := zf c7 h
    refine j_aload_n hC 1 dX11_defineLimit_17 rfl rfl ?_
    refine j_iconst hC dX11_defineLimit_18 ?_
    obtain ⟨r11, M12, hy, h⟩ := zb2_ex h
    refine j_callVi (ci := 8) hC hE lk_X11_134 dX11_defineLimit_19 (c_X11_fail l hlt g 1 kR_1 M4 S hF hy) [.int (zi 1)] [] (zFx_kd hF 48 rfl) ⟨_, rfl, by decide, rfl⟩ rfl rfl rfl (zcat (Nat.le_of_ble_eq_true rfl)) (Nat.le_of_ble_eq_true rfl) (Nat.le_of_ble_eq_true rfl) (Nat.le_of_ble_eq_true rfl) (Nat.le_of_ble_eq_true rfl) (fun hp13 => ?_)
    have hr11 := hp13
    obtain ⟨e1, e2⟩ := zpr2 (Option.some.inj h)
    exact j_iret hC hE dX11_defineLimit_22 (w_id hr11) (zn_i _) (by rw [← e1]) e2 rfl (by rw [← e1]; exact hr11) (Nat.le_of_ble_eq_true rfl) (Nat.le_of_ble_eq_true rfl)
set_option maxHeartbeats 4000000 in
set_option maxRecDepth 100000 in
theorem c_X11_define (l : Launch) (hlt : l.stackTraces = false) (g : zG) (M : zM) (S : zS) (hF : zFx S) {r : Int} {M' : zM} (h : F_X11_define M = some (r, M')) : zMet l g yX11_define cX11_define 2 (some .int) 48 0 0 [zr g 48] M S (.inl (some (.int (zi r)))) M' S (inR r) := by
  refine zMet_of (by decide) hlt [(0, zr g 48)] rfl (Nat.le_of_ble_eq_true rfl) (fun K hC hE hN => ?_)
  unfold F_X11_define at h
  refine j_aload_n hC 0 dX11_define_0 rfl rfl ?_
  refine j_iconst hC dX11_define_1 ?_
  obtain ⟨M1, eM1, h⟩ := zlet_ex h
  refine j_put hC dX11_define_2 f_X11_104 pF_X11 (zFx_kd hF 48 rfl) (Or.inl rfl) rfl 0 rfl (w_id kR_0) kR_0 eM1 ?_
  refine j_aload_n hC 0 dX11_define_5 rfl rfl ?_
  refine j_aload_n hC 0 dX11_define_6 rfl rfl ?_
  refine j_get hC dX11_define_7 f_X11_131 (zFx_kd hF 48 rfl) rfl 11 rfl (fun hg2 => ?_)
  obtain ⟨M3, eM3, h⟩ := zlet_ex h
  refine j_put hC dX11_define_10 f_X11_144 pF_X11 (zFx_kd hF 48 rfl) (Or.inl rfl) rfl 12 rfl (w_id hg2) hg2 eM3 ?_
  refine j_aload_n hC 0 dX11_define_13 rfl rfl ?_
  refine j_iconst hC dX11_define_14 ?_
  obtain ⟨M4, eM4, h⟩ := zlet_ex h
  refine j_put hC dX11_define_15 f_X11_131 pF_X11 (zFx_kd hF 48 rfl) (Or.inl rfl) rfl 11 rfl (w_id kR_0) kR_0 eM4 ?_
  refine j_aload_n hC 0 dX11_define_18 rfl rfl ?_
  refine j_iconst hC dX11_define_19 ?_
  obtain ⟨M5, eM5, h⟩ := zlet_ex h
  refine j_put hC dX11_define_20 f_X11_141 pF_X11 (zFx_kd hF 48 rfl) (Or.inl rfl) rfl 13 rfl (w_id kR_0) kR_0 eM5 ?_
  refine j_aload_n hC 0 dX11_define_23 rfl rfl ?_
  refine j_iconst hC dX11_define_24 ?_
  obtain ⟨M6, eM6, h⟩ := zlet_ex h
  refine j_put hC dX11_define_25 f_X11_36 pF_X11 (zFx_kd hF 48 rfl) (Or.inl rfl) rfl 14 rfl (w_id kR_m1) kR_m1 eM6 ?_
  refine j_aload_n hC 0 dX11_define_28 rfl rfl ?_
  refine j_iconst hC dX11_define_29 ?_
  obtain ⟨M7, eM7, h⟩ := zlet_ex h
  refine j_put hC dX11_define_30 f_X11_176 pF_X11 (zFx_kd hF 48 rfl) (Or.inl rfl) rfl 15 rfl (w_id kR_0) kR_0 eM7 ?_
  refine j_aload_n hC 0 dX11_define_33 rfl rfl ?_
  refine j_iconst hC dX11_define_34 ?_
  obtain ⟨M8, eM8, h⟩ := zlet_ex h
  refine j_put hC dX11_define_35 f_X11_163 pF_X11 (zFx_kd hF 48 rfl) (Or.inl rfl) rfl 17 rfl (w_id kR_0) kR_0 eM8 ?_
  refine j_aload_n hC 0 dX11_define_38 rfl rfl ?_
  refine j_iconst hC dX11_define_39 ?_
  refine j_iconst hC dX11_define_40 ?_
  obtain ⟨r9, M10, hy, h⟩ := zb2_ex h
  refine j_callVi (ci := 8) hC hE lk_X11_212 dX11_define_41 (c_X11_readName l hlt g 0 3 kR_0 kR_3 M8 S hF hy) [.int (zi 0), .int (zi 3)] [] (zFx_kd hF 48 rfl) ⟨_, rfl, by decide, rfl⟩ rfl rfl rfl (zcat (Nat.le_of_ble_eq_true rfl)) (Nat.le_of_ble_eq_true rfl) (Nat.le_of_ble_eq_true rfl) (Nat.le_of_ble_eq_true rfl) (Nat.le_of_ble_eq_true rfl) (fun hp11 => ?_)
  have hr9 := hp11
  refine j_istore_n hC dX11_define_44 rfl (Nat.le_of_ble_eq_true rfl) rfl ?_
  refine j_aload_n hC 1 dX11_define_45 rfl rfl ?_
  refine j_bipush hC dX11_define_46 rfl ?_
  obtain ⟨M12, hy, h⟩ := zb1_ex h
  refine j_callVv (ci := 8) hC hE lk_X11_185 dX11_define_48 (c_X11_expect l hlt g 32 kR_32 M10 S hF hy) [.int (zi 32)] [] (zFx_kd hF 48 rfl) ⟨_, rfl, by decide, rfl⟩ rfl rfl rfl (zcat (Nat.le_of_ble_eq_true rfl)) (Nat.le_of_ble_eq_true rfl) (Nat.le_of_ble_eq_true rfl) (Nat.le_of_ble_eq_true rfl) (Nat.le_of_ble_eq_true rfl) (fun hp13 => ?_)
  refine j_iload_n hC 0 dX11_define_51 rfl rfl ?_
  by_cases c14 : r9 = 0
  · have h := zt c14 h
    refine j_tswIn hC 0 dX11_define_52 (w_id hr9) c14 (by decide) (by decide) rfl rfl ?_
    refine j_aload_n hC 1 dX11_define_84 rfl rfl ?_
    obtain ⟨r15, M16, hy, h⟩ := zb2_ex h
    refine j_callVi (ci := 8) hC hE lk_X11_215 dX11_define_85 (c_X11_defineAxiom l hlt g M12 S hF hy) [] [] (zFx_kd hF 48 rfl) ⟨_, rfl, by decide, rfl⟩ rfl rfl rfl (zcat (Nat.le_of_ble_eq_true rfl)) (Nat.le_of_ble_eq_true rfl) (Nat.le_of_ble_eq_true rfl) (Nat.le_of_ble_eq_true rfl) (Nat.le_of_ble_eq_true rfl) (fun hp17 => ?_)
    have hr15 := hp17
    obtain ⟨e1, e2⟩ := zpr2 (Option.some.inj h)
    exact j_iret hC hE dX11_define_88 (w_id hr15) (zn_i _) (by rw [← e1]) e2 rfl (by rw [← e1]; exact hr15) (Nat.le_of_ble_eq_true rfl) (Nat.le_of_ble_eq_true rfl)
  have h := zf c14 h
  by_cases c18 : r9 = 1
  · have h := zt c18 h
    refine j_tswIn hC 1 dX11_define_52 (w_id hr9) c18 (by decide) (by decide) rfl rfl ?_
    refine j_aload_n hC 1 dX11_define_89 rfl rfl ?_
    obtain ⟨r19, M20, hy, h⟩ := zb2_ex h
    refine j_callVi (ci := 8) hC hE lk_X11_218 dX11_define_90 (c_X11_defineContext l hlt g M12 S hF hy) [] [] (zFx_kd hF 48 rfl) ⟨_, rfl, by decide, rfl⟩ rfl rfl rfl (zcat (Nat.le_of_ble_eq_true rfl)) (Nat.le_of_ble_eq_true rfl) (Nat.le_of_ble_eq_true rfl) (Nat.le_of_ble_eq_true rfl) (Nat.le_of_ble_eq_true rfl) (fun hp21 => ?_)
    have hr19 := hp21
    obtain ⟨e1, e2⟩ := zpr2 (Option.some.inj h)
    exact j_iret hC hE dX11_define_93 (w_id hr19) (zn_i _) (by rw [← e1]) e2 rfl (by rw [← e1]; exact hr19) (Nat.le_of_ble_eq_true rfl) (Nat.le_of_ble_eq_true rfl)
  have h := zf c18 h
  by_cases c22 : r9 = 2
  · have h := zt c22 h
    refine j_tswIn hC 2 dX11_define_52 (w_id hr9) c22 (by decide) (by decide) rfl rfl ?_
    refine j_aload_n hC 1 dX11_define_94 rfl rfl ?_
    obtain ⟨r23, M24, hy, h⟩ := zb2_ex h
    refine j_callVi (ci := 8) hC hE lk_X11_221 dX11_define_95 (c_X11_defineMode l hlt g M12 S hF hy) [] [] (zFx_kd hF 48 rfl) ⟨_, rfl, by decide, rfl⟩ rfl rfl rfl (zcat (Nat.le_of_ble_eq_true rfl)) (Nat.le_of_ble_eq_true rfl) (Nat.le_of_ble_eq_true rfl) (Nat.le_of_ble_eq_true rfl) (Nat.le_of_ble_eq_true rfl) (fun hp25 => ?_)
    have hr23 := hp25
    obtain ⟨e1, e2⟩ := zpr2 (Option.some.inj h)
    exact j_iret hC hE dX11_define_98 (w_id hr23) (zn_i _) (by rw [← e1]) e2 rfl (by rw [← e1]; exact hr23) (Nat.le_of_ble_eq_true rfl) (Nat.le_of_ble_eq_true rfl)
  have h := zf c22 h
  by_cases c26 : r9 = 3
  · have h := zt c26 h
    refine j_tswIn hC 3 dX11_define_52 (w_id hr9) c26 (by decide) (by decide) rfl rfl ?_
    refine j_aload_n hC 1 dX11_define_99 rfl rfl ?_
    obtain ⟨r27, M28, hy, h⟩ := zb2_ex h
    refine j_callVi (ci := 8) hC hE lk_X11_224 dX11_define_100 (c_X11_defineLimit l hlt g M12 S hF hy) [] [] (zFx_kd hF 48 rfl) ⟨_, rfl, by decide, rfl⟩ rfl rfl rfl (zcat (Nat.le_of_ble_eq_true rfl)) (Nat.le_of_ble_eq_true rfl) (Nat.le_of_ble_eq_true rfl) (Nat.le_of_ble_eq_true rfl) (Nat.le_of_ble_eq_true rfl) (fun hp29 => ?_)
    have hr27 := hp29
    obtain ⟨e1, e2⟩ := zpr2 (Option.some.inj h)
    exact j_iret hC hE dX11_define_103 (w_id hr27) (zn_i _) (by rw [← e1]) e2 rfl (by rw [← e1]; exact hr27) (Nat.le_of_ble_eq_true rfl) (Nat.le_of_ble_eq_true rfl)
  have h := zf c26 h
  refine j_tswOut hC dX11_define_52 (w_id hr9) (by omega) rfl ?_
  refine j_aload_n hC 1 dX11_define_104 rfl rfl ?_
  refine j_iconst hC dX11_define_105 ?_
  obtain ⟨r30, M31, hy, h⟩ := zb2_ex h
  refine j_callVi (ci := 8) hC hE lk_X11_134 dX11_define_106 (c_X11_fail l hlt g 1 kR_1 M12 S hF hy) [.int (zi 1)] [] (zFx_kd hF 48 rfl) ⟨_, rfl, by decide, rfl⟩ rfl rfl rfl (zcat (Nat.le_of_ble_eq_true rfl)) (Nat.le_of_ble_eq_true rfl) (Nat.le_of_ble_eq_true rfl) (Nat.le_of_ble_eq_true rfl) (Nat.le_of_ble_eq_true rfl) (fun hp32 => ?_)
  have hr30 := hp32
  obtain ⟨e1, e2⟩ := zpr2 (Option.some.inj h)
  exact j_iret hC hE dX11_define_109 (w_id hr30) (zn_i _) (by rw [← e1]) e2 rfl (by rw [← e1]; exact hr30) (Nat.le_of_ble_eq_true rfl) (Nat.le_of_ble_eq_true rfl)
set_option maxHeartbeats 4000000 in
set_option maxRecDepth 100000 in
theorem c_X11_faultPosition (l : Launch) (hlt : l.stackTraces = false) (g : zG) (M : zM) (S : zS) (hF : zFx S) {r : Int} {M' : zM} (h : F_X11_faultPosition M = some (r, M')) : zMet l g yX11_faultPosition cX11_faultPosition 1 (some .int) 1 0 0 [zr g 48] M S (.inl (some (.int (zi r)))) M' S (inR r) := by
  refine zMet_of (by decide) hlt [(0, zr g 48)] rfl (Nat.le_of_ble_eq_true rfl) (fun K hC hE hN => ?_)
  unfold F_X11_faultPosition at h
  refine j_aload_n hC 0 dX11_faultPosition_0 rfl rfl ?_
  refine j_iconst hC dX11_faultPosition_1 ?_
  obtain ⟨M1, eM1, h⟩ := zlet_ex h
  refine j_put hC dX11_faultPosition_2 f_X11_104 pF_X11 (zFx_kd hF 48 rfl) (Or.inl rfl) rfl 0 rfl (w_id kR_0) kR_0 eM1 ?_
  refine j_aload_n hC 0 dX11_faultPosition_5 rfl rfl ?_
  refine j_get hC dX11_faultPosition_6 f_X11_36 (zFx_kd hF 48 rfl) rfl 14 rfl (fun hg2 => ?_)
  obtain ⟨e1, e2⟩ := zpr2 (Option.some.inj h)
  exact j_iret hC hE dX11_faultPosition_9 (w_id hg2) (zn_i _) (by rw [← e1]) e2 rfl (by rw [← e1]; exact hg2) (Nat.le_of_ble_eq_true rfl) (Nat.le_of_ble_eq_true rfl)
set_option maxHeartbeats 4000000 in
set_option maxRecDepth 100000 in
theorem c_X11_compares (l : Launch) (hlt : l.stackTraces = false) (g : zG) (v0 : Int) (v1 : Int) (v2 : Int) (hv0 : inR v0) (hv1 : inR v1) (hv2 : inR v2) (M : zM) (S : zS) {r : Int} (h : F_X11_compares v0 v1 v2 = some r) : zMet l g yX11_compares cX11_compares 7 (some .boolean) 5 0 0 [.int (zi v0), .int (zi v1), .int (zi v2)] M S (.inl (some (.int (zi r)))) M S (inR r) := by
  refine zMet_of (by decide) hlt [(0, .int (zi v0)), (1, .int (zi v1)), (2, .int (zi v2))] rfl (Nat.le_of_ble_eq_true rfl) (fun K hC hE hN => ?_)
  unfold F_X11_compares at h
  have J_61 : ∀ (v0 : Int) (v4 : Int) (hv0 : inR v0) (hv4 : inR v4) (_ : F_X11_compares_J61 v0 v4 = some r), zJ K g 0 0 61 7 [(0, .int (zi v0)), (4, .int (zi v4))] [] M S := by
    intro v0 v4 hv0 hv4 h
    unfold F_X11_compares_J61 at h
    refine j_iload_n hC 0 dX11_compares_61 rfl rfl ?_
    refine j_bipush hC dX11_compares_62 rfl ?_
    refine j_irem hC dX11_compares_64 (w_id kR_10) (by decide) ?_
    obtain ⟨x1, ex1, h⟩ := zlet_ex h
    have hx1 : inR x1 := by rw [ex1]; exact (cR_zrem _ _)
    refine j_names ex1 ?_
    refine j_istore hC dX11_compares_65 (Nat.le_of_ble_eq_true rfl) rfl ?_
    refine j_iload_n hC 1 dX11_compares_67 rfl rfl ?_
    refine j_bipush hC dX11_compares_68 rfl ?_
    refine j_idiv hC dX11_compares_70 (w_id kR_10) (by decide) ?_
    refine j_bipush hC dX11_compares_71 rfl ?_
    refine j_irem hC dX11_compares_73 (w_id kR_10) (by decide) ?_
    obtain ⟨x2, ex2, h⟩ := zlet_ex h
    have hx2 : inR x2 := by rw [ex2]; exact (cR_zrem _ _)
    refine j_names ex2 ?_
    refine j_istore hC dX11_compares_74 (Nat.le_of_ble_eq_true rfl) rfl ?_
    refine j_iload hC 0 dX11_compares_76 rfl ?_
    refine j_if_ne hC dX11_compares_78 rfl (w_id hx2) (fun c3 => ?_) (fun c3 => ?_)
    · have h := zf c3 h
      refine j_iload hC 0 dX11_compares_96 rfl ?_
      refine j_iconst hC dX11_compares_98 ?_
      refine j_icmp_ne hC dX11_compares_99 rfl (w_id hx2) (w_id kR_1) (fun c4 => ?_) (fun c4 => ?_)
      · have h := zf c4 h
        refine j_iload hC 3 dX11_compares_117 rfl ?_
        refine j_iload hC 1 dX11_compares_119 rfl ?_
        refine j_icmp_le hC dX11_compares_121 rfl (w_id hv4) (w_id hx1) (fun c5 => ?_) (fun c5 => ?_)
        · have h := zf c5 h
          refine j_iconst hC dX11_compares_128 ?_
          have e1 := Option.some.inj h
          exact j_iret hC hE dX11_compares_129 (w_id kR_0) (zn_z zb01_0) (by rw [← e1]) rfl rfl (by rw [← e1]; exact kR_0) (Nat.le_of_ble_eq_true rfl) (Nat.le_of_ble_eq_true rfl)
        · have h := zt c5 h
          refine j_iconst hC dX11_compares_124 ?_
          refine j_goto hC dX11_compares_125 rfl ?_
          have e1 := Option.some.inj h
          exact j_iret hC hE dX11_compares_129 (w_id kR_1) (zn_z zb01_1) (by rw [← e1]) rfl rfl (by rw [← e1]; exact kR_1) (Nat.le_of_ble_eq_true rfl) (Nat.le_of_ble_eq_true rfl)
      · have h := zt c4 h
        refine j_iload hC 3 dX11_compares_102 rfl ?_
        refine j_iload hC 1 dX11_compares_104 rfl ?_
        refine j_icmp_ne hC dX11_compares_106 rfl (w_id hv4) (w_id hx1) (fun c6 => ?_) (fun c6 => ?_)
        · have h := zf c6 h
          refine j_iconst hC dX11_compares_113 ?_
          refine j_goto hC dX11_compares_114 rfl ?_
          have e1 := Option.some.inj h
          exact j_iret hC hE dX11_compares_129 (w_id kR_0) (zn_z zb01_0) (by rw [← e1]) rfl rfl (by rw [← e1]; exact kR_0) (Nat.le_of_ble_eq_true rfl) (Nat.le_of_ble_eq_true rfl)
        · have h := zt c6 h
          refine j_iconst hC dX11_compares_109 ?_
          refine j_goto hC dX11_compares_110 rfl ?_
          have e1 := Option.some.inj h
          exact j_iret hC hE dX11_compares_129 (w_id kR_1) (zn_z zb01_1) (by rw [← e1]) rfl rfl (by rw [← e1]; exact kR_1) (Nat.le_of_ble_eq_true rfl) (Nat.le_of_ble_eq_true rfl)
    · have h := zt c3 h
      refine j_iload hC 3 dX11_compares_81 rfl ?_
      refine j_iload hC 1 dX11_compares_83 rfl ?_
      refine j_icmp_ge hC dX11_compares_85 rfl (w_id hv4) (w_id hx1) (fun c7 => ?_) (fun c7 => ?_)
      · have h := zf c7 h
        refine j_iconst hC dX11_compares_92 ?_
        refine j_goto hC dX11_compares_93 rfl ?_
        have e1 := Option.some.inj h
        exact j_iret hC hE dX11_compares_129 (w_id kR_0) (zn_z zb01_0) (by rw [← e1]) rfl rfl (by rw [← e1]; exact kR_0) (Nat.le_of_ble_eq_true rfl) (Nat.le_of_ble_eq_true rfl)
      · have h := zt c7 h
        refine j_iconst hC dX11_compares_88 ?_
        refine j_goto hC dX11_compares_89 rfl ?_
        have e1 := Option.some.inj h
        exact j_iret hC hE dX11_compares_129 (w_id kR_1) (zn_z zb01_1) (by rw [← e1]) rfl rfl (by rw [← e1]; exact kR_1) (Nat.le_of_ble_eq_true rfl) (Nat.le_of_ble_eq_true rfl)
  have L_23 : ∀ (v0 : Int) (v1 : Int) (v2 : Int) (v3 : Int) (v4 : Int) (v5 : Int) (hv0 : inR v0) (hv1 : inR v1) (hv2 : inR v2) (hv3 : inR v3) (hv4 : inR v4) (hv5 : inR v5) (_ : F_X11_compares_L23 v0 v1 v2 v3 v4 v5 = some r), zJ K g 0 0 23 7 [(0, .int (zi v0)), (1, .int (zi v1)), (2, .int (zi v2)), (3, .int (zi v3)), (4, .int (zi v4)), (5, .int (zi v5))] [] M S := by
    intro v0 v1 v2 v3 v4 v5 hv0 hv1 hv2 hv3 hv4 hv5 h
    unfold F_X11_compares_L23 at h
    obtain ⟨ex23, hl, hd23⟩ := zb1_ex h
    obtain ⟨bd23, ebd⟩ : ∃ f, f = (fun (s : Int × Int) => F_X11_compares_B23 v0 v1 v2 v3 s.1 s.2) := ⟨_, rfl⟩
    rw [← ebd] at hl
    have main : ∀ (n23 : Nat) (v4 : Int) (v5 : Int) (hv4 : inR v4) (hv5 : inR v5) (_ : zloop bd23 n23 (v4, v5) = some ex23), zJ K g 0 0 23 7 [(0, .int (zi v0)), (1, .int (zi v1)), (2, .int (zi v2)), (3, .int (zi v3)), (4, .int (zi v4)), (5, .int (zi v5))] [] M S := by
      intro n23
      induction n23 with
      | zero => intro v4 v5 hv4 hv5 hl; exact zloop_0 hl
      | succ n23 ih23 =>
        have J_52 : ∀ (v5 : Int) (t0 : Int) (t1 : Int) (hv5 : inR v5) (ht0 : inR t0) (ht1 : inR t1) (o : _) (_ : F_X11_compares_J52 v0 v1 v2 v3 v5 t0 t1 = some o), zAft (bd23) n23 ex23 o → zJ K g 0 0 52 7 [(0, .int (zi v0)), (1, .int (zi v1)), (2, .int (zi v2)), (3, .int (zi v3)), (5, .int (zi v5))] [.int (zi t1), .int (zi t0)] M S := by
          intro v5 t0 t1 hv5 ht0 ht1 o h hT
          unfold F_X11_compares_J52 at h
          refine j_iadd hC dX11_compares_52 ?_
          obtain ⟨x8, ex8, h⟩ := zlet_ex h
          have hx8 : inR x8 := by rw [ex8]; exact inR_w _
          refine j_namei ex8 ?_
          refine j_istore hC dX11_compares_53 (Nat.le_of_ble_eq_true rfl) rfl ?_
          obtain ⟨x9, ex9, h⟩ := zlet_ex h
          have hx9 : inR x9 := by rw [ex9]; exact inR_w _
          refine j_iinc hC 5 dX11_compares_55 rfl ex9 (Nat.le_of_ble_eq_true rfl) rfl ?_
          refine j_goto hC dX11_compares_58 rfl ?_
          obtain rfl := Option.some.inj h
          refine j_sub [2, 3, 4, 5, 1, 0] rfl ?_
          exact ih23 x8 x9 hx8 hx9 hT
        have J_51 : ∀ (v5 : Int) (t0 : Int) (hv5 : inR v5) (ht0 : inR t0) (o : _) (_ : F_X11_compares_J51 v0 v1 v2 v3 v5 t0 = some o), zAft (bd23) n23 ex23 o → zJ K g 0 0 51 7 [(0, .int (zi v0)), (1, .int (zi v1)), (2, .int (zi v2)), (3, .int (zi v3)), (5, .int (zi v5))] [.int (zi t0)] M S := by
          intro v5 t0 hv5 ht0 o h hT
          unfold F_X11_compares_J51 at h
          refine j_iconst hC dX11_compares_51 ?_
          exact J_52 v5 t0 0 hv5 ht0 kR_0 _ h hT
        intro v4 v5 hv4 hv5 hl
        obtain ⟨o, h, hT⟩ := zloop_ex hl
        have h : F_X11_compares_B23 v0 v1 v2 v3 v4 v5 = some o := by rw [ebd] at h; exact h
        unfold F_X11_compares_B23 at h
        refine j_iload hC 5 dX11_compares_23 rfl ?_
        refine j_iload_n hC 2 dX11_compares_25 rfl rfl ?_
        refine j_icmp_ge hC dX11_compares_26 rfl (w_id hv5) (w_id hv2) (fun c10 => ?_) (fun c10 => ?_)
        · have h := zf c10 h
          obtain rfl := Option.some.inj h
          have hx23 := hd23
          rw [← show _ = ex23 from hT] at hx23
          refine j_sub [0, 4] rfl ?_
          exact J_61 v0 v4 hv0 hv4 hx23
        · have h := zt c10 h
          refine j_iload hC 4 dX11_compares_29 rfl ?_
          refine j_iload_n hC 3 dX11_compares_31 rfl rfl ?_
          refine j_iconst hC dX11_compares_32 ?_
          refine j_icmp_ge hC dX11_compares_33 rfl (w_id hv3) (w_id kR_3) (fun c11 => ?_) (fun c11 => ?_)
          · have h := zf c11 h
            refine j_sub [0, 1, 2, 3, 5] rfl ?_
            exact J_51 v5 v4 hv5 hv4 _ h hT
          · have h := zt c11 h
            refine j_iload_n hC 1 dX11_compares_36 rfl rfl ?_
            refine j_iload_n hC 2 dX11_compares_37 rfl rfl ?_
            refine j_iload hC 5 dX11_compares_38 rfl ?_
            obtain ⟨r12, hy, h⟩ := zb1_ex h
            refine j_callSi hC hE lk_X11_230 dX11_compares_40 (c_X11_letter l hlt g v1 v2 v5 hv1 hv2 hv5 M S hy) [.int (zi v1), .int (zi v2), .int (zi v5)] [.int (zi v4)] rfl rfl rfl (zcat (Nat.le_of_ble_eq_true rfl)) (Nat.le_of_ble_eq_true rfl) (Nat.le_of_ble_eq_true rfl) (Nat.le_of_ble_eq_true rfl) (Nat.le_of_ble_eq_true rfl) (fun hp13 => ?_)
            have hr12 := hp13
            refine j_iload_n hC 3 dX11_compares_43 rfl rfl ?_
            refine j_icmp_ne hC dX11_compares_44 rfl (w_id hr12) (w_id hv3) (fun c14 => ?_) (fun c14 => ?_)
            · have h := zf c14 h
              refine j_sub [0, 1, 2, 3, 5] rfl ?_
              exact J_51 v5 v4 hv5 hv4 _ h hT
            · have h := zt c14 h
              refine j_iconst hC dX11_compares_47 ?_
              refine j_goto hC dX11_compares_48 rfl ?_
              refine j_sub [0, 1, 2, 3, 5] rfl ?_
              exact J_52 v5 v4 1 hv5 hv4 kR_1 _ h hT
    exact main zN v4 v5 hv4 hv5 hl
  have J_18 : ∀ (v0 : Int) (v1 : Int) (v2 : Int) (v3 : Int) (t0 : Int) (hv0 : inR v0) (hv1 : inR v1) (hv2 : inR v2) (hv3 : inR v3) (ht0 : inR t0) (_ : F_X11_compares_J18 v0 v1 v2 v3 t0 = some r), zJ K g 0 0 18 7 [(0, .int (zi v0)), (1, .int (zi v1)), (2, .int (zi v2)), (3, .int (zi v3))] [.int (zi t0)] M S := by
    intro v0 v1 v2 v3 t0 hv0 hv1 hv2 hv3 ht0 h
    unfold F_X11_compares_J18 at h
    refine j_istore hC dX11_compares_18 (Nat.le_of_ble_eq_true rfl) rfl ?_
    refine j_iconst hC dX11_compares_20 ?_
    refine j_istore hC dX11_compares_21 (Nat.le_of_ble_eq_true rfl) rfl ?_
    refine j_sub [2, 3, 4, 5, 1, 0] rfl ?_
    exact L_23 v0 v1 v2 v3 t0 0 hv0 hv1 hv2 hv3 ht0 kR_0 h
  refine j_iload_n hC 0 dX11_compares_0 rfl rfl ?_
  refine j_bipush hC dX11_compares_1 rfl ?_
  refine j_idiv hC dX11_compares_3 (w_id kR_100) (by decide) ?_
  refine j_bipush hC dX11_compares_4 rfl ?_
  refine j_irem hC dX11_compares_6 (w_id kR_10) (by decide) ?_
  obtain ⟨x15, ex15, h⟩ := zlet_ex h
  have hx15 : inR x15 := by rw [ex15]; exact (cR_zrem _ _)
  refine j_names ex15 ?_
  refine j_istore_n hC dX11_compares_7 rfl (Nat.le_of_ble_eq_true rfl) rfl ?_
  refine j_iload_n hC 0 dX11_compares_8 rfl rfl ?_
  refine j_iconst hC dX11_compares_9 ?_
  refine j_icmp_ne hC dX11_compares_10 rfl (w_id hx15) (w_id kR_3) (fun c16 => ?_) (fun c16 => ?_)
  · have h := zf c16 h
    refine j_iconst hC dX11_compares_17 ?_
    refine j_sub [1, 2, 3, 0] rfl ?_
    exact J_18 v0 v1 v2 x15 0 hv0 hv1 hv2 hx15 kR_0 h
  · have h := zt c16 h
    refine j_iload_n hC 3 dX11_compares_13 rfl rfl ?_
    refine j_goto hC dX11_compares_14 rfl ?_
    refine j_sub [1, 2, 3, 0] rfl ?_
    exact J_18 v0 v1 v2 x15 v2 hv0 hv1 hv2 hx15 hv2 h
set_option maxHeartbeats 4000000 in
set_option maxRecDepth 100000 in
theorem c_X11_shows (l : Launch) (hlt : l.stackTraces = false) (g : zG) (v0 : Int) (v1 : Int) (v2 : Int) (hv0 : inR v0) (hv1 : inR v1) (hv2 : inR v2) (M : zM) (S : zS) {r : Int} (h : F_X11_shows v0 v1 v2 = some r) : zMet l g yX11_shows cX11_shows 8 (some .boolean) 4 0 0 [.int (zi v0), .int (zi v1), .int (zi v2)] M S (.inl (some (.int (zi r)))) M S (inR r) := by
  refine zMet_of (by decide) hlt [(0, .int (zi v0)), (1, .int (zi v1)), (2, .int (zi v2))] rfl (Nat.le_of_ble_eq_true rfl) (fun K hC hE hN => ?_)
  unfold F_X11_shows at h
  have J_126 : ∀ (v6 : Int) (hv6 : inR v6) (_ : F_X11_shows_J126 v6 = some r), zJ K g 0 0 126 8 [(6, .int (zi v6))] [] M S := by
    intro v6 hv6 h
    unfold F_X11_shows_J126 at h
    refine j_iload hC 0 dX11_shows_126 rfl ?_
    obtain ⟨c1, h⟩ := zchk_ex h
    have e1 := Option.some.inj h
    exact j_iret hC hE dX11_shows_128 (w_id hv6) (zn_z c1) (by rw [← e1]) rfl rfl (by rw [← e1]; exact hv6) (Nat.le_of_ble_eq_true rfl) (Nat.le_of_ble_eq_true rfl)
  have L_83 : ∀ (v1 : Int) (v2 : Int) (v3 : Int) (v4 : Int) (v6 : Int) (v7 : Int) (hv1 : inR v1) (hv2 : inR v2) (hv3 : inR v3) (hv4 : inR v4) (hv6 : inR v6) (hv7 : inR v7) (_ : F_X11_shows_L83 v1 v2 v3 v4 v6 v7 = some r), zJ K g 0 0 83 8 [(1, .int (zi v1)), (2, .int (zi v2)), (3, .int (zi v3)), (4, .int (zi v4)), (6, .int (zi v6)), (7, .int (zi v7))] [] M S := by
    intro v1 v2 v3 v4 v6 v7 hv1 hv2 hv3 hv4 hv6 hv7 h
    unfold F_X11_shows_L83 at h
    obtain ⟨ex83, hl, hd83⟩ := zb1_ex h
    obtain ⟨bd83, ebd⟩ : ∃ f, f = (fun (s : Int × Int) => F_X11_shows_B83 v1 v2 v3 v4 s.1 s.2) := ⟨_, rfl⟩
    rw [← ebd] at hl
    have main : ∀ (n83 : Nat) (v6 : Int) (v7 : Int) (hv6 : inR v6) (hv7 : inR v7) (_ : zloop bd83 n83 (v6, v7) = some ex83), zJ K g 0 0 83 8 [(1, .int (zi v1)), (2, .int (zi v2)), (3, .int (zi v3)), (4, .int (zi v4)), (6, .int (zi v6)), (7, .int (zi v7))] [] M S := by
      intro n83
      induction n83 with
      | zero => intro v6 v7 hv6 hv7 hl; exact zloop_0 hl
      | succ n83 ih83 =>
        have J_118 : ∀ (v7 : Int) (t0 : Int) (hv7 : inR v7) (ht0 : inR t0) (o : _) (_ : F_X11_shows_J118 v1 v2 v3 v4 v7 t0 = some o), zAft (bd83) n83 ex83 o → zJ K g 0 0 118 8 [(1, .int (zi v1)), (2, .int (zi v2)), (3, .int (zi v3)), (4, .int (zi v4)), (7, .int (zi v7))] [.int (zi t0)] M S := by
          intro v7 t0 hv7 ht0 o h hT
          unfold F_X11_shows_J118 at h
          refine j_istore hC dX11_shows_118 (Nat.le_of_ble_eq_true rfl) rfl ?_
          obtain ⟨x2, ex2, h⟩ := zlet_ex h
          have hx2 : inR x2 := by rw [ex2]; exact inR_w _
          refine j_iinc hC 5 dX11_shows_120 rfl ex2 (Nat.le_of_ble_eq_true rfl) rfl ?_
          refine j_goto hC dX11_shows_123 rfl ?_
          obtain rfl := Option.some.inj h
          refine j_sub [2, 3, 4, 5, 1, 0] rfl ?_
          exact ih83 t0 x2 ht0 hx2 hT
        have J_113 : ∀ (v7 : Int) (hv7 : inR v7) (o : _) (_ : F_X11_shows_J113 v1 v2 v3 v4 v7 = some o), zAft (bd83) n83 ex83 o → zJ K g 0 0 113 8 [(1, .int (zi v1)), (2, .int (zi v2)), (3, .int (zi v3)), (4, .int (zi v4)), (7, .int (zi v7))] [] M S := by
          intro v7 hv7 o h hT
          unfold F_X11_shows_J113 at h
          refine j_iconst hC dX11_shows_113 ?_
          refine j_goto hC dX11_shows_114 rfl ?_
          exact J_118 v7 1 hv7 kR_1 _ h hT
        intro v6 v7 hv6 hv7 hl
        obtain ⟨o, h, hT⟩ := zloop_ex hl
        have h : F_X11_shows_B83 v1 v2 v3 v4 v6 v7 = some o := by rw [ebd] at h; exact h
        unfold F_X11_shows_B83 at h
        refine j_iload hC 5 dX11_shows_83 rfl ?_
        refine j_iload hC 3 dX11_shows_85 rfl ?_
        refine j_iadd hC dX11_shows_87 ?_
        refine j_iload_n hC 1 dX11_shows_88 rfl rfl ?_
        refine j_icmp_gt hC dX11_shows_89 rfl rfl (w_id hv2) (fun c3 => ?_) (fun c3 => ?_)
        · have h := zt c3 h
          obtain rfl := Option.some.inj h
          have hx83 := hd83
          rw [← show _ = ex83 from hT] at hx83
          refine j_sub [4] rfl ?_
          exact J_126 v6 hv6 hx83
        · have h := zf c3 h
          refine j_iload hC 4 dX11_shows_92 rfl ?_
          refine j_if_ne hC dX11_shows_94 rfl (w_id hv6) (fun c4 => ?_) (fun c4 => ?_)
          · have h := zf c4 h
            refine j_sub [0, 1, 2, 3, 5] rfl ?_
            exact J_113 v7 hv7 _ h hT
          · have h := zt c4 h
            refine j_iload_n hC 0 dX11_shows_97 rfl rfl ?_
            refine j_iload_n hC 1 dX11_shows_98 rfl rfl ?_
            refine j_iload hC 5 dX11_shows_99 rfl ?_
            refine j_iload hC 5 dX11_shows_101 rfl ?_
            refine j_iload hC 3 dX11_shows_103 rfl ?_
            refine j_iadd hC dX11_shows_105 ?_
            obtain ⟨r5, hy, h⟩ := zb1_ex h
            refine j_callSi hC hE lk_X11_117 dX11_shows_106 (c_X11_part l hlt g v1 v2 v7 (w (v7 + v4)) hv1 hv2 hv7 (inR_w _) M S hy) [.int (zi v1), .int (zi v2), .int (zi v7), .int (zi (v7 + v4))] [] rfl (by simp only [zi_w, zl_wl]) rfl (zcat (Nat.le_of_ble_eq_true rfl)) (Nat.le_of_ble_eq_true rfl) (Nat.le_of_ble_eq_true rfl) (Nat.le_of_ble_eq_true rfl) (Nat.le_of_ble_eq_true rfl) (fun hp6 => ?_)
            have hr5 := hp6
            refine j_iload_n hC 2 dX11_shows_109 rfl rfl ?_
            refine j_icmp_ne hC dX11_shows_110 rfl (w_id hr5) (w_id hv3) (fun c7 => ?_) (fun c7 => ?_)
            · have h := zf c7 h
              refine j_iconst hC dX11_shows_117 ?_
              refine j_sub [0, 1, 2, 3, 5] rfl ?_
              exact J_118 v7 0 hv7 kR_0 _ h hT
            · have h := zt c7 h
              refine j_sub [0, 1, 2, 3, 5] rfl ?_
              exact J_113 v7 hv7 _ h hT
    exact main zN v6 v7 hv6 hv7 hl
  refine j_iload_n hC 0 dX11_shows_0 rfl rfl ?_
  refine j_bipush hC dX11_shows_1 rfl ?_
  refine j_irem hC dX11_shows_3 (w_id kR_100) (by decide) ?_
  obtain ⟨x8, ex8, h⟩ := zlet_ex h
  have hx8 : inR x8 := by rw [ex8]; exact (cR_zrem _ _)
  refine j_names ex8 ?_
  refine j_istore_n hC dX11_shows_4 rfl (Nat.le_of_ble_eq_true rfl) rfl ?_
  refine j_iload_n hC 0 dX11_shows_5 rfl rfl ?_
  obtain ⟨r9, hy, h⟩ := zb1_ex h
  refine j_callSi hC hE lk_X11_114 dX11_shows_6 (c_X11_lengthOf l hlt g x8 hx8 M S hy) [.int (zi x8)] [] rfl rfl rfl (zcat (Nat.le_of_ble_eq_true rfl)) (Nat.le_of_ble_eq_true rfl) (Nat.le_of_ble_eq_true rfl) (Nat.le_of_ble_eq_true rfl) (Nat.le_of_ble_eq_true rfl) (fun hp10 => ?_)
  have hr9 := hp10
  refine j_istore hC dX11_shows_9 (Nat.le_of_ble_eq_true rfl) rfl ?_
  refine j_iload_n hC 2 dX11_shows_11 rfl rfl ?_
  refine j_bipush hC dX11_shows_12 rfl ?_
  refine j_idiv hC dX11_shows_14 (w_id kR_100) (by decide) ?_
  refine j_bipush hC dX11_shows_15 rfl ?_
  refine j_irem hC dX11_shows_17 (w_id kR_10) (by decide) ?_
  obtain ⟨x11, ex11, h⟩ := zlet_ex h
  have hx11 : inR x11 := by rw [ex11]; exact (cR_zrem _ _)
  refine j_names ex11 ?_
  refine j_istore hC dX11_shows_18 (Nat.le_of_ble_eq_true rfl) rfl ?_
  refine j_iload hC 1 dX11_shows_20 rfl ?_
  refine j_iload_n hC 5 dX11_shows_22 rfl rfl ?_
  refine j_icmp_le hC dX11_shows_23 rfl (w_id hr9) (w_id hv2) (fun c12 => ?_) (fun c12 => ?_)
  · have h := zf c12 h
    refine j_iload hC 0 dX11_shows_28 rfl ?_
    refine j_if_ne hC dX11_shows_30 rfl (w_id hx11) (fun c13 => ?_) (fun c13 => ?_)
    · have h := zf c13 h
      refine j_iload hC 0 dX11_shows_51 rfl ?_
      refine j_iconst hC dX11_shows_53 ?_
      refine j_icmp_ne hC dX11_shows_54 rfl (w_id hx11) (w_id kR_1) (fun c14 => ?_) (fun c14 => ?_)
      · have h := zf c14 h
        refine j_iconst hC dX11_shows_77 ?_
        refine j_istore hC dX11_shows_78 (Nat.le_of_ble_eq_true rfl) rfl ?_
        refine j_iconst hC dX11_shows_80 ?_
        refine j_istore hC dX11_shows_81 (Nat.le_of_ble_eq_true rfl) rfl ?_
        refine j_sub [6, 7, 4, 3, 1, 0] rfl ?_
        exact L_83 v1 v2 x8 r9 0 0 hv1 hv2 hx8 hr9 kR_0 kR_0 h
      · have h := zt c14 h
        refine j_iload_n hC 4 dX11_shows_57 rfl rfl ?_
        refine j_iload_n hC 5 dX11_shows_58 rfl rfl ?_
        refine j_iload_n hC 5 dX11_shows_59 rfl rfl ?_
        refine j_iload hC 1 dX11_shows_60 rfl ?_
        refine j_isub hC dX11_shows_62 ?_
        refine j_iload_n hC 5 dX11_shows_63 rfl rfl ?_
        obtain ⟨r15, hy, h⟩ := zb1_ex h
        refine j_callSi hC hE lk_X11_117 dX11_shows_64 (c_X11_part l hlt g v1 v2 (w (v2 - r9)) v2 hv1 hv2 (inR_w _) hv2 M S hy) [.int (zi v1), .int (zi v2), .int (zi (v2 - r9)), .int (zi v2)] [] rfl (by simp only [zi_w, zl_wl]) rfl (zcat (Nat.le_of_ble_eq_true rfl)) (Nat.le_of_ble_eq_true rfl) (Nat.le_of_ble_eq_true rfl) (Nat.le_of_ble_eq_true rfl) (Nat.le_of_ble_eq_true rfl) (fun hp16 => ?_)
        have hr15 := hp16
        refine j_iload_n hC 2 dX11_shows_67 rfl rfl ?_
        refine j_icmp_ne hC dX11_shows_68 rfl (w_id hr15) (w_id hx8) (fun c17 => ?_) (fun c17 => ?_)
        · have h := zf c17 h
          refine j_iconst hC dX11_shows_75 ?_
          have e1 := Option.some.inj h
          exact j_iret hC hE dX11_shows_76 (w_id kR_0) (zn_z zb01_0) (by rw [← e1]) rfl rfl (by rw [← e1]; exact kR_0) (Nat.le_of_ble_eq_true rfl) (Nat.le_of_ble_eq_true rfl)
        · have h := zt c17 h
          refine j_iconst hC dX11_shows_71 ?_
          refine j_goto hC dX11_shows_72 rfl ?_
          have e1 := Option.some.inj h
          exact j_iret hC hE dX11_shows_76 (w_id kR_1) (zn_z zb01_1) (by rw [← e1]) rfl rfl (by rw [← e1]; exact kR_1) (Nat.le_of_ble_eq_true rfl) (Nat.le_of_ble_eq_true rfl)
    · have h := zt c13 h
      refine j_iload_n hC 4 dX11_shows_33 rfl rfl ?_
      refine j_iload_n hC 5 dX11_shows_34 rfl rfl ?_
      refine j_iconst hC dX11_shows_35 ?_
      refine j_iload hC 1 dX11_shows_36 rfl ?_
      obtain ⟨r18, hy, h⟩ := zb1_ex h
      refine j_callSi hC hE lk_X11_117 dX11_shows_38 (c_X11_part l hlt g v1 v2 0 r9 hv1 hv2 kR_0 hr9 M S hy) [.int (zi v1), .int (zi v2), .int (zi 0), .int (zi r9)] [] rfl rfl rfl (zcat (Nat.le_of_ble_eq_true rfl)) (Nat.le_of_ble_eq_true rfl) (Nat.le_of_ble_eq_true rfl) (Nat.le_of_ble_eq_true rfl) (Nat.le_of_ble_eq_true rfl) (fun hp19 => ?_)
      have hr18 := hp19
      refine j_iload_n hC 2 dX11_shows_41 rfl rfl ?_
      refine j_icmp_ne hC dX11_shows_42 rfl (w_id hr18) (w_id hx8) (fun c20 => ?_) (fun c20 => ?_)
      · have h := zf c20 h
        refine j_iconst hC dX11_shows_49 ?_
        have e1 := Option.some.inj h
        exact j_iret hC hE dX11_shows_50 (w_id kR_0) (zn_z zb01_0) (by rw [← e1]) rfl rfl (by rw [← e1]; exact kR_0) (Nat.le_of_ble_eq_true rfl) (Nat.le_of_ble_eq_true rfl)
      · have h := zt c20 h
        refine j_iconst hC dX11_shows_45 ?_
        refine j_goto hC dX11_shows_46 rfl ?_
        have e1 := Option.some.inj h
        exact j_iret hC hE dX11_shows_50 (w_id kR_1) (zn_z zb01_1) (by rw [← e1]) rfl rfl (by rw [← e1]; exact kR_1) (Nat.le_of_ble_eq_true rfl) (Nat.le_of_ble_eq_true rfl)
  · have h := zt c12 h
    refine j_iconst hC dX11_shows_26 ?_
    have e1 := Option.some.inj h
    exact j_iret hC hE dX11_shows_27 (w_id kR_0) (zn_z zb01_0) (by rw [← e1]) rfl rfl (by rw [← e1]; exact kR_0) (Nat.le_of_ble_eq_true rfl) (Nat.le_of_ble_eq_true rfl)
set_option maxHeartbeats 4000000 in
set_option maxRecDepth 100000 in
theorem c_X11_fulfils (l : Launch) (hlt : l.stackTraces = false) (g : zG) (v1 : Int) (v2 : Int) (hv1 : inR v1) (hv2 : inR v2) (M : zM) (S : zS) (hF : zFx S) {r : Int} {M' : zM} (h : F_X11_fulfils v1 v2 M = some (r, M')) : zMet l g yX11_fulfils cX11_fulfils 7 (some .boolean) 6 0 0 [zr g 48, .int (zi v1), .int (zi v2)] M S (.inl (some (.int (zi r)))) M' S (inR r) := by
  refine zMet_of (by decide) hlt [(0, zr g 48), (1, .int (zi v1)), (2, .int (zi v2))] rfl (Nat.le_of_ble_eq_true rfl) (fun K hC hE hN => ?_)
  unfold F_X11_fulfils at h
  have J_222 : ∀ (M : zM) (_ : F_X11_fulfils_J222 M = some (r, M')), zJ K g 0 0 222 7 [(0, zr g 48)] [] M S := by
    intro M h
    unfold F_X11_fulfils_J222 at h
    refine j_aload_n hC 0 dX11_fulfils_222 rfl rfl ?_
    refine j_getq (q := 56) hC dX11_fulfils_223 f_X11_42 (zFx_kd hF 48 rfl) rfl 18 rfl (zFx_rf hF 48 18 rfl) ?_
    refine j_iconst hC dX11_fulfils_226 ?_
    refine j_zald (n := 60) hC dX11_fulfils_227 (w_id kR_0) (zFx_kd hF 56 rfl) (zFx_ln hF 56 rfl) (by decide) (by decide) (fun hg1 => ?_)
    obtain ⟨e1, e2⟩ := zpr2 (Option.some.inj h)
    exact j_iret hC hE dX11_fulfils_228 (w_id (inR_b hg1)) (zn_z hg1) (by rw [← e1]) e2 rfl (by rw [← e1]; exact (inR_b hg1)) (Nat.le_of_ble_eq_true rfl) (Nat.le_of_ble_eq_true rfl)
  have L_14 : ∀ (v1 : Int) (v2 : Int) (v3 : Int) (v4 : Int) (v5 : Int) (hv1 : inR v1) (hv2 : inR v2) (hv3 : inR v3) (hv4 : inR v4) (hv5 : inR v5) (M : zM) (_ : F_X11_fulfils_L14 v1 v2 v3 v4 v5 M = some (r, M')), zJ K g 0 0 14 7 [(0, zr g 48), (1, .int (zi v1)), (2, .int (zi v2)), (3, .int (zi v3)), (4, .int (zi v4)), (5, .int (zi v5))] [] M S := by
    intro v1 v2 v3 v4 v5 hv1 hv2 hv3 hv4 hv5 M h
    unfold F_X11_fulfils_L14 at h
    obtain ⟨ex14, hl, hd14⟩ := zb1_ex h
    obtain ⟨bd14, ebd⟩ : ∃ f, f = (fun (s : Int × Int × zM) => F_X11_fulfils_B14 v1 v2 v3 s.1 s.2.1 s.2.2) := ⟨_, rfl⟩
    rw [← ebd] at hl
    have main : ∀ (n14 : Nat) (v4 : Int) (v5 : Int) (hv4 : inR v4) (hv5 : inR v5) (M : zM) (_ : zloop bd14 n14 (v4, v5, M) = some ex14), zJ K g 0 0 14 7 [(0, zr g 48), (1, .int (zi v1)), (2, .int (zi v2)), (3, .int (zi v3)), (4, .int (zi v4)), (5, .int (zi v5))] [] M S := by
      intro n14
      induction n14 with
      | zero => intro v4 v5 hv4 hv5 M hl; exact zloop_0 hl
      | succ n14 ih14 =>
        have J_216 : ∀ (v4 : Int) (v5 : Int) (hv4 : inR v4) (hv5 : inR v5) (M : zM) (o : _) (_ : F_X11_fulfils_J216 v1 v2 v3 v4 v5 M = some o), zAft (bd14) n14 ex14 o → zJ K g 0 0 216 7 [(0, zr g 48), (1, .int (zi v1)), (2, .int (zi v2)), (3, .int (zi v3)), (4, .int (zi v4)), (5, .int (zi v5))] [] M S := by
          intro v4 v5 hv4 hv5 M o h hT
          unfold F_X11_fulfils_J216 at h
          obtain ⟨x2, ex2, h⟩ := zlet_ex h
          have hx2 : inR x2 := by rw [ex2]; exact inR_w _
          refine j_iinc hC 5 dX11_fulfils_216 rfl ex2 (Nat.le_of_ble_eq_true rfl) rfl ?_
          refine j_goto hC dX11_fulfils_219 rfl ?_
          obtain rfl := Option.some.inj h
          refine j_sub [1, 2, 3, 4, 5, 0] rfl ?_
          exact ih14 v4 x2 hv4 hx2 M hT
        have J_160 : ∀ (v4 : Int) (v5 : Int) (t1 : Int) (t2 : Int) (hv4 : inR v4) (hv5 : inR v5) (ht1 : inR t1) (ht2 : inR t2) (M : zM) (o : _) (_ : F_X11_fulfils_J160 v1 v2 v3 v4 v5 t1 t2 M = some o), zAft (bd14) n14 ex14 o → zJ K g 0 0 160 7 [(0, zr g 48), (1, .int (zi v1)), (2, .int (zi v2)), (3, .int (zi v3)), (4, .int (zi v4)), (5, .int (zi v5))] [.int (zi t2), .int (zi t1), zr g 56] M S := by
          intro v4 v5 t1 t2 hv4 hv5 ht1 ht2 M o h hT
          unfold F_X11_fulfils_J160 at h
          obtain ⟨c3, h⟩ := zchk_ex h
          obtain ⟨c4, h⟩ := zchk_ex h
          obtain ⟨M5, eM5, h⟩ := zlet_ex h
          refine j_zast (n := 60) hC dX11_fulfils_160 (w_id ht1) (w_id ht2) c4 (zFx_kd hF 56 rfl) (zFx_ln hF 56 rfl) c3.1 c3.2 eM5 ?_
          refine j_goto hC dX11_fulfils_161 rfl ?_
          exact J_216 v4 v5 hv4 hv5 M5 _ h hT
        have J_155 : ∀ (v4 : Int) (v5 : Int) (t1 : Int) (hv4 : inR v4) (hv5 : inR v5) (ht1 : inR t1) (M : zM) (o : _) (_ : F_X11_fulfils_J155 v1 v2 v3 v4 v5 t1 M = some o), zAft (bd14) n14 ex14 o → zJ K g 0 0 155 7 [(0, zr g 48), (1, .int (zi v1)), (2, .int (zi v2)), (3, .int (zi v3)), (4, .int (zi v4)), (5, .int (zi v5))] [.int (zi t1), zr g 56] M S := by
          intro v4 v5 t1 hv4 hv5 ht1 M o h hT
          unfold F_X11_fulfils_J155 at h
          refine j_iconst hC dX11_fulfils_155 ?_
          refine j_goto hC dX11_fulfils_156 rfl ?_
          exact J_160 v4 v5 t1 1 hv4 hv5 ht1 kR_1 M _ h hT
        have J_129 : ∀ (v4 : Int) (v5 : Int) (t1 : Int) (hv4 : inR v4) (hv5 : inR v5) (ht1 : inR t1) (M : zM) (o : _) (_ : F_X11_fulfils_J129 v1 v2 v3 v4 v5 t1 M = some o), zAft (bd14) n14 ex14 o → zJ K g 0 0 129 7 [(0, zr g 48), (1, .int (zi v1)), (2, .int (zi v2)), (3, .int (zi v3)), (4, .int (zi v4)), (5, .int (zi v5))] [.int (zi t1), zr g 56] M S := by
          intro v4 v5 t1 hv4 hv5 ht1 M o h hT
          unfold F_X11_fulfils_J129 at h
          refine j_iconst hC dX11_fulfils_129 ?_
          refine j_goto hC dX11_fulfils_130 rfl ?_
          exact J_160 v4 v5 t1 0 hv4 hv5 ht1 kR_0 M _ h hT
        have J_86 : ∀ (v4 : Int) (v5 : Int) (v6 : Int) (hv4 : inR v4) (hv5 : inR v5) (hv6 : inR v6) (M : zM) (o : _) (_ : F_X11_fulfils_J86 v1 v2 v3 v4 v5 v6 M = some o), zAft (bd14) n14 ex14 o → zJ K g 0 0 86 7 [(0, zr g 48), (1, .int (zi v1)), (2, .int (zi v2)), (3, .int (zi v3)), (4, .int (zi v4)), (5, .int (zi v5)), (6, .int (zi v6))] [] M S := by
          intro v4 v5 v6 hv4 hv5 hv6 M o h hT
          unfold F_X11_fulfils_J86 at h
          obtain ⟨x6, ex6, h⟩ := zlet_ex h
          have hx6 : inR x6 := by rw [ex6]; exact inR_w _
          refine j_iinc hC 4 dX11_fulfils_86 rfl ex6 (Nat.le_of_ble_eq_true rfl) rfl ?_
          refine j_aload_n hC 1 dX11_fulfils_89 rfl rfl ?_
          refine j_getq (q := 56) hC dX11_fulfils_90 f_X11_42 (zFx_kd hF 48 rfl) rfl 18 rfl (zFx_rf hF 48 18 rfl) ?_
          refine j_iload hC 0 dX11_fulfils_93 rfl ?_
          refine j_iconst hC dX11_fulfils_95 ?_
          refine j_isub hC dX11_fulfils_96 ?_
          refine j_iload hC 6 dX11_fulfils_97 rfl ?_
          refine j_iconst hC dX11_fulfils_99 ?_
          refine j_icmp_ne hC dX11_fulfils_100 rfl (w_id hv6) (w_id kR_3) (fun c7 => ?_) (fun c7 => ?_)
          · have h := zf c7 h
            refine j_aload_n hC 1 dX11_fulfils_133 rfl rfl ?_
            refine j_getq (q := 56) hC dX11_fulfils_134 f_X11_42 (zFx_kd hF 48 rfl) rfl 18 rfl (zFx_rf hF 48 18 rfl) ?_
            refine j_iload hC 0 dX11_fulfils_137 rfl ?_
            refine j_iconst hC dX11_fulfils_139 ?_
            refine j_isub hC dX11_fulfils_140 ?_
            obtain ⟨c8, h⟩ := zchk_ex h
            refine j_zald (n := 60) hC dX11_fulfils_141 rfl (zFx_kd hF 56 rfl) (zFx_ln hF 56 rfl) c8.1 c8.2 (fun hg9 => ?_)
            refine j_if_ne hC dX11_fulfils_142 rfl (w_id (inR_b hg9)) (fun c10 => ?_) (fun c10 => ?_)
            · have h := zf c10 h
              refine j_sub [1, 2, 3, 4, 0, 5] rfl ?_
              refine j_stk (st2 := [.int (zi (w (x6 - 1))), zr g 56]) (by simp only [zi_w, zl_wl]) ?_
              exact J_155 x6 v5 (w (x6 - 1)) hx6 hv5 (inR_w _) M _ h hT
            · have h := zt c10 h
              refine j_aload_n hC 1 dX11_fulfils_145 rfl rfl ?_
              refine j_getq (q := 56) hC dX11_fulfils_146 f_X11_42 (zFx_kd hF 48 rfl) rfl 18 rfl (zFx_rf hF 48 18 rfl) ?_
              refine j_iload hC 0 dX11_fulfils_149 rfl ?_
              obtain ⟨c11, h⟩ := zchk_ex h
              refine j_zald (n := 60) hC dX11_fulfils_151 (w_id hx6) (zFx_kd hF 56 rfl) (zFx_ln hF 56 rfl) c11.1 c11.2 (fun hg12 => ?_)
              refine j_if_eq hC dX11_fulfils_152 rfl (w_id (inR_b hg12)) (fun c13 => ?_) (fun c13 => ?_)
              · have h := zt c13 h
                refine j_iconst hC dX11_fulfils_159 ?_
                refine j_sub [1, 2, 3, 4, 0, 5] rfl ?_
                refine j_stk (st2 := [.int (zi 0), .int (zi (w (x6 - 1))), zr g 56]) (by simp only [zi_w, zl_wl]) ?_
                exact J_160 x6 v5 (w (x6 - 1)) 0 hx6 hv5 (inR_w _) kR_0 M _ h hT
              · have h := zf c13 h
                refine j_sub [1, 2, 3, 4, 0, 5] rfl ?_
                refine j_stk (st2 := [.int (zi (w (x6 - 1))), zr g 56]) (by simp only [zi_w, zl_wl]) ?_
                exact J_155 x6 v5 (w (x6 - 1)) hx6 hv5 (inR_w _) M _ h hT
          · have h := zt c7 h
            refine j_aload_n hC 1 dX11_fulfils_103 rfl rfl ?_
            refine j_getq (q := 56) hC dX11_fulfils_104 f_X11_42 (zFx_kd hF 48 rfl) rfl 18 rfl (zFx_rf hF 48 18 rfl) ?_
            refine j_iload hC 0 dX11_fulfils_107 rfl ?_
            refine j_iconst hC dX11_fulfils_109 ?_
            refine j_isub hC dX11_fulfils_110 ?_
            obtain ⟨c14, h⟩ := zchk_ex h
            refine j_zald (n := 60) hC dX11_fulfils_111 rfl (zFx_kd hF 56 rfl) (zFx_ln hF 56 rfl) c14.1 c14.2 (fun hg15 => ?_)
            refine j_if_eq hC dX11_fulfils_112 rfl (w_id (inR_b hg15)) (fun c16 => ?_) (fun c16 => ?_)
            · have h := zt c16 h
              refine j_sub [1, 2, 3, 4, 0, 5] rfl ?_
              refine j_stk (st2 := [.int (zi (w (x6 - 1))), zr g 56]) (by simp only [zi_w, zl_wl]) ?_
              exact J_129 x6 v5 (w (x6 - 1)) hx6 hv5 (inR_w _) M _ h hT
            · have h := zf c16 h
              refine j_aload_n hC 1 dX11_fulfils_115 rfl rfl ?_
              refine j_getq (q := 56) hC dX11_fulfils_116 f_X11_42 (zFx_kd hF 48 rfl) rfl 18 rfl (zFx_rf hF 48 18 rfl) ?_
              refine j_iload hC 0 dX11_fulfils_119 rfl ?_
              obtain ⟨c17, h⟩ := zchk_ex h
              refine j_zald (n := 60) hC dX11_fulfils_121 (w_id hx6) (zFx_kd hF 56 rfl) (zFx_ln hF 56 rfl) c17.1 c17.2 (fun hg18 => ?_)
              refine j_if_eq hC dX11_fulfils_122 rfl (w_id (inR_b hg18)) (fun c19 => ?_) (fun c19 => ?_)
              · have h := zt c19 h
                refine j_sub [1, 2, 3, 4, 0, 5] rfl ?_
                refine j_stk (st2 := [.int (zi (w (x6 - 1))), zr g 56]) (by simp only [zi_w, zl_wl]) ?_
                exact J_129 x6 v5 (w (x6 - 1)) hx6 hv5 (inR_w _) M _ h hT
              · have h := zf c19 h
                refine j_iconst hC dX11_fulfils_125 ?_
                refine j_goto hC dX11_fulfils_126 rfl ?_
                refine j_sub [1, 2, 3, 4, 0, 5] rfl ?_
                refine j_stk (st2 := [.int (zi 1), .int (zi (w (x6 - 1))), zr g 56]) (by simp only [zi_w, zl_wl]) ?_
                exact J_160 x6 v5 (w (x6 - 1)) 1 hx6 hv5 (inR_w _) kR_1 M _ h hT
        have J_212 : ∀ (v4 : Int) (v5 : Int) (t1 : Int) (t2 : Int) (hv4 : inR v4) (hv5 : inR v5) (ht1 : inR t1) (ht2 : inR t2) (M : zM) (o : _) (_ : F_X11_fulfils_J212 v1 v2 v3 v4 v5 t1 t2 M = some o), zAft (bd14) n14 ex14 o → zJ K g 0 0 212 7 [(0, zr g 48), (1, .int (zi v1)), (2, .int (zi v2)), (3, .int (zi v3)), (4, .int (zi v4)), (5, .int (zi v5))] [.int (zi t2), .int (zi t1), zr g 56] M S := by
          intro v4 v5 t1 t2 hv4 hv5 ht1 ht2 M o h hT
          unfold F_X11_fulfils_J212 at h
          obtain ⟨c20, h⟩ := zchk_ex h
          obtain ⟨c21, h⟩ := zchk_ex h
          obtain ⟨M22, eM22, h⟩ := zlet_ex h
          refine j_zast (n := 60) hC dX11_fulfils_212 (w_id ht1) (w_id ht2) c21 (zFx_kd hF 56 rfl) (zFx_ln hF 56 rfl) c20.1 c20.2 eM22 ?_
          obtain ⟨x23, ex23, h⟩ := zlet_ex h
          have hx23 : inR x23 := by rw [ex23]; exact inR_w _
          refine j_iinc hC 4 dX11_fulfils_213 rfl ex23 (Nat.le_of_ble_eq_true rfl) rfl ?_
          refine j_sub [1, 2, 3, 4, 0, 5] rfl ?_
          exact J_216 x23 v5 hx23 hv5 M22 _ h hT
        have J_207 : ∀ (v4 : Int) (v5 : Int) (t1 : Int) (hv4 : inR v4) (hv5 : inR v5) (ht1 : inR t1) (M : zM) (o : _) (_ : F_X11_fulfils_J207 v1 v2 v3 v4 v5 t1 M = some o), zAft (bd14) n14 ex14 o → zJ K g 0 0 207 7 [(0, zr g 48), (1, .int (zi v1)), (2, .int (zi v2)), (3, .int (zi v3)), (4, .int (zi v4)), (5, .int (zi v5))] [.int (zi t1), zr g 56] M S := by
          intro v4 v5 t1 hv4 hv5 ht1 M o h hT
          unfold F_X11_fulfils_J207 at h
          refine j_iconst hC dX11_fulfils_207 ?_
          refine j_goto hC dX11_fulfils_208 rfl ?_
          exact J_212 v4 v5 t1 1 hv4 hv5 ht1 kR_1 M _ h hT
        have J_211 : ∀ (v4 : Int) (v5 : Int) (t1 : Int) (hv4 : inR v4) (hv5 : inR v5) (ht1 : inR t1) (M : zM) (o : _) (_ : F_X11_fulfils_J211 v1 v2 v3 v4 v5 t1 M = some o), zAft (bd14) n14 ex14 o → zJ K g 0 0 211 7 [(0, zr g 48), (1, .int (zi v1)), (2, .int (zi v2)), (3, .int (zi v3)), (4, .int (zi v4)), (5, .int (zi v5))] [.int (zi t1), zr g 56] M S := by
          intro v4 v5 t1 hv4 hv5 ht1 M o h hT
          unfold F_X11_fulfils_J211 at h
          refine j_iconst hC dX11_fulfils_211 ?_
          exact J_212 v4 v5 t1 0 hv4 hv5 ht1 kR_0 M _ h hT
        have J_70 : ∀ (v4 : Int) (v5 : Int) (t1 : Int) (t2 : Int) (hv4 : inR v4) (hv5 : inR v5) (ht1 : inR t1) (ht2 : inR t2) (M : zM) (o : _) (_ : F_X11_fulfils_J70 v1 v2 v3 v4 v5 t1 t2 M = some o), zAft (bd14) n14 ex14 o → zJ K g 0 0 70 7 [(0, zr g 48), (1, .int (zi v1)), (2, .int (zi v2)), (3, .int (zi v3)), (4, .int (zi v4)), (5, .int (zi v5))] [.int (zi t2), .int (zi t1), zr g 56] M S := by
          intro v4 v5 t1 t2 hv4 hv5 ht1 ht2 M o h hT
          unfold F_X11_fulfils_J70 at h
          obtain ⟨c24, h⟩ := zchk_ex h
          obtain ⟨c25, h⟩ := zchk_ex h
          obtain ⟨M26, eM26, h⟩ := zlet_ex h
          refine j_zast (n := 60) hC dX11_fulfils_70 (w_id ht1) (w_id ht2) c25 (zFx_kd hF 56 rfl) (zFx_ln hF 56 rfl) c24.1 c24.2 eM26 ?_
          refine j_goto hC dX11_fulfils_71 rfl ?_
          exact J_216 v4 v5 hv4 hv5 M26 _ h hT
        intro v4 v5 hv4 hv5 M hl
        obtain ⟨o, h, hT⟩ := zloop_ex hl
        have h : F_X11_fulfils_B14 v1 v2 v3 v4 v5 M = some o := by rw [ebd] at h; exact h
        unfold F_X11_fulfils_B14 at h
        refine j_iload hC 5 dX11_fulfils_14 rfl ?_
        refine j_bipush hC dX11_fulfils_16 rfl ?_
        refine j_iload_n hC 1 dX11_fulfils_18 rfl rfl ?_
        refine j_imul hC dX11_fulfils_19 ?_
        refine j_aload_n hC 0 dX11_fulfils_20 rfl rfl ?_
        refine j_getq (q := 53) hC dX11_fulfils_21 f_X11_22 (zFx_kd hF 48 rfl) rfl 6 rfl (zFx_rf hF 48 6 rfl) ?_
        refine j_iload_n hC 1 dX11_fulfils_24 rfl rfl ?_
        obtain ⟨c27, h⟩ := zchk_ex h
        refine j_iald (n := 5) hC dX11_fulfils_25 (w_id hv1) (zFx_kd hF 53 rfl) (zFx_ln hF 53 rfl) c27.1 c27.2 (fun hg28 => ?_)
        refine j_iadd hC dX11_fulfils_26 ?_
        refine j_icmp_ge hC dX11_fulfils_27 rfl (w_id hv5) rfl (fun c29 => ?_) (fun c29 => ?_)
        · have h := zf c29 h
          obtain rfl := Option.some.inj h
          have hx14 := hd14
          rw [← show _ = ex14 from hT] at hx14
          refine j_sub [0] rfl ?_
          exact J_222 M hx14
        · have h := zt c29 h
          refine j_aload_n hC 0 dX11_fulfils_30 rfl rfl ?_
          refine j_getq (q := 52) hC dX11_fulfils_31 f_X11_19 (zFx_kd hF 48 rfl) rfl 5 rfl (zFx_rf hF 48 5 rfl) ?_
          refine j_iload hC 5 dX11_fulfils_34 rfl ?_
          obtain ⟨c30, h⟩ := zchk_ex h
          refine j_iald (n := 300) hC dX11_fulfils_36 (w_id hv5) (zFx_kd hF 52 rfl) (zFx_ln hF 52 rfl) c30.1 c30.2 (fun hg31 => ?_)
          obtain ⟨x32, ex32, h⟩ := zlet_ex h
          have hx32 : inR x32 := by rw [ex32]; exact hg31
          refine j_names ex32 ?_
          refine j_istore hC dX11_fulfils_37 (Nat.le_of_ble_eq_true rfl) rfl ?_
          refine j_iload hC 0 dX11_fulfils_39 rfl ?_
          refine j_iconst hC dX11_fulfils_41 ?_
          refine j_icmp_ne hC dX11_fulfils_42 rfl (w_id hx32) (w_id kR_2) (fun c33 => ?_) (fun c33 => ?_)
          · have h := zf c33 h
            refine j_iload hC 0 dX11_fulfils_74 rfl ?_
            refine j_iconst hC dX11_fulfils_76 ?_
            refine j_icmp_eq hC dX11_fulfils_77 rfl (w_id hx32) (w_id kR_3) (fun c34 => ?_) (fun c34 => ?_)
            · have h := zt c34 h
              refine j_sub [1, 2, 3, 4, 5, 6, 0] rfl ?_
              exact J_86 v4 v5 x32 hv4 hv5 hx32 M _ h hT
            · have h := zf c34 h
              refine j_iload hC 0 dX11_fulfils_80 rfl ?_
              refine j_iconst hC dX11_fulfils_82 ?_
              refine j_icmp_ne hC dX11_fulfils_83 rfl (w_id hx32) (w_id kR_4) (fun c35 => ?_) (fun c35 => ?_)
              · have h := zf c35 h
                refine j_aload_n hC 1 dX11_fulfils_164 rfl rfl ?_
                refine j_getq (q := 56) hC dX11_fulfils_165 f_X11_42 (zFx_kd hF 48 rfl) rfl 18 rfl (zFx_rf hF 48 18 rfl) ?_
                refine j_iload hC 5 dX11_fulfils_168 rfl ?_
                refine j_iload hC 0 dX11_fulfils_170 rfl ?_
                refine j_iconst hC dX11_fulfils_172 ?_
                refine j_icmp_eq hC dX11_fulfils_173 rfl (w_id hx32) (w_id kR_1) (fun c36 => ?_) (fun c36 => ?_)
                · have h := zt c36 h
                  refine j_sub [1, 2, 3, 4, 5, 6] rfl ?_
                  exact J_207 v4 v5 v4 hv4 hv5 hv4 M _ h hT
                · have h := zf c36 h
                  refine j_iload hC 0 dX11_fulfils_176 rfl ?_
                  refine j_sipush hC dX11_fulfils_178 rfl ?_
                  refine j_icmp_ge hC dX11_fulfils_181 rfl (w_id hx32) (w_id kR_5000) (fun c37 => ?_) (fun c37 => ?_)
                  · have h := zf c37 h
                    refine j_iload hC 0 dX11_fulfils_197 rfl ?_
                    refine j_iload_n hC 3 dX11_fulfils_199 rfl rfl ?_
                    refine j_iload_n hC 4 dX11_fulfils_200 rfl rfl ?_
                    obtain ⟨r38, hy, h⟩ := zb1_ex h
                    refine j_callSi hC hE lk_X11_237 dX11_fulfils_201 (c_X11_shows l hlt g x32 v2 v3 hx32 hv2 hv3 M S hy) [.int (zi x32), .int (zi v2), .int (zi v3)] [.int (zi v4), zr g 56] rfl rfl rfl (zcat (Nat.le_of_ble_eq_true rfl)) (Nat.le_of_ble_eq_true rfl) (Nat.le_of_ble_eq_true rfl) (Nat.le_of_ble_eq_true rfl) (Nat.le_of_ble_eq_true rfl) (fun hp39 => ?_)
                    have hr38 := hp39
                    refine j_if_eq hC dX11_fulfils_204 rfl (w_id hr38) (fun c40 => ?_) (fun c40 => ?_)
                    · have h := zt c40 h
                      refine j_sub [1, 2, 3, 4, 5, 6] rfl ?_
                      exact J_211 v4 v5 v4 hv4 hv5 hv4 M _ h hT
                    · have h := zf c40 h
                      refine j_sub [1, 2, 3, 4, 5, 6] rfl ?_
                      exact J_207 v4 v5 v4 hv4 hv5 hv4 M _ h hT
                  · have h := zt c37 h
                    refine j_iload hC 0 dX11_fulfils_184 rfl ?_
                    refine j_iload_n hC 3 dX11_fulfils_186 rfl rfl ?_
                    refine j_iload_n hC 4 dX11_fulfils_187 rfl rfl ?_
                    obtain ⟨r41, hy, h⟩ := zb1_ex h
                    refine j_callSi hC hE lk_X11_234 dX11_fulfils_188 (c_X11_compares l hlt g x32 v2 v3 hx32 hv2 hv3 M S hy) [.int (zi x32), .int (zi v2), .int (zi v3)] [.int (zi v4), zr g 56] rfl rfl rfl (zcat (Nat.le_of_ble_eq_true rfl)) (Nat.le_of_ble_eq_true rfl) (Nat.le_of_ble_eq_true rfl) (Nat.le_of_ble_eq_true rfl) (Nat.le_of_ble_eq_true rfl) (fun hp42 => ?_)
                    have hr41 := hp42
                    refine j_if_eq hC dX11_fulfils_191 rfl (w_id hr41) (fun c43 => ?_) (fun c43 => ?_)
                    · have h := zt c43 h
                      refine j_sub [1, 2, 3, 4, 5, 6] rfl ?_
                      exact J_211 v4 v5 v4 hv4 hv5 hv4 M _ h hT
                    · have h := zf c43 h
                      refine j_goto hC dX11_fulfils_194 rfl ?_
                      refine j_sub [1, 2, 3, 4, 5, 6] rfl ?_
                      exact J_207 v4 v5 v4 hv4 hv5 hv4 M _ h hT
              · have h := zt c35 h
                refine j_sub [1, 2, 3, 4, 5, 6, 0] rfl ?_
                exact J_86 v4 v5 x32 hv4 hv5 hx32 M _ h hT
          · have h := zt c33 h
            refine j_aload_n hC 1 dX11_fulfils_45 rfl rfl ?_
            refine j_getq (q := 56) hC dX11_fulfils_46 f_X11_42 (zFx_kd hF 48 rfl) rfl 18 rfl (zFx_rf hF 48 18 rfl) ?_
            refine j_iload hC 5 dX11_fulfils_49 rfl ?_
            refine j_iconst hC dX11_fulfils_51 ?_
            refine j_isub hC dX11_fulfils_52 ?_
            refine j_aload_n hC 1 dX11_fulfils_53 rfl rfl ?_
            refine j_getq (q := 56) hC dX11_fulfils_54 f_X11_42 (zFx_kd hF 48 rfl) rfl 18 rfl (zFx_rf hF 48 18 rfl) ?_
            refine j_iload hC 5 dX11_fulfils_57 rfl ?_
            refine j_iconst hC dX11_fulfils_59 ?_
            refine j_isub hC dX11_fulfils_60 ?_
            obtain ⟨c44, h⟩ := zchk_ex h
            refine j_zald (n := 60) hC dX11_fulfils_61 rfl (zFx_kd hF 56 rfl) (zFx_ln hF 56 rfl) c44.1 c44.2 (fun hg45 => ?_)
            refine j_if_ne hC dX11_fulfils_62 rfl (w_id (inR_b hg45)) (fun c46 => ?_) (fun c46 => ?_)
            · have h := zf c46 h
              refine j_iconst hC dX11_fulfils_69 ?_
              refine j_sub [1, 2, 3, 4, 5, 6] rfl ?_
              refine j_stk (st2 := [.int (zi 0), .int (zi (w (v4 - 1))), zr g 56]) (by simp only [zi_w, zl_wl]) ?_
              exact J_70 v4 v5 (w (v4 - 1)) 0 hv4 hv5 (inR_w _) kR_0 M _ h hT
            · have h := zt c46 h
              refine j_iconst hC dX11_fulfils_65 ?_
              refine j_goto hC dX11_fulfils_66 rfl ?_
              refine j_sub [1, 2, 3, 4, 5, 6] rfl ?_
              refine j_stk (st2 := [.int (zi 1), .int (zi (w (v4 - 1))), zr g 56]) (by simp only [zi_w, zl_wl]) ?_
              exact J_70 v4 v5 (w (v4 - 1)) 1 hv4 hv5 (inR_w _) kR_1 M _ h hT
    exact main zN v4 v5 hv4 hv5 M hl
  refine j_iload_n hC 2 dX11_fulfils_0 rfl rfl ?_
  obtain ⟨r47, hy, h⟩ := zb1_ex h
  refine j_callSi hC hE lk_X11_114 dX11_fulfils_1 (c_X11_lengthOf l hlt g v2 hv2 M S hy) [.int (zi v2)] [] rfl rfl rfl (zcat (Nat.le_of_ble_eq_true rfl)) (Nat.le_of_ble_eq_true rfl) (Nat.le_of_ble_eq_true rfl) (Nat.le_of_ble_eq_true rfl) (Nat.le_of_ble_eq_true rfl) (fun hp48 => ?_)
  have hr47 := hp48
  refine j_istore_n hC dX11_fulfils_4 rfl (Nat.le_of_ble_eq_true rfl) rfl ?_
  refine j_iconst hC dX11_fulfils_5 ?_
  refine j_istore hC dX11_fulfils_6 (Nat.le_of_ble_eq_true rfl) rfl ?_
  refine j_bipush hC dX11_fulfils_8 rfl ?_
  refine j_iload_n hC 3 dX11_fulfils_10 rfl rfl ?_
  refine j_imul hC dX11_fulfils_11 ?_
  obtain ⟨x49, ex49, h⟩ := zlet_ex h
  have hx49 : inR x49 := by rw [ex49]; exact inR_w _
  refine j_namei ex49 ?_
  refine j_istore hC dX11_fulfils_12 (Nat.le_of_ble_eq_true rfl) rfl ?_
  refine j_sub [3, 4, 5, 2, 1, 0] rfl ?_
  exact L_14 v1 v2 r47 0 x49 hv1 hv2 hr47 kR_0 hx49 M h
set_option maxHeartbeats 4000000 in
set_option maxRecDepth 100000 in
theorem c_X11_fit (l : Launch) (hlt : l.stackTraces = false) (g : zG) (v1 : Int) (v2 : Int) (hv1 : inR v1) (hv2 : inR v2) (M : zM) (S : zS) (hF : zFx S) {M' : zM} (h : F_X11_fit v1 v2 M = some M') : zMet l g yX11_fit cX11_fit 5 none 7 0 0 [zr g 48, .int (zi v1), .int (zi v2)] M S (.inl none) M' S (True) := by
  refine zMet_of (by decide) hlt [(0, zr g 48), (1, .int (zi v1)), (2, .int (zi v2))] rfl (Nat.le_of_ble_eq_true rfl) (fun K hC hE hN => ?_)
  unfold F_X11_fit at h
  have J_75 : ∀ (M : zM) (_ : F_X11_fit_J75 M = some M'), zJ K g 0 0 75 5 [] [] M S := by
    intro M h
    unfold F_X11_fit_J75 at h
    have e1 := Option.some.inj h
    exact j_vret hC hE dX11_fit_75 rfl e1 rfl trivial (Nat.le_of_ble_eq_true rfl) (Nat.le_of_ble_eq_true rfl)
  have L_15 : ∀ (v1 : Int) (v2 : Int) (v3 : Int) (hv1 : inR v1) (hv2 : inR v2) (hv3 : inR v3) (M : zM) (_ : F_X11_fit_L15 v1 v2 v3 M = some M'), zJ K g 0 0 15 5 [(0, zr g 48), (1, .int (zi v1)), (2, .int (zi v2)), (3, .int (zi v3))] [] M S := by
    intro v1 v2 v3 hv1 hv2 hv3 M h
    unfold F_X11_fit_L15 at h
    obtain ⟨ex15, hl, hd15⟩ := zb1_ex h
    obtain ⟨bd15, ebd⟩ : ∃ f, f = (fun (s : Int × zM) => F_X11_fit_B15 v1 v2 s.1 s.2) := ⟨_, rfl⟩
    rw [← ebd] at hl
    have main : ∀ (n15 : Nat) (v3 : Int) (hv3 : inR v3) (M : zM) (_ : zloop bd15 n15 (v3, M) = some ex15), zJ K g 0 0 15 5 [(0, zr g 48), (1, .int (zi v1)), (2, .int (zi v2)), (3, .int (zi v3))] [] M S := by
      intro n15
      induction n15 with
      | zero => intro v3 hv3 M hl; exact zloop_0 hl
      | succ n15 ih15 =>
        have J_69 : ∀ (v3 : Int) (hv3 : inR v3) (M : zM) (o : _) (_ : F_X11_fit_J69 v1 v2 v3 M = some o), zAft (bd15) n15 ex15 o → zJ K g 0 0 69 5 [(0, zr g 48), (1, .int (zi v1)), (2, .int (zi v2)), (3, .int (zi v3))] [] M S := by
          intro v3 hv3 M o h hT
          unfold F_X11_fit_J69 at h
          obtain ⟨x1, ex1, h⟩ := zlet_ex h
          have hx1 : inR x1 := by rw [ex1]; exact inR_w _
          refine j_iinc hC 3 dX11_fit_69 rfl ex1 (Nat.le_of_ble_eq_true rfl) rfl ?_
          refine j_goto hC dX11_fit_72 rfl ?_
          obtain rfl := Option.some.inj h
          refine j_sub [1, 2, 3, 0] rfl ?_
          exact ih15 x1 hx1 M hT
        have L_26 : ∀ (v3 : Int) (v4 : Int) (hv3 : inR v3) (hv4 : inR v4) (M : zM) (o : _) (_ : F_X11_fit_L26 v1 v2 v3 v4 M = some o), zAft (bd15) n15 ex15 o → zJ K g 0 0 26 5 [(0, zr g 48), (1, .int (zi v1)), (2, .int (zi v2)), (3, .int (zi v3)), (4, .int (zi v4))] [] M S := by
          intro v3 v4 hv3 hv4 M oh26 h hT26
          unfold F_X11_fit_L26 at h
          obtain ⟨ex26, hl, hd26⟩ := zb1_ex h
          obtain ⟨bd26, ebd⟩ : ∃ f, f = (fun (s : Int × zM) => F_X11_fit_B26 v1 v2 v3 s.1 s.2) := ⟨_, rfl⟩
          rw [← ebd] at hl
          have main : ∀ (n26 : Nat) (v4 : Int) (hv4 : inR v4) (M : zM) (_ : zloop bd26 n26 (v4, M) = some ex26), zJ K g 0 0 26 5 [(0, zr g 48), (1, .int (zi v1)), (2, .int (zi v2)), (3, .int (zi v3)), (4, .int (zi v4))] [] M S := by
            intro n26
            induction n26 with
            | zero => intro v4 hv4 M hl; exact zloop_0 hl
            | succ n26 ih26 =>
              intro v4 hv4 M hl
              obtain ⟨o, h, hT⟩ := zloop_ex hl
              have h : F_X11_fit_B26 v1 v2 v3 v4 M = some o := by rw [ebd] at h; exact h
              unfold F_X11_fit_B26 at h
              refine j_iload hC 4 dX11_fit_26 rfl ?_
              refine j_aload_n hC 0 dX11_fit_28 rfl rfl ?_
              refine j_get hC dX11_fit_29 f_X11_243 (zFx_kd hF 48 rfl) rfl 21 rfl (fun hg2 => ?_)
              refine j_icmp_gt hC dX11_fit_32 rfl (w_id hv4) (w_id hg2) (fun c3 => ?_) (fun c3 => ?_)
              · have h := zt c3 h
                obtain rfl := Option.some.inj h
                have hx26 := hd26
                rw [← show _ = ex26 from hT] at hx26
                refine j_sub [0, 1, 2, 3] rfl ?_
                exact J_69 v3 hv3 M _ hx26 hT26
              · have h := zf c3 h
                refine j_aload_n hC 0 dX11_fit_35 rfl rfl ?_
                refine j_getq (q := 57) hC dX11_fit_36 f_X11_46 (zFx_kd hF 48 rfl) rfl 19 rfl (zFx_rf hF 48 19 rfl) ?_
                refine j_bipush hC dX11_fit_39 rfl ?_
                refine j_iload_n hC 3 dX11_fit_41 rfl rfl ?_
                refine j_imul hC dX11_fit_42 ?_
                refine j_iload hC 4 dX11_fit_43 rfl ?_
                refine j_iadd hC dX11_fit_45 ?_
                refine j_aload_n hC 0 dX11_fit_46 rfl rfl ?_
                refine j_iload_n hC 2 dX11_fit_47 rfl rfl ?_
                refine j_iload_n hC 1 dX11_fit_48 rfl rfl ?_
                refine j_aload_n hC 0 dX11_fit_49 rfl rfl ?_
                refine j_get hC dX11_fit_50 f_X11_243 (zFx_kd hF 48 rfl) rfl 21 rfl (fun hg4 => ?_)
                refine j_iload_n hC 3 dX11_fit_53 rfl rfl ?_
                refine j_iload hC 4 dX11_fit_54 rfl ?_
                obtain ⟨r5, hy, h⟩ := zb1_ex h
                refine j_callSi hC hE lk_X11_117 dX11_fit_56 (c_X11_part l hlt g v1 (M 48 21) v3 v4 hv1 hg4 hv3 hv4 M S hy) [.int (zi v1), .int (zi (M 48 21)), .int (zi v3), .int (zi v4)] [.int (zi v2), zr g 48, .int (zi ((10 * v3) + v4)), zr g 57] rfl rfl rfl (zcat (Nat.le_of_ble_eq_true rfl)) (Nat.le_of_ble_eq_true rfl) (Nat.le_of_ble_eq_true rfl) (Nat.le_of_ble_eq_true rfl) (Nat.le_of_ble_eq_true rfl) (fun hp6 => ?_)
                have hr5 := hp6
                obtain ⟨r7, M8, hy, h⟩ := zb2_ex h
                refine j_callVi (ci := 8) hC hE lk_X11_246 dX11_fit_59 (c_X11_fulfils l hlt g v2 r5 hv2 hr5 M S hF hy) [.int (zi v2), .int (zi r5)] [.int (zi ((10 * v3) + v4)), zr g 57] (zFx_kd hF 48 rfl) ⟨_, rfl, by decide, rfl⟩ rfl rfl rfl (zcat (Nat.le_of_ble_eq_true rfl)) (Nat.le_of_ble_eq_true rfl) (Nat.le_of_ble_eq_true rfl) (Nat.le_of_ble_eq_true rfl) (Nat.le_of_ble_eq_true rfl) (fun hp9 => ?_)
                have hr7 := hp9
                obtain ⟨c10, h⟩ := zchk_ex h
                obtain ⟨c11, h⟩ := zchk_ex h
                obtain ⟨M12, eM12, h⟩ := zlet_ex h
                refine j_zast (n := 100) hC dX11_fit_62 rfl (w_id hr7) c11 (zFx_kd hF 57 rfl) (zFx_ln hF 57 rfl) c10.1 c10.2 eM12 ?_
                obtain ⟨x13, ex13, h⟩ := zlet_ex h
                have hx13 : inR x13 := by rw [ex13]; exact inR_w _
                refine j_iinc hC 4 dX11_fit_63 rfl ex13 (Nat.le_of_ble_eq_true rfl) rfl ?_
                refine j_goto hC dX11_fit_66 rfl ?_
                obtain rfl := Option.some.inj h
                refine j_sub [1, 2, 3, 4, 0] rfl ?_
                exact ih26 x13 hx13 M12 hT
          exact main zN v4 hv4 M hl
        intro v3 hv3 M hl
        obtain ⟨o, h, hT⟩ := zloop_ex hl
        have h : F_X11_fit_B15 v1 v2 v3 M = some o := by rw [ebd] at h; exact h
        unfold F_X11_fit_B15 at h
        refine j_iload_n hC 3 dX11_fit_15 rfl rfl ?_
        refine j_aload_n hC 0 dX11_fit_16 rfl rfl ?_
        refine j_get hC dX11_fit_17 f_X11_243 (zFx_kd hF 48 rfl) rfl 21 rfl (fun hg14 => ?_)
        refine j_icmp_gt hC dX11_fit_20 rfl (w_id hv3) (w_id hg14) (fun c15 => ?_) (fun c15 => ?_)
        · have h := zt c15 h
          obtain rfl := Option.some.inj h
          have hx15 := hd15
          rw [← show _ = ex15 from hT] at hx15
          refine j_sub [] rfl ?_
          exact J_75 M hx15
        · have h := zf c15 h
          refine j_iload_n hC 3 dX11_fit_23 rfl rfl ?_
          refine j_istore hC dX11_fit_24 (Nat.le_of_ble_eq_true rfl) rfl ?_
          refine j_sub [1, 2, 3, 4, 0] rfl ?_
          exact L_26 v3 v3 hv3 hv3 M _ h hT
    exact main zN v3 hv3 M hl
  refine j_aload_n hC 0 dX11_fit_0 rfl rfl ?_
  refine j_iload_n hC 1 dX11_fit_1 rfl rfl ?_
  obtain ⟨M16, eM16, h⟩ := zlet_ex h
  refine j_put hC dX11_fit_2 f_X11_240 pF_X11 (zFx_kd hF 48 rfl) (Or.inl rfl) rfl 20 rfl (w_id hv1) hv1 eM16 ?_
  refine j_aload_n hC 0 dX11_fit_5 rfl rfl ?_
  refine j_iload_n hC 1 dX11_fit_6 rfl rfl ?_
  obtain ⟨r17, hy, h⟩ := zb1_ex h
  refine j_callSi hC hE lk_X11_114 dX11_fit_7 (c_X11_lengthOf l hlt g v1 hv1 M16 S hy) [.int (zi v1)] [zr g 48] rfl rfl rfl (zcat (Nat.le_of_ble_eq_true rfl)) (Nat.le_of_ble_eq_true rfl) (Nat.le_of_ble_eq_true rfl) (Nat.le_of_ble_eq_true rfl) (Nat.le_of_ble_eq_true rfl) (fun hp18 => ?_)
  have hr17 := hp18
  obtain ⟨M19, eM19, h⟩ := zlet_ex h
  refine j_put hC dX11_fit_10 f_X11_243 pF_X11 (zFx_kd hF 48 rfl) (Or.inl rfl) rfl 21 rfl (w_id hr17) hr17 eM19 ?_
  refine j_iconst hC dX11_fit_13 ?_
  refine j_istore_n hC dX11_fit_14 rfl (Nat.le_of_ble_eq_true rfl) rfl ?_
  refine j_sub [1, 2, 3, 0] rfl ?_
  exact L_15 v1 v2 0 hv1 hv2 kR_0 M19 h
set_option maxHeartbeats 4000000 in
set_option maxRecDepth 100000 in
theorem c_X11_isSelected (l : Launch) (hlt : l.stackTraces = false) (g : zG) (v1 : Int) (v2 : Int) (hv1 : inR v1) (hv2 : inR v2) (M : zM) (S : zS) (hF : zFx S) {r : Int} (h : F_X11_isSelected v1 v2 M = some r) : zMet l g yX11_isSelected cX11_isSelected 8 (some .boolean) 1 0 0 [zr g 48, .int (zi v1), .int (zi v2)] M S (.inl (some (.int (zi r)))) M S (inR r) := by
  refine zMet_of (by decide) hlt [(0, zr g 48), (1, .int (zi v1)), (2, .int (zi v2))] rfl (Nat.le_of_ble_eq_true rfl) (fun K hC hE hN => ?_)
  unfold F_X11_isSelected at h
  have J_212 : ∀ (v3 : Int) (hv3 : inR v3) (_ : F_X11_isSelected_J212 v3 M = some r), zJ K g 0 0 212 8 [(3, .int (zi v3))] [] M S := by
    intro v3 hv3 h
    unfold F_X11_isSelected_J212 at h
    refine j_iload_n hC 0 dX11_isSelected_212 rfl rfl ?_
    obtain ⟨c1, h⟩ := zchk_ex h
    have e1 := Option.some.inj h
    exact j_iret hC hE dX11_isSelected_213 (w_id hv3) (zn_z c1) (by rw [← e1]) rfl rfl (by rw [← e1]; exact hv3) (Nat.le_of_ble_eq_true rfl) (Nat.le_of_ble_eq_true rfl)
  have L_46 : ∀ (v1 : Int) (v2 : Int) (v3 : Int) (v4 : Int) (hv1 : inR v1) (hv2 : inR v2) (hv3 : inR v3) (hv4 : inR v4) (_ : F_X11_isSelected_L46 v1 v2 v3 v4 M = some r), zJ K g 0 0 46 8 [(0, zr g 48), (1, .int (zi v1)), (2, .int (zi v2)), (3, .int (zi v3)), (4, .int (zi v4))] [] M S := by
    intro v1 v2 v3 v4 hv1 hv2 hv3 hv4 h
    unfold F_X11_isSelected_L46 at h
    obtain ⟨ex46, hl, hd46⟩ := zb1_ex h
    obtain ⟨bd46, ebd⟩ : ∃ f, f = (fun (s : Int × Int) => F_X11_isSelected_B46 v1 v2 s.1 s.2 M) := ⟨_, rfl⟩
    rw [← ebd] at hl
    have main : ∀ (n46 : Nat) (v3 : Int) (v4 : Int) (hv3 : inR v3) (hv4 : inR v4) (_ : zloop bd46 n46 (v3, v4) = some ex46), zJ K g 0 0 46 8 [(0, zr g 48), (1, .int (zi v1)), (2, .int (zi v2)), (3, .int (zi v3)), (4, .int (zi v4))] [] M S := by
      intro n46
      induction n46 with
      | zero => intro v3 v4 hv3 hv4 hl; exact zloop_0 hl
      | succ n46 ih46 =>
        have J_206 : ∀ (v3 : Int) (v4 : Int) (hv3 : inR v3) (hv4 : inR v4) (o : _) (_ : F_X11_isSelected_J206 v1 v2 v3 v4 M = some o), zAft (bd46) n46 ex46 o → zJ K g 0 0 206 8 [(0, zr g 48), (1, .int (zi v1)), (2, .int (zi v2)), (3, .int (zi v3)), (4, .int (zi v4))] [] M S := by
          intro v3 v4 hv3 hv4 o h hT
          unfold F_X11_isSelected_J206 at h
          obtain ⟨x2, ex2, h⟩ := zlet_ex h
          have hx2 : inR x2 := by rw [ex2]; exact inR_w _
          refine j_iinc hC 4 dX11_isSelected_206 rfl ex2 (Nat.le_of_ble_eq_true rfl) rfl ?_
          refine j_goto hC dX11_isSelected_209 rfl ?_
          obtain rfl := Option.some.inj h
          refine j_sub [1, 2, 3, 4, 0] rfl ?_
          exact ih46 v3 x2 hv3 hx2 hT
        have L_67 : ∀ (v3 : Int) (v4 : Int) (v5 : Int) (hv3 : inR v3) (hv4 : inR v4) (hv5 : inR v5) (o : _) (_ : F_X11_isSelected_L67 v1 v2 v3 v4 v5 M = some o), zAft (bd46) n46 ex46 o → zJ K g 0 0 67 8 [(0, zr g 48), (1, .int (zi v1)), (2, .int (zi v2)), (3, .int (zi v3)), (4, .int (zi v4)), (5, .int (zi v5))] [] M S := by
          intro v3 v4 v5 hv3 hv4 hv5 oh67 h hT67
          unfold F_X11_isSelected_L67 at h
          obtain ⟨ex67, hl, hd67⟩ := zb1_ex h
          obtain ⟨bd67, ebd⟩ : ∃ f, f = (fun (s : Int × Int) => F_X11_isSelected_B67 v1 v2 s.1 v4 s.2 M) := ⟨_, rfl⟩
          rw [← ebd] at hl
          have main : ∀ (n67 : Nat) (v3 : Int) (v5 : Int) (hv3 : inR v3) (hv5 : inR v5) (_ : zloop bd67 n67 (v3, v5) = some ex67), zJ K g 0 0 67 8 [(0, zr g 48), (1, .int (zi v1)), (2, .int (zi v2)), (3, .int (zi v3)), (4, .int (zi v4)), (5, .int (zi v5))] [] M S := by
            intro n67
            induction n67 with
            | zero => intro v3 v5 hv3 hv5 hl; exact zloop_0 hl
            | succ n67 ih67 =>
              have J_199 : ∀ (v5 : Int) (t0 : Int) (hv5 : inR v5) (ht0 : inR t0) (o : _) (_ : F_X11_isSelected_J199 v1 v2 v4 v5 t0 M = some o), zAft (bd67) n67 ex67 o → zJ K g 0 0 199 8 [(0, zr g 48), (1, .int (zi v1)), (2, .int (zi v2)), (4, .int (zi v4)), (5, .int (zi v5))] [.int (zi t0)] M S := by
                intro v5 t0 hv5 ht0 o h hT
                unfold F_X11_isSelected_J199 at h
                refine j_istore_n hC dX11_isSelected_199 rfl (Nat.le_of_ble_eq_true rfl) rfl ?_
                obtain ⟨x3, ex3, h⟩ := zlet_ex h
                have hx3 : inR x3 := by rw [ex3]; exact inR_w _
                refine j_iinc hC 5 dX11_isSelected_200 rfl ex3 (Nat.le_of_ble_eq_true rfl) rfl ?_
                refine j_goto hC dX11_isSelected_203 rfl ?_
                obtain rfl := Option.some.inj h
                refine j_sub [2, 3, 4, 1, 5, 0] rfl ?_
                exact ih67 t0 x3 ht0 hx3 hT
              have J_198 : ∀ (v5 : Int) (hv5 : inR v5) (o : _) (_ : F_X11_isSelected_J198 v1 v2 v4 v5 M = some o), zAft (bd67) n67 ex67 o → zJ K g 0 0 198 8 [(0, zr g 48), (1, .int (zi v1)), (2, .int (zi v2)), (4, .int (zi v4)), (5, .int (zi v5))] [] M S := by
                intro v5 hv5 o h hT
                unfold F_X11_isSelected_J198 at h
                refine j_iconst hC dX11_isSelected_198 ?_
                exact J_199 v5 0 hv5 kR_0 _ h hT
              have J_194 : ∀ (v5 : Int) (hv5 : inR v5) (o : _) (_ : F_X11_isSelected_J194 v1 v2 v4 v5 M = some o), zAft (bd67) n67 ex67 o → zJ K g 0 0 194 8 [(0, zr g 48), (1, .int (zi v1)), (2, .int (zi v2)), (4, .int (zi v4)), (5, .int (zi v5))] [] M S := by
                intro v5 hv5 o h hT
                unfold F_X11_isSelected_J194 at h
                refine j_iconst hC dX11_isSelected_194 ?_
                refine j_goto hC dX11_isSelected_195 rfl ?_
                exact J_199 v5 1 hv5 kR_1 _ h hT
              have J_178 : ∀ (v3 : Int) (v5 : Int) (v6 : Int) (t0 : Int) (hv3 : inR v3) (hv5 : inR v5) (hv6 : inR v6) (ht0 : inR t0) (o : _) (_ : F_X11_isSelected_J178 v1 v2 v3 v4 v5 v6 t0 M = some o), zAft (bd67) n67 ex67 o → zJ K g 0 0 178 8 [(0, zr g 48), (1, .int (zi v1)), (2, .int (zi v2)), (3, .int (zi v3)), (4, .int (zi v4)), (5, .int (zi v5)), (6, .int (zi v6))] [.int (zi t0)] M S := by
                intro v3 v5 v6 t0 hv3 hv5 hv6 ht0 o h hT
                unfold F_X11_isSelected_J178 at h
                refine j_istore hC dX11_isSelected_178 (Nat.le_of_ble_eq_true rfl) rfl ?_
                refine j_iload_n hC 4 dX11_isSelected_180 rfl rfl ?_
                refine j_if_eq hC dX11_isSelected_181 rfl (w_id hv3) (fun c4 => ?_) (fun c4 => ?_)
                · have h := zt c4 h
                  refine j_sub [1, 2, 3, 5, 6] rfl ?_
                  exact J_198 v5 hv5 _ h hT
                · have h := zf c4 h
                  refine j_iload hC 7 dX11_isSelected_184 rfl ?_
                  refine j_if_eq hC dX11_isSelected_186 rfl (w_id hv6) (fun c5 => ?_) (fun c5 => ?_)
                  · have h := zt c5 h
                    refine j_sub [1, 2, 3, 5, 6] rfl ?_
                    exact J_194 v5 hv5 _ h hT
                  · have h := zf c5 h
                    refine j_iload hC 0 dX11_isSelected_189 rfl ?_
                    refine j_if_ne hC dX11_isSelected_191 rfl (w_id ht0) (fun c6 => ?_) (fun c6 => ?_)
                    · have h := zf c6 h
                      refine j_sub [1, 2, 3, 5, 6] rfl ?_
                      exact J_198 v5 hv5 _ h hT
                    · have h := zt c6 h
                      refine j_sub [1, 2, 3, 5, 6] rfl ?_
                      exact J_194 v5 hv5 _ h hT
              have J_163 : ∀ (v3 : Int) (v5 : Int) (v6 : Int) (hv3 : inR v3) (hv5 : inR v5) (hv6 : inR v6) (o : _) (_ : F_X11_isSelected_J163 v1 v2 v3 v4 v5 v6 M = some o), zAft (bd67) n67 ex67 o → zJ K g 0 0 163 8 [(0, zr g 48), (1, .int (zi v1)), (2, .int (zi v2)), (3, .int (zi v3)), (4, .int (zi v4)), (5, .int (zi v5)), (6, .int (zi v6))] [] M S := by
                intro v3 v5 v6 hv3 hv5 hv6 o h hT
                unfold F_X11_isSelected_J163 at h
                refine j_iconst hC dX11_isSelected_163 ?_
                refine j_goto hC dX11_isSelected_164 rfl ?_
                exact J_178 v3 v5 v6 0 hv3 hv5 hv6 kR_0 _ h hT
              have J_135 : ∀ (v3 : Int) (v5 : Int) (v6 : Int) (hv3 : inR v3) (hv5 : inR v5) (hv6 : inR v6) (o : _) (_ : F_X11_isSelected_J135 v1 v2 v3 v4 v5 v6 M = some o), zAft (bd67) n67 ex67 o → zJ K g 0 0 135 8 [(0, zr g 48), (1, .int (zi v1)), (2, .int (zi v2)), (3, .int (zi v3)), (4, .int (zi v4)), (5, .int (zi v5)), (6, .int (zi v6))] [] M S := by
                intro v3 v5 v6 hv3 hv5 hv6 o h hT
                unfold F_X11_isSelected_J135 at h
                refine j_iconst hC dX11_isSelected_135 ?_
                refine j_goto hC dX11_isSelected_136 rfl ?_
                exact J_178 v3 v5 v6 0 hv3 hv5 hv6 kR_0 _ h hT
              have J_109 : ∀ (v3 : Int) (v5 : Int) (t0 : Int) (hv3 : inR v3) (hv5 : inR v5) (ht0 : inR t0) (o : _) (_ : F_X11_isSelected_J109 v1 v2 v3 v4 v5 t0 M = some o), zAft (bd67) n67 ex67 o → zJ K g 0 0 109 8 [(0, zr g 48), (1, .int (zi v1)), (2, .int (zi v2)), (3, .int (zi v3)), (4, .int (zi v4)), (5, .int (zi v5))] [.int (zi t0)] M S := by
                intro v3 v5 t0 hv3 hv5 ht0 o h hT
                unfold F_X11_isSelected_J109 at h
                refine j_istore hC dX11_isSelected_109 (Nat.le_of_ble_eq_true rfl) rfl ?_
                refine j_aload_n hC 1 dX11_isSelected_111 rfl rfl ?_
                refine j_get hC dX11_isSelected_112 f_X11_25 (zFx_kd hF 48 rfl) rfl 8 rfl (fun hg7 => ?_)
                refine j_iconst hC dX11_isSelected_115 ?_
                refine j_icmp_ne hC dX11_isSelected_116 rfl (w_id hg7) (w_id kR_2) (fun c8 => ?_) (fun c8 => ?_)
                · have h := zf c8 h
                  refine j_aload_n hC 1 dX11_isSelected_139 rfl rfl ?_
                  refine j_get hC dX11_isSelected_140 f_X11_25 (zFx_kd hF 48 rfl) rfl 8 rfl (fun hg9 => ?_)
                  refine j_iconst hC dX11_isSelected_143 ?_
                  refine j_icmp_ne hC dX11_isSelected_144 rfl (w_id hg9) (w_id kR_3) (fun c10 => ?_) (fun c10 => ?_)
                  · have h := zf c10 h
                    refine j_iload hC 5 dX11_isSelected_167 rfl ?_
                    refine j_iload_n hC 2 dX11_isSelected_169 rfl rfl ?_
                    refine j_icmp_ge hC dX11_isSelected_170 rfl (w_id hv4) (w_id hv1) (fun c11 => ?_) (fun c11 => ?_)
                    · have h := zf c11 h
                      refine j_iconst hC dX11_isSelected_177 ?_
                      refine j_sub [1, 2, 3, 4, 5, 6, 0] rfl ?_
                      exact J_178 v3 v5 t0 0 hv3 hv5 ht0 kR_0 _ h hT
                    · have h := zt c11 h
                      refine j_iconst hC dX11_isSelected_173 ?_
                      refine j_goto hC dX11_isSelected_174 rfl ?_
                      refine j_sub [1, 2, 3, 4, 5, 6, 0] rfl ?_
                      exact J_178 v3 v5 t0 1 hv3 hv5 ht0 kR_1 _ h hT
                  · have h := zt c10 h
                    refine j_iload_n hC 2 dX11_isSelected_147 rfl rfl ?_
                    refine j_iload hC 5 dX11_isSelected_148 rfl ?_
                    refine j_icmp_gt hC dX11_isSelected_150 rfl (w_id hv1) (w_id hv4) (fun c12 => ?_) (fun c12 => ?_)
                    · have h := zt c12 h
                      refine j_sub [1, 2, 3, 4, 5, 6, 0] rfl ?_
                      exact J_163 v3 v5 t0 hv3 hv5 ht0 _ h hT
                    · have h := zf c12 h
                      refine j_iload hC 6 dX11_isSelected_153 rfl ?_
                      refine j_iload_n hC 3 dX11_isSelected_155 rfl rfl ?_
                      refine j_icmp_gt hC dX11_isSelected_156 rfl (w_id hv5) (w_id hv2) (fun c13 => ?_) (fun c13 => ?_)
                      · have h := zt c13 h
                        refine j_sub [1, 2, 3, 4, 5, 6, 0] rfl ?_
                        exact J_163 v3 v5 t0 hv3 hv5 ht0 _ h hT
                      · have h := zf c13 h
                        refine j_iconst hC dX11_isSelected_159 ?_
                        refine j_goto hC dX11_isSelected_160 rfl ?_
                        refine j_sub [1, 2, 3, 4, 5, 6, 0] rfl ?_
                        exact J_178 v3 v5 t0 1 hv3 hv5 ht0 kR_1 _ h hT
                · have h := zt c8 h
                  refine j_iload hC 5 dX11_isSelected_119 rfl ?_
                  refine j_iload_n hC 2 dX11_isSelected_121 rfl rfl ?_
                  refine j_icmp_gt hC dX11_isSelected_122 rfl (w_id hv4) (w_id hv1) (fun c14 => ?_) (fun c14 => ?_)
                  · have h := zt c14 h
                    refine j_sub [1, 2, 3, 4, 5, 6, 0] rfl ?_
                    exact J_135 v3 v5 t0 hv3 hv5 ht0 _ h hT
                  · have h := zf c14 h
                    refine j_iload_n hC 3 dX11_isSelected_125 rfl rfl ?_
                    refine j_iload hC 6 dX11_isSelected_126 rfl ?_
                    refine j_icmp_gt hC dX11_isSelected_128 rfl (w_id hv2) (w_id hv5) (fun c15 => ?_) (fun c15 => ?_)
                    · have h := zt c15 h
                      refine j_sub [1, 2, 3, 4, 5, 6, 0] rfl ?_
                      exact J_135 v3 v5 t0 hv3 hv5 ht0 _ h hT
                    · have h := zf c15 h
                      refine j_iconst hC dX11_isSelected_131 ?_
                      refine j_goto hC dX11_isSelected_132 rfl ?_
                      refine j_sub [1, 2, 3, 4, 5, 6, 0] rfl ?_
                      exact J_178 v3 v5 t0 1 hv3 hv5 ht0 kR_1 _ h hT
              have J_108 : ∀ (v3 : Int) (v5 : Int) (hv3 : inR v3) (hv5 : inR v5) (o : _) (_ : F_X11_isSelected_J108 v1 v2 v3 v4 v5 M = some o), zAft (bd67) n67 ex67 o → zJ K g 0 0 108 8 [(0, zr g 48), (1, .int (zi v1)), (2, .int (zi v2)), (3, .int (zi v3)), (4, .int (zi v4)), (5, .int (zi v5))] [] M S := by
                intro v3 v5 hv3 hv5 o h hT
                unfold F_X11_isSelected_J108 at h
                refine j_iconst hC dX11_isSelected_108 ?_
                exact J_109 v3 v5 0 hv3 hv5 kR_0 _ h hT
              have J_104 : ∀ (v3 : Int) (v5 : Int) (hv3 : inR v3) (hv5 : inR v5) (o : _) (_ : F_X11_isSelected_J104 v1 v2 v3 v4 v5 M = some o), zAft (bd67) n67 ex67 o → zJ K g 0 0 104 8 [(0, zr g 48), (1, .int (zi v1)), (2, .int (zi v2)), (3, .int (zi v3)), (4, .int (zi v4)), (5, .int (zi v5))] [] M S := by
                intro v3 v5 hv3 hv5 o h hT
                unfold F_X11_isSelected_J104 at h
                refine j_iconst hC dX11_isSelected_104 ?_
                refine j_goto hC dX11_isSelected_105 rfl ?_
                exact J_109 v3 v5 1 hv3 hv5 kR_1 _ h hT
              intro v3 v5 hv3 hv5 hl
              obtain ⟨o, h, hT⟩ := zloop_ex hl
              have h : F_X11_isSelected_B67 v1 v2 v3 v4 v5 M = some o := by rw [ebd] at h; exact h
              unfold F_X11_isSelected_B67 at h
              refine j_iload hC 5 dX11_isSelected_67 rfl ?_
              refine j_aload_n hC 0 dX11_isSelected_69 rfl rfl ?_
              refine j_get hC dX11_isSelected_70 f_X11_243 (zFx_kd hF 48 rfl) rfl 21 rfl (fun hg16 => ?_)
              refine j_icmp_gt hC dX11_isSelected_73 rfl (w_id hv5) (w_id hg16) (fun c17 => ?_) (fun c17 => ?_)
              · have h := zt c17 h
                obtain rfl := Option.some.inj h
                have hx67 := hd67
                rw [← show _ = ex67 from hT] at hx67
                refine j_sub [0, 1, 2, 3, 4] rfl ?_
                exact J_206 v3 v4 hv3 hv4 _ hx67 hT67
              · have h := zf c17 h
                refine j_aload_n hC 0 dX11_isSelected_76 rfl rfl ?_
                refine j_getq (q := 57) hC dX11_isSelected_77 f_X11_46 (zFx_kd hF 48 rfl) rfl 19 rfl (zFx_rf hF 48 19 rfl) ?_
                refine j_bipush hC dX11_isSelected_80 rfl ?_
                refine j_iload hC 4 dX11_isSelected_82 rfl ?_
                refine j_imul hC dX11_isSelected_84 ?_
                refine j_iload hC 5 dX11_isSelected_85 rfl ?_
                refine j_iadd hC dX11_isSelected_87 ?_
                obtain ⟨c18, h⟩ := zchk_ex h
                refine j_zald (n := 100) hC dX11_isSelected_88 rfl (zFx_kd hF 57 rfl) (zFx_ln hF 57 rfl) c18.1 c18.2 (fun hg19 => ?_)
                refine j_if_eq hC dX11_isSelected_89 rfl (w_id (inR_b hg19)) (fun c20 => ?_) (fun c20 => ?_)
                · have h := zt c20 h
                  exact J_108 v3 v5 hv3 hv5 _ h hT
                · have h := zf c20 h
                  refine j_iload hC 4 dX11_isSelected_92 rfl ?_
                  refine j_iload_n hC 1 dX11_isSelected_94 rfl rfl ?_
                  refine j_icmp_ne hC dX11_isSelected_95 rfl (w_id hv4) (w_id hv1) (fun c21 => ?_) (fun c21 => ?_)
                  · have h := zf c21 h
                    exact J_104 v3 v5 hv3 hv5 _ h hT
                  · have h := zt c21 h
                    refine j_iload hC 5 dX11_isSelected_98 rfl ?_
                    refine j_iload_n hC 2 dX11_isSelected_100 rfl rfl ?_
                    refine j_icmp_eq hC dX11_isSelected_101 rfl (w_id hv5) (w_id hv2) (fun c22 => ?_) (fun c22 => ?_)
                    · have h := zt c22 h
                      exact J_108 v3 v5 hv3 hv5 _ h hT
                    · have h := zf c22 h
                      exact J_104 v3 v5 hv3 hv5 _ h hT
          exact main zN v3 v5 hv3 hv5 hl
        intro v3 v4 hv3 hv4 hl
        obtain ⟨o, h, hT⟩ := zloop_ex hl
        have h : F_X11_isSelected_B46 v1 v2 v3 v4 M = some o := by rw [ebd] at h; exact h
        unfold F_X11_isSelected_B46 at h
        refine j_iload hC 4 dX11_isSelected_46 rfl ?_
        refine j_aload_n hC 0 dX11_isSelected_48 rfl rfl ?_
        refine j_get hC dX11_isSelected_49 f_X11_243 (zFx_kd hF 48 rfl) rfl 21 rfl (fun hg23 => ?_)
        refine j_icmp_gt hC dX11_isSelected_52 rfl (w_id hv4) (w_id hg23) (fun c24 => ?_) (fun c24 => ?_)
        · have h := zt c24 h
          obtain rfl := Option.some.inj h
          have hx46 := hd46
          rw [← show _ = ex46 from hT] at hx46
          refine j_sub [3] rfl ?_
          exact J_212 v3 hv3 hx46
        · have h := zf c24 h
          refine j_aload_n hC 0 dX11_isSelected_55 rfl rfl ?_
          refine j_get hC dX11_isSelected_56 f_X11_25 (zFx_kd hF 48 rfl) rfl 8 rfl (fun hg25 => ?_)
          refine j_iconst hC dX11_isSelected_59 ?_
          refine j_icmp_le hC dX11_isSelected_60 rfl (w_id hg25) (w_id kR_1) (fun c26 => ?_) (fun c26 => ?_)
          · have h := zf c26 h
            obtain rfl := Option.some.inj h
            have hx46 := hd46
            rw [← show _ = ex46 from hT] at hx46
            refine j_sub [3] rfl ?_
            exact J_212 v3 hv3 hx46
          · have h := zt c26 h
            refine j_iload hC 4 dX11_isSelected_63 rfl ?_
            refine j_istore hC dX11_isSelected_65 (Nat.le_of_ble_eq_true rfl) rfl ?_
            refine j_sub [1, 2, 3, 4, 5, 0] rfl ?_
            exact L_67 v3 v4 v4 hv3 hv4 hv4 _ h hT
    exact main zN v3 v4 hv3 hv4 hl
  have J_39 : ∀ (_ : F_X11_isSelected_J39 M = some r), zJ K g 0 0 39 8 [] [] M S := by
    intro h
    unfold F_X11_isSelected_J39 at h
    refine j_iconst hC dX11_isSelected_39 ?_
    have e1 := Option.some.inj h
    exact j_iret hC hE dX11_isSelected_40 (w_id kR_0) (zn_z zb01_0) (by rw [← e1]) rfl rfl (by rw [← e1]; exact kR_0) (Nat.le_of_ble_eq_true rfl) (Nat.le_of_ble_eq_true rfl)
  refine j_aload_n hC 0 dX11_isSelected_0 rfl rfl ?_
  refine j_getq (q := 57) hC dX11_isSelected_1 f_X11_46 (zFx_kd hF 48 rfl) rfl 19 rfl (zFx_rf hF 48 19 rfl) ?_
  refine j_bipush hC dX11_isSelected_4 rfl ?_
  refine j_iload_n hC 1 dX11_isSelected_6 rfl rfl ?_
  refine j_imul hC dX11_isSelected_7 ?_
  refine j_iload_n hC 2 dX11_isSelected_8 rfl rfl ?_
  refine j_iadd hC dX11_isSelected_9 ?_
  obtain ⟨c27, h⟩ := zchk_ex h
  refine j_zald (n := 100) hC dX11_isSelected_10 rfl (zFx_kd hF 57 rfl) (zFx_ln hF 57 rfl) c27.1 c27.2 (fun hg28 => ?_)
  refine j_if_ne hC dX11_isSelected_11 rfl (w_id (inR_b hg28)) (fun c29 => ?_) (fun c29 => ?_)
  · have h := zf c29 h
    refine j_aload_n hC 0 dX11_isSelected_16 rfl rfl ?_
    refine j_get hC dX11_isSelected_17 f_X11_25 (zFx_kd hF 48 rfl) rfl 8 rfl (fun hg30 => ?_)
    refine j_if_ne hC dX11_isSelected_20 rfl (w_id hg30) (fun c31 => ?_) (fun c31 => ?_)
    · have h := zf c31 h
      refine j_iconst hC dX11_isSelected_41 ?_
      refine j_istore_n hC dX11_isSelected_42 rfl (Nat.le_of_ble_eq_true rfl) rfl ?_
      refine j_iconst hC dX11_isSelected_43 ?_
      refine j_istore hC dX11_isSelected_44 (Nat.le_of_ble_eq_true rfl) rfl ?_
      refine j_sub [2, 3, 4, 1, 0] rfl ?_
      exact L_46 v1 v2 1 0 hv1 hv2 kR_1 kR_0 h
    · have h := zt c31 h
      refine j_iload_n hC 1 dX11_isSelected_23 rfl rfl ?_
      refine j_if_ne hC dX11_isSelected_24 rfl (w_id hv1) (fun c32 => ?_) (fun c32 => ?_)
      · have h := zf c32 h
        refine j_sub [] rfl ?_
        exact J_39 h
      · have h := zt c32 h
        refine j_iload_n hC 2 dX11_isSelected_27 rfl rfl ?_
        refine j_aload_n hC 0 dX11_isSelected_28 rfl rfl ?_
        refine j_get hC dX11_isSelected_29 f_X11_243 (zFx_kd hF 48 rfl) rfl 21 rfl (fun hg33 => ?_)
        refine j_icmp_ne hC dX11_isSelected_32 rfl (w_id hv2) (w_id hg33) (fun c34 => ?_) (fun c34 => ?_)
        · have h := zf c34 h
          refine j_sub [] rfl ?_
          exact J_39 h
        · have h := zt c34 h
          refine j_iconst hC dX11_isSelected_35 ?_
          refine j_goto hC dX11_isSelected_36 rfl ?_
          have e1 := Option.some.inj h
          exact j_iret hC hE dX11_isSelected_40 (w_id kR_1) (zn_z zb01_1) (by rw [← e1]) rfl rfl (by rw [← e1]; exact kR_1) (Nat.le_of_ble_eq_true rfl) (Nat.le_of_ble_eq_true rfl)
  · have h := zt c29 h
    refine j_iconst hC dX11_isSelected_14 ?_
    have e1 := Option.some.inj h
    exact j_iret hC hE dX11_isSelected_15 (w_id kR_0) (zn_z zb01_0) (by rw [← e1]) rfl rfl (by rw [← e1]; exact kR_0) (Nat.le_of_ble_eq_true rfl) (Nat.le_of_ble_eq_true rfl)
set_option maxHeartbeats 4000000 in
set_option maxRecDepth 100000 in
theorem c_X11_hasRoom (l : Launch) (hlt : l.stackTraces = false) (g : zG) (v1 : Int) (hv1 : inR v1) (M : zM) (S : zS) (hF : zFx S) {r : Int} (h : F_X11_hasRoom v1 M = some r) : zMet l g yX11_hasRoom cX11_hasRoom 2 (some .boolean) 4 0 0 [zr g 48, .int (zi v1)] M S (.inl (some (.int (zi r)))) M S (inR r) := by
  refine zMet_of (by decide) hlt [(0, zr g 48), (1, .int (zi v1))] rfl (Nat.le_of_ble_eq_true rfl) (fun K hC hE hN => ?_)
  unfold F_X11_hasRoom at h
  refine j_aload_n hC 0 dX11_hasRoom_0 rfl rfl ?_
  refine j_get hC dX11_hasRoom_1 f_X11_243 (zFx_kd hF 48 rfl) rfl 21 rfl (fun hg1 => ?_)
  refine j_aload_n hC 0 dX11_hasRoom_4 rfl rfl ?_
  refine j_getq (q := 50) hC dX11_hasRoom_5 f_X11_13 (zFx_kd hF 48 rfl) rfl 3 rfl (zFx_rf hF 48 3 rfl) ?_
  refine j_iload_n hC 1 dX11_hasRoom_8 rfl rfl ?_
  obtain ⟨c2, h⟩ := zchk_ex h
  refine j_iald (n := 5) hC dX11_hasRoom_9 (w_id hv1) (zFx_kd hF 50 rfl) (zFx_ln hF 50 rfl) c2.1 c2.2 (fun hg3 => ?_)
  obtain ⟨r4, hy, h⟩ := zb1_ex h
  refine j_callSi hC hE lk_X11_114 dX11_hasRoom_10 (c_X11_lengthOf l hlt g (M 50 v1) hg3 M S hy) [.int (zi (M 50 v1))] [.int (zi (M 48 21))] rfl rfl rfl (zcat (Nat.le_of_ble_eq_true rfl)) (Nat.le_of_ble_eq_true rfl) (Nat.le_of_ble_eq_true rfl) (Nat.le_of_ble_eq_true rfl) (Nat.le_of_ble_eq_true rfl) (fun hp5 => ?_)
  have hr4 := hp5
  refine j_iadd hC dX11_hasRoom_13 ?_
  refine j_aload_n hC 0 dX11_hasRoom_14 rfl rfl ?_
  refine j_getq (q := 51) hC dX11_hasRoom_15 f_X11_16 (zFx_kd hF 48 rfl) rfl 4 rfl (zFx_rf hF 48 4 rfl) ?_
  refine j_iload_n hC 1 dX11_hasRoom_18 rfl rfl ?_
  obtain ⟨c6, h⟩ := zchk_ex h
  refine j_iald (n := 5) hC dX11_hasRoom_19 (w_id hv1) (zFx_kd hF 51 rfl) (zFx_ln hF 51 rfl) c6.1 c6.2 (fun hg7 => ?_)
  obtain ⟨r8, hy, h⟩ := zb1_ex h
  refine j_callSi hC hE lk_X11_114 dX11_hasRoom_20 (c_X11_lengthOf l hlt g (M 51 v1) hg7 M S hy) [.int (zi (M 51 v1))] [.int (zi ((M 48 21) + r4))] rfl rfl rfl (zcat (Nat.le_of_ble_eq_true rfl)) (Nat.le_of_ble_eq_true rfl) (Nat.le_of_ble_eq_true rfl) (Nat.le_of_ble_eq_true rfl) (Nat.le_of_ble_eq_true rfl) (fun hp9 => ?_)
  have hr8 := hp9
  refine j_iadd hC dX11_hasRoom_23 ?_
  refine j_aload_n hC 0 dX11_hasRoom_24 rfl rfl ?_
  refine j_get hC dX11_hasRoom_25 f_X11_29 (zFx_kd hF 48 rfl) rfl 9 rfl (fun hg10 => ?_)
  refine j_icmp_gt hC dX11_hasRoom_28 rfl rfl (w_id hg10) (fun c11 => ?_) (fun c11 => ?_)
  · have h := zt c11 h
    refine j_iconst hC dX11_hasRoom_35 ?_
    have e1 := Option.some.inj h
    exact j_iret hC hE dX11_hasRoom_36 (w_id kR_0) (zn_z zb01_0) (by rw [← e1]) rfl rfl (by rw [← e1]; exact kR_0) (Nat.le_of_ble_eq_true rfl) (Nat.le_of_ble_eq_true rfl)
  · have h := zf c11 h
    refine j_iconst hC dX11_hasRoom_31 ?_
    refine j_goto hC dX11_hasRoom_32 rfl ?_
    have e1 := Option.some.inj h
    exact j_iret hC hE dX11_hasRoom_36 (w_id kR_1) (zn_z zb01_1) (by rw [← e1]) rfl rfl (by rw [← e1]; exact kR_1) (Nat.le_of_ble_eq_true rfl) (Nat.le_of_ble_eq_true rfl)
set_option maxHeartbeats 4000000 in
set_option maxRecDepth 100000 in
theorem c_X11_inserted (l : Launch) (hlt : l.stackTraces = false) (g : zG) (v1 : Int) (v2 : Int) (v3 : Int) (hv1 : inR v1) (hv2 : inR v2) (hv3 : inR v3) (M : zM) (S : zS) (hF : zFx S) {r : Int} (h : F_X11_inserted v1 v2 v3 M = some r) : zMet l g yX11_inserted cX11_inserted 6 (some .int) 5 0 0 [zr g 48, .int (zi v1), .int (zi v2), .int (zi v3)] M S (.inl (some (.int (zi r)))) M S (inR r) := by
  refine zMet_of (by decide) hlt [(0, zr g 48), (1, .int (zi v1)), (2, .int (zi v2)), (3, .int (zi v3))] rfl (Nat.le_of_ble_eq_true rfl) (fun K hC hE hN => ?_)
  unfold F_X11_inserted at h
  refine j_aload_n hC 0 dX11_inserted_0 rfl rfl ?_
  refine j_get hC dX11_inserted_1 f_X11_240 (zFx_kd hF 48 rfl) rfl 20 rfl (fun hg1 => ?_)
  refine j_aload_n hC 0 dX11_inserted_4 rfl rfl ?_
  refine j_get hC dX11_inserted_5 f_X11_243 (zFx_kd hF 48 rfl) rfl 21 rfl (fun hg2 => ?_)
  refine j_iconst hC dX11_inserted_8 ?_
  refine j_iload_n hC 2 dX11_inserted_9 rfl rfl ?_
  obtain ⟨r3, hy, h⟩ := zb1_ex h
  refine j_callSi hC hE lk_X11_117 dX11_inserted_10 (c_X11_part l hlt g (M 48 20) (M 48 21) 0 v2 hg1 hg2 kR_0 hv2 M S hy) [.int (zi (M 48 20)), .int (zi (M 48 21)), .int (zi 0), .int (zi v2)] [] rfl rfl rfl (zcat (Nat.le_of_ble_eq_true rfl)) (Nat.le_of_ble_eq_true rfl) (Nat.le_of_ble_eq_true rfl) (Nat.le_of_ble_eq_true rfl) (Nat.le_of_ble_eq_true rfl) (fun hp4 => ?_)
  have hr3 := hp4
  refine j_aload_n hC 0 dX11_inserted_13 rfl rfl ?_
  refine j_getq (q := 50) hC dX11_inserted_14 f_X11_13 (zFx_kd hF 48 rfl) rfl 3 rfl (zFx_rf hF 48 3 rfl) ?_
  refine j_iload_n hC 1 dX11_inserted_17 rfl rfl ?_
  obtain ⟨c5, h⟩ := zchk_ex h
  refine j_iald (n := 5) hC dX11_inserted_18 (w_id hv1) (zFx_kd hF 50 rfl) (zFx_ln hF 50 rfl) c5.1 c5.2 (fun hg6 => ?_)
  obtain ⟨r7, hy, h⟩ := zb1_ex h
  refine j_callSi hC hE lk_X11_159 dX11_inserted_19 (c_X11_joined l hlt g r3 (M 50 v1) hr3 hg6 M S hy) [.int (zi r3), .int (zi (M 50 v1))] [] rfl rfl rfl (zcat (Nat.le_of_ble_eq_true rfl)) (Nat.le_of_ble_eq_true rfl) (Nat.le_of_ble_eq_true rfl) (Nat.le_of_ble_eq_true rfl) (Nat.le_of_ble_eq_true rfl) (fun hp8 => ?_)
  have hr7 := hp8
  refine j_istore hC dX11_inserted_22 (Nat.le_of_ble_eq_true rfl) rfl ?_
  refine j_aload_n hC 1 dX11_inserted_24 rfl rfl ?_
  refine j_get hC dX11_inserted_25 f_X11_240 (zFx_kd hF 48 rfl) rfl 20 rfl (fun hg9 => ?_)
  refine j_aload_n hC 1 dX11_inserted_28 rfl rfl ?_
  refine j_get hC dX11_inserted_29 f_X11_243 (zFx_kd hF 48 rfl) rfl 21 rfl (fun hg10 => ?_)
  refine j_iload_n hC 3 dX11_inserted_32 rfl rfl ?_
  refine j_iload_n hC 4 dX11_inserted_33 rfl rfl ?_
  obtain ⟨r11, hy, h⟩ := zb1_ex h
  refine j_callSi hC hE lk_X11_117 dX11_inserted_34 (c_X11_part l hlt g (M 48 20) (M 48 21) v2 v3 hg9 hg10 hv2 hv3 M S hy) [.int (zi (M 48 20)), .int (zi (M 48 21)), .int (zi v2), .int (zi v3)] [] rfl rfl rfl (zcat (Nat.le_of_ble_eq_true rfl)) (Nat.le_of_ble_eq_true rfl) (Nat.le_of_ble_eq_true rfl) (Nat.le_of_ble_eq_true rfl) (Nat.le_of_ble_eq_true rfl) (fun hp12 => ?_)
  have hr11 := hp12
  refine j_aload_n hC 1 dX11_inserted_37 rfl rfl ?_
  refine j_getq (q := 51) hC dX11_inserted_38 f_X11_16 (zFx_kd hF 48 rfl) rfl 4 rfl (zFx_rf hF 48 4 rfl) ?_
  refine j_iload_n hC 2 dX11_inserted_41 rfl rfl ?_
  obtain ⟨c13, h⟩ := zchk_ex h
  refine j_iald (n := 5) hC dX11_inserted_42 (w_id hv1) (zFx_kd hF 51 rfl) (zFx_ln hF 51 rfl) c13.1 c13.2 (fun hg14 => ?_)
  obtain ⟨r15, hy, h⟩ := zb1_ex h
  refine j_callSi hC hE lk_X11_159 dX11_inserted_43 (c_X11_joined l hlt g r11 (M 51 v1) hr11 hg14 M S hy) [.int (zi r11), .int (zi (M 51 v1))] [] rfl rfl rfl (zcat (Nat.le_of_ble_eq_true rfl)) (Nat.le_of_ble_eq_true rfl) (Nat.le_of_ble_eq_true rfl) (Nat.le_of_ble_eq_true rfl) (Nat.le_of_ble_eq_true rfl) (fun hp16 => ?_)
  have hr15 := hp16
  refine j_istore hC dX11_inserted_46 (Nat.le_of_ble_eq_true rfl) rfl ?_
  refine j_iload hC 1 dX11_inserted_48 rfl ?_
  refine j_iload hC 0 dX11_inserted_50 rfl ?_
  obtain ⟨r17, hy, h⟩ := zb1_ex h
  refine j_callSi hC hE lk_X11_159 dX11_inserted_52 (c_X11_joined l hlt g r7 r15 hr7 hr15 M S hy) [.int (zi r7), .int (zi r15)] [] rfl rfl rfl (zcat (Nat.le_of_ble_eq_true rfl)) (Nat.le_of_ble_eq_true rfl) (Nat.le_of_ble_eq_true rfl) (Nat.le_of_ble_eq_true rfl) (Nat.le_of_ble_eq_true rfl) (fun hp18 => ?_)
  have hr17 := hp18
  refine j_aload_n hC 2 dX11_inserted_55 rfl rfl ?_
  refine j_get hC dX11_inserted_56 f_X11_240 (zFx_kd hF 48 rfl) rfl 20 rfl (fun hg19 => ?_)
  refine j_aload_n hC 2 dX11_inserted_59 rfl rfl ?_
  refine j_get hC dX11_inserted_60 f_X11_243 (zFx_kd hF 48 rfl) rfl 21 rfl (fun hg20 => ?_)
  refine j_iload_n hC 5 dX11_inserted_63 rfl rfl ?_
  refine j_aload_n hC 2 dX11_inserted_64 rfl rfl ?_
  refine j_get hC dX11_inserted_65 f_X11_243 (zFx_kd hF 48 rfl) rfl 21 rfl (fun hg21 => ?_)
  obtain ⟨r22, hy, h⟩ := zb1_ex h
  refine j_callSi hC hE lk_X11_117 dX11_inserted_68 (c_X11_part l hlt g (M 48 20) (M 48 21) v3 (M 48 21) hg19 hg20 hv3 hg21 M S hy) [.int (zi (M 48 20)), .int (zi (M 48 21)), .int (zi v3), .int (zi (M 48 21))] [.int (zi r17)] rfl rfl rfl (zcat (Nat.le_of_ble_eq_true rfl)) (Nat.le_of_ble_eq_true rfl) (Nat.le_of_ble_eq_true rfl) (Nat.le_of_ble_eq_true rfl) (Nat.le_of_ble_eq_true rfl) (fun hp23 => ?_)
  have hr22 := hp23
  obtain ⟨r24, hy, h⟩ := zb1_ex h
  refine j_callSi hC hE lk_X11_159 dX11_inserted_71 (c_X11_joined l hlt g r17 r22 hr17 hr22 M S hy) [.int (zi r17), .int (zi r22)] [] rfl rfl rfl (zcat (Nat.le_of_ble_eq_true rfl)) (Nat.le_of_ble_eq_true rfl) (Nat.le_of_ble_eq_true rfl) (Nat.le_of_ble_eq_true rfl) (Nat.le_of_ble_eq_true rfl) (fun hp25 => ?_)
  have hr24 := hp25
  have e1 := Option.some.inj h
  exact j_iret hC hE dX11_inserted_74 (w_id hr24) (zn_i _) (by rw [← e1]) rfl rfl (by rw [← e1]; exact hr24) (Nat.le_of_ble_eq_true rfl) (Nat.le_of_ble_eq_true rfl)
set_option maxHeartbeats 4000000 in
set_option maxRecDepth 100000 in
theorem c_X11_enter (l : Launch) (hlt : l.stackTraces = false) (g : zG) (v1 : Int) (hv1 : inR v1) (M : zM) (S : zS) (hF : zFx S) {M' : zM} (h : F_X11_enter v1 M = some M') : zMet l g yX11_enter cX11_enter 2 none 1 0 0 [zr g 48, .int (zi v1)] M S (.inl none) M' S (True) := by
  refine zMet_of (by decide) hlt [(0, zr g 48), (1, .int (zi v1))] rfl (Nat.le_of_ble_eq_true rfl) (fun K hC hE hN => ?_)
  unfold F_X11_enter at h
  have J_19 : ∀ (v1 : Int) (t1 : Int) (t2 : Int) (hv1 : inR v1) (ht1 : inR t1) (ht2 : inR t2) (M : zM) (_ : F_X11_enter_J19 v1 t1 t2 M = some M'), zJ K g 0 0 19 2 [(0, zr g 48), (1, .int (zi v1))] [.int (zi t2), .int (zi t1), zr g 48] M S := by
    intro v1 t1 t2 hv1 ht1 ht2 M h
    unfold F_X11_enter_J19 at h
    refine j_iadd hC dX11_enter_19 ?_
    obtain ⟨M1, eM1, h⟩ := zlet_ex h
    refine j_put hC dX11_enter_20 f_X11_250 pF_X11 (zFx_kd hF 48 rfl) (Or.inl rfl) rfl 23 rfl rfl (inR_w _) eM1 ?_
    refine j_aload_n hC 0 dX11_enter_23 rfl rfl ?_
    refine j_getq (q := 58) hC dX11_enter_24 f_X11_49 (zFx_kd hF 48 rfl) rfl 22 rfl (zFx_rf hF 48 22 rfl) ?_
    refine j_iload_n hC 1 dX11_enter_27 rfl rfl ?_
    refine j_iconst hC dX11_enter_28 ?_
    obtain ⟨c2, h⟩ := zchk_ex h
    obtain ⟨M3, eM3, h⟩ := zlet_ex h
    refine j_zast (n := 29524) hC dX11_enter_29 (w_id hv1) (w_id kR_1) zb01_1 (zFx_kd hF 58 rfl) (zFx_ln hF 58 rfl) c2.1 c2.2 eM3 ?_
    have e1 := Option.some.inj h
    exact j_vret hC hE dX11_enter_30 rfl e1 rfl trivial (Nat.le_of_ble_eq_true rfl) (Nat.le_of_ble_eq_true rfl)
  refine j_aload_n hC 0 dX11_enter_0 rfl rfl ?_
  refine j_dup hC dX11_enter_1 (zr_cat _ _) ?_
  refine j_get hC dX11_enter_2 f_X11_250 (zFx_kd hF 48 rfl) rfl 23 rfl (fun hg4 => ?_)
  refine j_aload_n hC 0 dX11_enter_5 rfl rfl ?_
  refine j_getq (q := 58) hC dX11_enter_6 f_X11_49 (zFx_kd hF 48 rfl) rfl 22 rfl (zFx_rf hF 48 22 rfl) ?_
  refine j_iload_n hC 1 dX11_enter_9 rfl rfl ?_
  obtain ⟨c5, h⟩ := zchk_ex h
  refine j_zald (n := 29524) hC dX11_enter_10 (w_id hv1) (zFx_kd hF 58 rfl) (zFx_ln hF 58 rfl) c5.1 c5.2 (fun hg6 => ?_)
  refine j_if_eq hC dX11_enter_11 rfl (w_id (inR_b hg6)) (fun c7 => ?_) (fun c7 => ?_)
  · have h := zt c7 h
    refine j_iconst hC dX11_enter_18 ?_
    exact J_19 v1 (M 48 23) 1 hv1 hg4 kR_1 M h
  · have h := zf c7 h
    refine j_iconst hC dX11_enter_14 ?_
    refine j_goto hC dX11_enter_15 rfl ?_
    exact J_19 v1 (M 48 23) 0 hv1 hg4 kR_0 M h
set_option maxHeartbeats 4000000 in
set_option maxRecDepth 100000 in
theorem c_X11_isFactor (l : Launch) (hlt : l.stackTraces = false) (g : zG) (v1 : Int) (hv1 : inR v1) (M : zM) (S : zS) (hF : zFx S) {r : Int} (h : F_X11_isFactor v1 M = some r) : zMet l g yX11_isFactor cX11_isFactor 2 (some .boolean) 1 0 0 [zr g 48, .int (zi v1)] M S (.inl (some (.int (zi r)))) M S (inR r) := by
  refine zMet_of (by decide) hlt [(0, zr g 48), (1, .int (zi v1))] rfl (Nat.le_of_ble_eq_true rfl) (fun K hC hE hN => ?_)
  unfold F_X11_isFactor at h
  have J_26 : ∀ (_ : F_X11_isFactor_J26 M = some r), zJ K g 0 0 26 2 [] [] M S := by
    intro h
    unfold F_X11_isFactor_J26 at h
    refine j_iconst hC dX11_isFactor_26 ?_
    have e1 := Option.some.inj h
    exact j_iret hC hE dX11_isFactor_27 (w_id kR_0) (zn_z zb01_0) (by rw [← e1]) rfl rfl (by rw [← e1]; exact kR_0) (Nat.le_of_ble_eq_true rfl) (Nat.le_of_ble_eq_true rfl)
  refine j_iload_n hC 1 dX11_isFactor_0 rfl rfl ?_
  refine j_bipush hC dX11_isFactor_1 rfl ?_
  refine j_idiv hC dX11_isFactor_3 (w_id kR_10) (by decide) ?_
  refine j_iload_n hC 1 dX11_isFactor_4 rfl rfl ?_
  refine j_bipush hC dX11_isFactor_5 rfl ?_
  refine j_irem hC dX11_isFactor_7 (w_id kR_10) (by decide) ?_
  refine j_icmp_gt hC dX11_isFactor_8 rfl (w_id (cR_zdiv _ _)) (w_id (cR_zrem _ _)) (fun c1 => ?_) (fun c1 => ?_)
  · have h := zt c1 h
    refine j_sub [] rfl ?_
    exact J_26 h
  · have h := zf c1 h
    refine j_iload_n hC 1 dX11_isFactor_11 rfl rfl ?_
    refine j_bipush hC dX11_isFactor_12 rfl ?_
    refine j_irem hC dX11_isFactor_14 (w_id kR_10) (by decide) ?_
    refine j_aload_n hC 0 dX11_isFactor_15 rfl rfl ?_
    refine j_get hC dX11_isFactor_16 f_X11_243 (zFx_kd hF 48 rfl) rfl 21 rfl (fun hg2 => ?_)
    refine j_icmp_gt hC dX11_isFactor_19 rfl (w_id (cR_zrem _ _)) (w_id hg2) (fun c3 => ?_) (fun c3 => ?_)
    · have h := zt c3 h
      refine j_sub [] rfl ?_
      exact J_26 h
    · have h := zf c3 h
      refine j_iconst hC dX11_isFactor_22 ?_
      refine j_goto hC dX11_isFactor_23 rfl ?_
      have e1 := Option.some.inj h
      exact j_iret hC hE dX11_isFactor_27 (w_id kR_1) (zn_z zb01_1) (by rw [← e1]) rfl rfl (by rw [← e1]; exact kR_1) (Nat.le_of_ble_eq_true rfl) (Nat.le_of_ble_eq_true rfl)
set_option maxHeartbeats 4000000 in
set_option maxRecDepth 100000 in
theorem c_X11_grow (l : Launch) (hlt : l.stackTraces = false) (g : zG) (v1 : Int) (v2 : Int) (hv1 : inR v1) (hv2 : inR v2) (M : zM) (S : zS) (hF : zFx S) {M' : zM} (h : F_X11_grow v1 v2 M = some M') : zMet l g yX11_grow cX11_grow 4 none 8 0 0 [zr g 48, .int (zi v1), .int (zi v2)] M S (.inl none) M' S (True) := by
  refine zMet_of (by decide) hlt [(0, zr g 48), (1, .int (zi v1)), (2, .int (zi v2))] rfl (Nat.le_of_ble_eq_true rfl) (fun K hC hE hN => ?_)
  unfold F_X11_grow at h
  have J_68 : ∀ (M : zM) (_ : F_X11_grow_J68 M = some M'), zJ K g 0 0 68 4 [] [] M S := by
    intro M h
    unfold F_X11_grow_J68 at h
    have e1 := Option.some.inj h
    exact j_vret hC hE dX11_grow_68 rfl e1 rfl trivial (Nat.le_of_ble_eq_true rfl) (Nat.le_of_ble_eq_true rfl)
  have L_8 : ∀ (v2 : Int) (v3 : Int) (hv2 : inR v2) (hv3 : inR v3) (M : zM) (_ : F_X11_grow_L8 v2 v3 M = some M'), zJ K g 0 0 8 4 [(0, zr g 48), (2, .int (zi v2)), (3, .int (zi v3))] [] M S := by
    intro v2 v3 hv2 hv3 M h
    unfold F_X11_grow_L8 at h
    obtain ⟨ex8, hl, hd8⟩ := zb1_ex h
    obtain ⟨bd8, ebd⟩ : ∃ f, f = (fun (s : Int × zM) => F_X11_grow_B8 v2 s.1 s.2) := ⟨_, rfl⟩
    rw [← ebd] at hl
    have main : ∀ (n8 : Nat) (v3 : Int) (hv3 : inR v3) (M : zM) (_ : zloop bd8 n8 (v3, M) = some ex8), zJ K g 0 0 8 4 [(0, zr g 48), (2, .int (zi v2)), (3, .int (zi v3))] [] M S := by
      intro n8
      induction n8 with
      | zero => intro v3 hv3 M hl; exact zloop_0 hl
      | succ n8 ih8 =>
        have J_62 : ∀ (v3 : Int) (hv3 : inR v3) (M : zM) (o : _) (_ : F_X11_grow_J62 v2 v3 M = some o), zAft (bd8) n8 ex8 o → zJ K g 0 0 62 4 [(0, zr g 48), (2, .int (zi v2)), (3, .int (zi v3))] [] M S := by
          intro v3 hv3 M o h hT
          unfold F_X11_grow_J62 at h
          obtain ⟨x1, ex1, h⟩ := zlet_ex h
          have hx1 : inR x1 := by rw [ex1]; exact inR_w _
          refine j_iinc hC 2 dX11_grow_62 rfl ex1 (Nat.le_of_ble_eq_true rfl) rfl ?_
          refine j_goto hC dX11_grow_65 rfl ?_
          obtain rfl := Option.some.inj h
          refine j_sub [1, 2, 0] rfl ?_
          exact ih8 x1 hx1 M hT
        intro v3 hv3 M hl
        obtain ⟨o, h, hT⟩ := zloop_ex hl
        have h : F_X11_grow_B8 v2 v3 M = some o := by rw [ebd] at h; exact h
        unfold F_X11_grow_B8 at h
        refine j_iload_n hC 2 dX11_grow_8 rfl rfl ?_
        refine j_bipush hC dX11_grow_9 rfl ?_
        refine j_icmp_ge hC dX11_grow_11 rfl (w_id hv3) (w_id kR_100) (fun c2 => ?_) (fun c2 => ?_)
        · have h := zf c2 h
          obtain rfl := Option.some.inj h
          have hx8 := hd8
          rw [← show _ = ex8 from hT] at hx8
          refine j_sub [] rfl ?_
          exact J_68 M hx8
        · have h := zt c2 h
          refine j_aload_n hC 0 dX11_grow_14 rfl rfl ?_
          refine j_iload_n hC 1 dX11_grow_15 rfl rfl ?_
          obtain ⟨r3, hy, h⟩ := zb1_ex h
          refine j_callVi (ci := 8) hC hE lk_X11_263 dX11_grow_16 (c_X11_hasRoom l hlt g v2 hv2 M S hF hy) [.int (zi v2)] [] (zFx_kd hF 48 rfl) ⟨_, rfl, by decide, rfl⟩ rfl rfl rfl (zcat (Nat.le_of_ble_eq_true rfl)) (Nat.le_of_ble_eq_true rfl) (Nat.le_of_ble_eq_true rfl) (Nat.le_of_ble_eq_true rfl) (Nat.le_of_ble_eq_true rfl) (fun hp4 => ?_)
          have hr3 := hp4
          refine j_if_eq hC dX11_grow_19 rfl (w_id hr3) (fun c5 => ?_) (fun c5 => ?_)
          · have h := zt c5 h
            obtain rfl := Option.some.inj h
            have hx8 := hd8
            rw [← show _ = ex8 from hT] at hx8
            refine j_sub [] rfl ?_
            exact J_68 M hx8
          · have h := zf c5 h
            refine j_aload_n hC 0 dX11_grow_22 rfl rfl ?_
            refine j_iload_n hC 2 dX11_grow_23 rfl rfl ?_
            obtain ⟨r6, hy, h⟩ := zb1_ex h
            refine j_callVi (ci := 8) hC hE lk_X11_266 dX11_grow_24 (c_X11_isFactor l hlt g v3 hv3 M S hF hy) [.int (zi v3)] [] (zFx_kd hF 48 rfl) ⟨_, rfl, by decide, rfl⟩ rfl rfl rfl (zcat (Nat.le_of_ble_eq_true rfl)) (Nat.le_of_ble_eq_true rfl) (Nat.le_of_ble_eq_true rfl) (Nat.le_of_ble_eq_true rfl) (Nat.le_of_ble_eq_true rfl) (fun hp7 => ?_)
            have hr6 := hp7
            refine j_if_eq hC dX11_grow_27 rfl (w_id hr6) (fun c8 => ?_) (fun c8 => ?_)
            · have h := zt c8 h
              exact J_62 v3 hv3 M _ h hT
            · have h := zf c8 h
              refine j_aload_n hC 0 dX11_grow_30 rfl rfl ?_
              refine j_iload_n hC 2 dX11_grow_31 rfl rfl ?_
              refine j_bipush hC dX11_grow_32 rfl ?_
              refine j_idiv hC dX11_grow_34 (w_id kR_10) (by decide) ?_
              refine j_iload_n hC 2 dX11_grow_35 rfl rfl ?_
              refine j_bipush hC dX11_grow_36 rfl ?_
              refine j_irem hC dX11_grow_38 (w_id kR_10) (by decide) ?_
              obtain ⟨r9, hy, h⟩ := zb1_ex h
              refine j_callVi (ci := 8) hC hE lk_X11_269 dX11_grow_39 (c_X11_isSelected l hlt g (zdiv v3 10) (zrem v3 10) (cR_zdiv _ _) (cR_zrem _ _) M S hF hy) [.int (zi (zdiv v3 10)), .int (zi (zrem v3 10))] [] (zFx_kd hF 48 rfl) ⟨_, rfl, by decide, rfl⟩ rfl rfl rfl (zcat (Nat.le_of_ble_eq_true rfl)) (Nat.le_of_ble_eq_true rfl) (Nat.le_of_ble_eq_true rfl) (Nat.le_of_ble_eq_true rfl) (Nat.le_of_ble_eq_true rfl) (fun hp10 => ?_)
              have hr9 := hp10
              refine j_if_eq hC dX11_grow_42 rfl (w_id hr9) (fun c11 => ?_) (fun c11 => ?_)
              · have h := zt c11 h
                exact J_62 v3 hv3 M _ h hT
              · have h := zf c11 h
                refine j_aload_n hC 0 dX11_grow_45 rfl rfl ?_
                refine j_aload_n hC 0 dX11_grow_46 rfl rfl ?_
                refine j_iload_n hC 1 dX11_grow_47 rfl rfl ?_
                refine j_iload_n hC 2 dX11_grow_48 rfl rfl ?_
                refine j_bipush hC dX11_grow_49 rfl ?_
                refine j_idiv hC dX11_grow_51 (w_id kR_10) (by decide) ?_
                refine j_iload_n hC 2 dX11_grow_52 rfl rfl ?_
                refine j_bipush hC dX11_grow_53 rfl ?_
                refine j_irem hC dX11_grow_55 (w_id kR_10) (by decide) ?_
                obtain ⟨r12, hy, h⟩ := zb1_ex h
                refine j_callVi (ci := 8) hC hE lk_X11_272 dX11_grow_56 (c_X11_inserted l hlt g v2 (zdiv v3 10) (zrem v3 10) hv2 (cR_zdiv _ _) (cR_zrem _ _) M S hF hy) [.int (zi v2), .int (zi (zdiv v3 10)), .int (zi (zrem v3 10))] [zr g 48] (zFx_kd hF 48 rfl) ⟨_, rfl, by decide, rfl⟩ rfl rfl rfl (zcat (Nat.le_of_ble_eq_true rfl)) (Nat.le_of_ble_eq_true rfl) (Nat.le_of_ble_eq_true rfl) (Nat.le_of_ble_eq_true rfl) (Nat.le_of_ble_eq_true rfl) (fun hp13 => ?_)
                have hr12 := hp13
                obtain ⟨M14, hy, h⟩ := zb1_ex h
                refine j_callVv (ci := 8) hC hE lk_X11_253 dX11_grow_59 (c_X11_enter l hlt g r12 hr12 M S hF hy) [.int (zi r12)] [] (zFx_kd hF 48 rfl) ⟨_, rfl, by decide, rfl⟩ rfl rfl rfl (zcat (Nat.le_of_ble_eq_true rfl)) (Nat.le_of_ble_eq_true rfl) (Nat.le_of_ble_eq_true rfl) (Nat.le_of_ble_eq_true rfl) (Nat.le_of_ble_eq_true rfl) (fun hp15 => ?_)
                exact J_62 v3 hv3 M14 _ h hT
    exact main zN v3 hv3 M hl
  refine j_aload_n hC 0 dX11_grow_0 rfl rfl ?_
  refine j_iload_n hC 1 dX11_grow_1 rfl rfl ?_
  refine j_iload_n hC 2 dX11_grow_2 rfl rfl ?_
  obtain ⟨M16, hy, h⟩ := zb1_ex h
  refine j_callVv (ci := 8) hC hE lk_X11_260 dX11_grow_3 (c_X11_fit l hlt g v1 v2 hv1 hv2 M S hF hy) [.int (zi v1), .int (zi v2)] [] (zFx_kd hF 48 rfl) ⟨_, rfl, by decide, rfl⟩ rfl rfl rfl (zcat (Nat.le_of_ble_eq_true rfl)) (Nat.le_of_ble_eq_true rfl) (Nat.le_of_ble_eq_true rfl) (Nat.le_of_ble_eq_true rfl) (Nat.le_of_ble_eq_true rfl) (fun hp17 => ?_)
  refine j_iconst hC dX11_grow_6 ?_
  refine j_istore_n hC dX11_grow_7 rfl (Nat.le_of_ble_eq_true rfl) rfl ?_
  refine j_sub [1, 3, 0] rfl ?_
  exact L_8 v2 0 hv2 kR_0 M16 h
set_option maxHeartbeats 4000000 in
set_option maxRecDepth 100000 in
theorem c_X11_find (l : Launch) (hlt : l.stackTraces = false) (g : zG) (v1 : Int) (hv1 : inR v1) (M : zM) (S : zS) (hF : zFx S) {r : Int} {M' : zM} (h : F_X11_find v1 M = some (r, M')) : zMet l g yX11_find cX11_find 4 (some .boolean) 9 0 0 [zr g 48, .int (zi v1)] M S (.inl (some (.int (zi r)))) M' S (inR r) := by
  refine zMet_of (by decide) hlt [(0, zr g 48), (1, .int (zi v1))] rfl (Nat.le_of_ble_eq_true rfl) (fun K hC hE hN => ?_)
  unfold F_X11_find at h
  have J_134 : ∀ (M : zM) (_ : F_X11_find_J134 M = some (r, M')), zJ K g 0 0 134 4 [(0, zr g 48)] [] M S := by
    intro M h
    unfold F_X11_find_J134 at h
    refine j_aload_n hC 0 dX11_find_134 rfl rfl ?_
    refine j_get hC dX11_find_135 f_X11_250 (zFx_kd hF 48 rfl) rfl 23 rfl (fun hg1 => ?_)
    refine j_sipush hC dX11_find_138 rfl ?_
    refine j_icmp_gt hC dX11_find_141 rfl (w_id hg1) (w_id kR_300) (fun c2 => ?_) (fun c2 => ?_)
    · have h := zt c2 h
      refine j_iconst hC dX11_find_148 ?_
      obtain ⟨e1, e2⟩ := zpr2 (Option.some.inj h)
      exact j_iret hC hE dX11_find_149 (w_id kR_0) (zn_z zb01_0) (by rw [← e1]) e2 rfl (by rw [← e1]; exact kR_0) (Nat.le_of_ble_eq_true rfl) (Nat.le_of_ble_eq_true rfl)
    · have h := zf c2 h
      refine j_iconst hC dX11_find_144 ?_
      refine j_goto hC dX11_find_145 rfl ?_
      obtain ⟨e1, e2⟩ := zpr2 (Option.some.inj h)
      exact j_iret hC hE dX11_find_149 (w_id kR_1) (zn_z zb01_1) (by rw [← e1]) e2 rfl (by rw [← e1]; exact kR_1) (Nat.le_of_ble_eq_true rfl) (Nat.le_of_ble_eq_true rfl)
  have L_71 : ∀ (v1 : Int) (v2 : Int) (hv1 : inR v1) (hv2 : inR v2) (M : zM) (_ : F_X11_find_L71 v1 v2 M = some (r, M')), zJ K g 0 0 71 4 [(0, zr g 48), (1, .int (zi v1)), (2, .int (zi v2))] [] M S := by
    intro v1 v2 hv1 hv2 M h
    unfold F_X11_find_L71 at h
    obtain ⟨ex71, hl, hd71⟩ := zb1_ex h
    obtain ⟨bd71, ebd⟩ : ∃ f, f = (fun (s : Int × zM) => F_X11_find_B71 v1 s.1 s.2) := ⟨_, rfl⟩
    rw [← ebd] at hl
    have main : ∀ (n71 : Nat) (v2 : Int) (hv2 : inR v2) (M : zM) (_ : zloop bd71 n71 (v2, M) = some ex71), zJ K g 0 0 71 4 [(0, zr g 48), (1, .int (zi v1)), (2, .int (zi v2))] [] M S := by
      intro n71
      induction n71 with
      | zero => intro v2 hv2 M hl; exact zloop_0 hl
      | succ n71 ih71 =>
        have J_128 : ∀ (v2 : Int) (hv2 : inR v2) (M : zM) (o : _) (_ : F_X11_find_J128 v1 v2 M = some o), zAft (bd71) n71 ex71 o → zJ K g 0 0 128 4 [(0, zr g 48), (1, .int (zi v1)), (2, .int (zi v2))] [] M S := by
          intro v2 hv2 M o h hT
          unfold F_X11_find_J128 at h
          obtain ⟨x3, ex3, h⟩ := zlet_ex h
          have hx3 : inR x3 := by rw [ex3]; exact inR_w _
          refine j_iinc hC 2 dX11_find_128 rfl ex3 (Nat.le_of_ble_eq_true rfl) rfl ?_
          refine j_goto hC dX11_find_131 rfl ?_
          obtain rfl := Option.some.inj h
          refine j_sub [1, 2, 0] rfl ?_
          exact ih71 x3 hx3 M hT
        have L_90 : ∀ (v2 : Int) (v3 : Int) (hv2 : inR v2) (hv3 : inR v3) (M : zM) (o : _) (_ : F_X11_find_L90 v1 v2 v3 M = some o), zAft (bd71) n71 ex71 o → zJ K g 0 0 90 4 [(0, zr g 48), (1, .int (zi v1)), (2, .int (zi v2)), (3, .int (zi v3))] [] M S := by
          intro v2 v3 hv2 hv3 M oh90 h hT90
          unfold F_X11_find_L90 at h
          obtain ⟨ex90, hl, hd90⟩ := zb1_ex h
          obtain ⟨bd90, ebd⟩ : ∃ f, f = (fun (s : Int × zM) => F_X11_find_B90 v1 v2 s.1 s.2) := ⟨_, rfl⟩
          rw [← ebd] at hl
          have main : ∀ (n90 : Nat) (v3 : Int) (hv3 : inR v3) (M : zM) (_ : zloop bd90 n90 (v3, M) = some ex90), zJ K g 0 0 90 4 [(0, zr g 48), (1, .int (zi v1)), (2, .int (zi v2)), (3, .int (zi v3))] [] M S := by
            intro n90
            induction n90 with
            | zero => intro v3 hv3 M hl; exact zloop_0 hl
            | succ n90 ih90 =>
              have J_122 : ∀ (v3 : Int) (hv3 : inR v3) (M : zM) (o : _) (_ : F_X11_find_J122 v1 v2 v3 M = some o), zAft (bd90) n90 ex90 o → zJ K g 0 0 122 4 [(0, zr g 48), (1, .int (zi v1)), (2, .int (zi v2)), (3, .int (zi v3))] [] M S := by
                intro v3 hv3 M o h hT
                unfold F_X11_find_J122 at h
                obtain ⟨x4, ex4, h⟩ := zlet_ex h
                have hx4 : inR x4 := by rw [ex4]; exact inR_w _
                refine j_iinc hC 3 dX11_find_122 rfl ex4 (Nat.le_of_ble_eq_true rfl) rfl ?_
                refine j_goto hC dX11_find_125 rfl ?_
                obtain rfl := Option.some.inj h
                refine j_sub [1, 2, 3, 0] rfl ?_
                exact ih90 x4 hx4 M hT
              intro v3 hv3 M hl
              obtain ⟨o, h, hT⟩ := zloop_ex hl
              have h : F_X11_find_B90 v1 v2 v3 M = some o := by rw [ebd] at h; exact h
              unfold F_X11_find_B90 at h
              refine j_iload_n hC 3 dX11_find_90 rfl rfl ?_
              refine j_aload_n hC 0 dX11_find_91 rfl rfl ?_
              refine j_get hC dX11_find_92 f_X11_121 (zFx_kd hF 48 rfl) rfl 7 rfl (fun hg5 => ?_)
              refine j_icmp_ge hC dX11_find_95 rfl (w_id hv3) (w_id hg5) (fun c6 => ?_) (fun c6 => ?_)
              · have h := zf c6 h
                obtain rfl := Option.some.inj h
                have hx90 := hd90
                rw [← show _ = ex90 from hT] at hx90
                refine j_sub [0, 1, 2] rfl ?_
                exact J_128 v2 hv2 M _ hx90 hT90
              · have h := zt c6 h
                refine j_aload_n hC 0 dX11_find_98 rfl rfl ?_
                refine j_getq (q := 58) hC dX11_find_99 f_X11_49 (zFx_kd hF 48 rfl) rfl 22 rfl (zFx_rf hF 48 22 rfl) ?_
                refine j_iload_n hC 2 dX11_find_102 rfl rfl ?_
                obtain ⟨c7, h⟩ := zchk_ex h
                refine j_zald (n := 29524) hC dX11_find_103 (w_id hv2) (zFx_kd hF 58 rfl) (zFx_ln hF 58 rfl) c7.1 c7.2 (fun hg8 => ?_)
                refine j_if_eq hC dX11_find_104 rfl (w_id (inR_b hg8)) (fun c9 => ?_) (fun c9 => ?_)
                · have h := zt c9 h
                  obtain rfl := Option.some.inj h
                  have hx90 := hd90
                  rw [← show _ = ex90 from hT] at hx90
                  refine j_sub [0, 1, 2] rfl ?_
                  exact J_128 v2 hv2 M _ hx90 hT90
                · have h := zf c9 h
                  refine j_iload_n hC 1 dX11_find_107 rfl rfl ?_
                  refine j_iload_n hC 3 dX11_find_108 rfl rfl ?_
                  refine j_ishr hC dX11_find_109 ?_
                  refine j_iconst hC dX11_find_110 ?_
                  refine j_iand hC dX11_find_111 ?_
                  refine j_iconst hC dX11_find_112 ?_
                  refine j_icmp_ne hC dX11_find_113 rfl (w_id (cR_zand _ _)) (w_id kR_1) (fun c10 => ?_) (fun c10 => ?_)
                  · have h := zf c10 h
                    exact J_122 v3 hv3 M _ h hT
                  · have h := zt c10 h
                    refine j_aload_n hC 0 dX11_find_116 rfl rfl ?_
                    refine j_iload_n hC 2 dX11_find_117 rfl rfl ?_
                    refine j_iload_n hC 3 dX11_find_118 rfl rfl ?_
                    obtain ⟨M11, hy, h⟩ := zb1_ex h
                    refine j_callVv (ci := 8) hC hE lk_X11_256 dX11_find_119 (c_X11_grow l hlt g v2 v3 hv2 hv3 M S hF hy) [.int (zi v2), .int (zi v3)] [] (zFx_kd hF 48 rfl) ⟨_, rfl, by decide, rfl⟩ rfl rfl rfl (zcat (Nat.le_of_ble_eq_true rfl)) (Nat.le_of_ble_eq_true rfl) (Nat.le_of_ble_eq_true rfl) (Nat.le_of_ble_eq_true rfl) (Nat.le_of_ble_eq_true rfl) (fun hp12 => ?_)
                    exact J_122 v3 hv3 M11 _ h hT
          exact main zN v3 hv3 M hl
        intro v2 hv2 M hl
        obtain ⟨o, h, hT⟩ := zloop_ex hl
        have h : F_X11_find_B71 v1 v2 M = some o := by rw [ebd] at h; exact h
        unfold F_X11_find_B71 at h
        refine j_iload_n hC 2 dX11_find_71 rfl rfl ?_
        refine j_sipush hC dX11_find_72 rfl ?_
        refine j_icmp_ge hC dX11_find_75 rfl (w_id hv2) (w_id kR_29524) (fun c13 => ?_) (fun c13 => ?_)
        · have h := zf c13 h
          obtain rfl := Option.some.inj h
          have hx71 := hd71
          rw [← show _ = ex71 from hT] at hx71
          refine j_sub [0] rfl ?_
          exact J_134 M hx71
        · have h := zt c13 h
          refine j_aload_n hC 0 dX11_find_78 rfl rfl ?_
          refine j_get hC dX11_find_79 f_X11_250 (zFx_kd hF 48 rfl) rfl 23 rfl (fun hg14 => ?_)
          refine j_sipush hC dX11_find_82 rfl ?_
          refine j_icmp_gt hC dX11_find_85 rfl (w_id hg14) (w_id kR_300) (fun c15 => ?_) (fun c15 => ?_)
          · have h := zt c15 h
            obtain rfl := Option.some.inj h
            have hx71 := hd71
            rw [← show _ = ex71 from hT] at hx71
            refine j_sub [0] rfl ?_
            exact J_134 M hx71
          · have h := zf c15 h
            refine j_iconst hC dX11_find_88 ?_
            refine j_istore_n hC dX11_find_89 rfl (Nat.le_of_ble_eq_true rfl) rfl ?_
            refine j_sub [1, 2, 3, 0] rfl ?_
            exact L_90 v2 0 hv2 kR_0 M _ h hT
    exact main zN v2 hv2 M hl
  have J_69 : ∀ (v1 : Int) (hv1 : inR v1) (M : zM) (_ : F_X11_find_J69 v1 M = some (r, M')), zJ K g 0 0 69 4 [(0, zr g 48), (1, .int (zi v1))] [] M S := by
    intro v1 hv1 M h
    unfold F_X11_find_J69 at h
    refine j_iconst hC dX11_find_69 ?_
    refine j_istore_n hC dX11_find_70 rfl (Nat.le_of_ble_eq_true rfl) rfl ?_
    refine j_sub [1, 2, 0] rfl ?_
    exact L_71 v1 0 hv1 kR_0 M h
  have L_29 : ∀ (v1 : Int) (v2 : Int) (hv1 : inR v1) (hv2 : inR v2) (M : zM) (_ : F_X11_find_L29 v1 v2 M = some (r, M')), zJ K g 0 0 29 4 [(0, zr g 48), (1, .int (zi v1)), (2, .int (zi v2))] [] M S := by
    intro v1 v2 hv1 hv2 M h
    unfold F_X11_find_L29 at h
    obtain ⟨ex29, hl, hd29⟩ := zb1_ex h
    obtain ⟨bd29, ebd⟩ : ∃ f, f = (fun (s : Int × zM) => F_X11_find_B29 v1 s.1 s.2) := ⟨_, rfl⟩
    rw [← ebd] at hl
    have main : ∀ (n29 : Nat) (v2 : Int) (hv2 : inR v2) (M : zM) (_ : zloop bd29 n29 (v2, M) = some ex29), zJ K g 0 0 29 4 [(0, zr g 48), (1, .int (zi v1)), (2, .int (zi v2))] [] M S := by
      intro n29
      induction n29 with
      | zero => intro v2 hv2 M hl; exact zloop_0 hl
      | succ n29 ih29 =>
        have J_63 : ∀ (v2 : Int) (hv2 : inR v2) (M : zM) (o : _) (_ : F_X11_find_J63 v1 v2 M = some o), zAft (bd29) n29 ex29 o → zJ K g 0 0 63 4 [(0, zr g 48), (1, .int (zi v1)), (2, .int (zi v2))] [] M S := by
          intro v2 hv2 M o h hT
          unfold F_X11_find_J63 at h
          obtain ⟨x16, ex16, h⟩ := zlet_ex h
          have hx16 : inR x16 := by rw [ex16]; exact inR_w _
          refine j_iinc hC 2 dX11_find_63 rfl ex16 (Nat.le_of_ble_eq_true rfl) rfl ?_
          refine j_goto hC dX11_find_66 rfl ?_
          obtain rfl := Option.some.inj h
          refine j_sub [1, 2, 0] rfl ?_
          exact ih29 x16 hx16 M hT
        intro v2 hv2 M hl
        obtain ⟨o, h, hT⟩ := zloop_ex hl
        have h : F_X11_find_B29 v1 v2 M = some o := by rw [ebd] at h; exact h
        unfold F_X11_find_B29 at h
        refine j_iload_n hC 2 dX11_find_29 rfl rfl ?_
        refine j_aload_n hC 0 dX11_find_30 rfl rfl ?_
        refine j_get hC dX11_find_31 f_X11_128 (zFx_kd hF 48 rfl) rfl 2 rfl (fun hg17 => ?_)
        refine j_icmp_ge hC dX11_find_34 rfl (w_id hv2) (w_id hg17) (fun c18 => ?_) (fun c18 => ?_)
        · have h := zf c18 h
          obtain rfl := Option.some.inj h
          have hx29 := hd29
          rw [← show _ = ex29 from hT] at hx29
          refine j_sub [0, 1] rfl ?_
          exact J_69 v1 hv1 M hx29
        · have h := zt c18 h
          refine j_aload_n hC 0 dX11_find_37 rfl rfl ?_
          refine j_getq (q := 49) hC dX11_find_38 f_X11_7 (zFx_kd hF 48 rfl) rfl 1 rfl (zFx_rf hF 48 1 rfl) ?_
          refine j_iload_n hC 2 dX11_find_41 rfl rfl ?_
          obtain ⟨c19, h⟩ := zchk_ex h
          refine j_iald (n := 6) hC dX11_find_42 (w_id hv2) (zFx_kd hF 49 rfl) (zFx_ln hF 49 rfl) c19.1 c19.2 (fun hg20 => ?_)
          obtain ⟨r21, hy, h⟩ := zb1_ex h
          refine j_callSi hC hE lk_X11_114 dX11_find_43 (c_X11_lengthOf l hlt g (M 49 v2) hg20 M S hy) [.int (zi (M 49 v2))] [] rfl rfl rfl (zcat (Nat.le_of_ble_eq_true rfl)) (Nat.le_of_ble_eq_true rfl) (Nat.le_of_ble_eq_true rfl) (Nat.le_of_ble_eq_true rfl) (Nat.le_of_ble_eq_true rfl) (fun hp22 => ?_)
          have hr21 := hp22
          refine j_aload_n hC 0 dX11_find_46 rfl rfl ?_
          refine j_get hC dX11_find_47 f_X11_29 (zFx_kd hF 48 rfl) rfl 9 rfl (fun hg23 => ?_)
          refine j_icmp_gt hC dX11_find_50 rfl (w_id hr21) (w_id hg23) (fun c24 => ?_) (fun c24 => ?_)
          · have h := zt c24 h
            exact J_63 v2 hv2 M _ h hT
          · have h := zf c24 h
            refine j_aload_n hC 0 dX11_find_53 rfl rfl ?_
            refine j_aload_n hC 0 dX11_find_54 rfl rfl ?_
            refine j_getq (q := 49) hC dX11_find_55 f_X11_7 (zFx_kd hF 48 rfl) rfl 1 rfl (zFx_rf hF 48 1 rfl) ?_
            refine j_iload_n hC 2 dX11_find_58 rfl rfl ?_
            obtain ⟨c25, h⟩ := zchk_ex h
            refine j_iald (n := 6) hC dX11_find_59 (w_id hv2) (zFx_kd hF 49 rfl) (zFx_ln hF 49 rfl) c25.1 c25.2 (fun hg26 => ?_)
            obtain ⟨M27, hy, h⟩ := zb1_ex h
            refine j_callVv (ci := 8) hC hE lk_X11_253 dX11_find_60 (c_X11_enter l hlt g (M 49 v2) hg26 M S hF hy) [.int (zi (M 49 v2))] [] (zFx_kd hF 48 rfl) ⟨_, rfl, by decide, rfl⟩ rfl rfl rfl (zcat (Nat.le_of_ble_eq_true rfl)) (Nat.le_of_ble_eq_true rfl) (Nat.le_of_ble_eq_true rfl) (Nat.le_of_ble_eq_true rfl) (Nat.le_of_ble_eq_true rfl) (fun hp28 => ?_)
            exact J_63 v2 hv2 M27 _ h hT
    exact main zN v2 hv2 M hl
  have J_22 : ∀ (v1 : Int) (hv1 : inR v1) (M : zM) (_ : F_X11_find_J22 v1 M = some (r, M')), zJ K g 0 0 22 4 [(0, zr g 48), (1, .int (zi v1))] [] M S := by
    intro v1 hv1 M h
    unfold F_X11_find_J22 at h
    refine j_aload_n hC 0 dX11_find_22 rfl rfl ?_
    refine j_iconst hC dX11_find_23 ?_
    obtain ⟨M29, eM29, h⟩ := zlet_ex h
    refine j_put hC dX11_find_24 f_X11_250 pF_X11 (zFx_kd hF 48 rfl) (Or.inl rfl) rfl 23 rfl (w_id kR_0) kR_0 eM29 ?_
    refine j_iconst hC dX11_find_27 ?_
    refine j_istore_n hC dX11_find_28 rfl (Nat.le_of_ble_eq_true rfl) rfl ?_
    refine j_sub [1, 2, 0] rfl ?_
    exact L_29 v1 0 hv1 kR_0 M29 h
  have L_2 : ∀ (v1 : Int) (v2 : Int) (hv1 : inR v1) (hv2 : inR v2) (M : zM) (_ : F_X11_find_L2 v1 v2 M = some (r, M')), zJ K g 0 0 2 4 [(0, zr g 48), (1, .int (zi v1)), (2, .int (zi v2))] [] M S := by
    intro v1 v2 hv1 hv2 M h
    unfold F_X11_find_L2 at h
    obtain ⟨ex2, hl, hd2⟩ := zb1_ex h
    obtain ⟨bd2, ebd⟩ : ∃ f, f = (fun (s : Int × zM) => F_X11_find_B2 v1 s.1 s.2) := ⟨_, rfl⟩
    rw [← ebd] at hl
    have main : ∀ (n2 : Nat) (v2 : Int) (hv2 : inR v2) (M : zM) (_ : zloop bd2 n2 (v2, M) = some ex2), zJ K g 0 0 2 4 [(0, zr g 48), (1, .int (zi v1)), (2, .int (zi v2))] [] M S := by
      intro n2
      induction n2 with
      | zero => intro v2 hv2 M hl; exact zloop_0 hl
      | succ n2 ih2 =>
        intro v2 hv2 M hl
        obtain ⟨o, h, hT⟩ := zloop_ex hl
        have h : F_X11_find_B2 v1 v2 M = some o := by rw [ebd] at h; exact h
        unfold F_X11_find_B2 at h
        refine j_iload_n hC 2 dX11_find_2 rfl rfl ?_
        refine j_sipush hC dX11_find_3 rfl ?_
        refine j_icmp_ge hC dX11_find_6 rfl (w_id hv2) (w_id kR_29524) (fun c30 => ?_) (fun c30 => ?_)
        · have h := zf c30 h
          obtain rfl := Option.some.inj h
          have hx2 := hd2
          rw [← show _ = ex2 from hT] at hx2
          refine j_sub [0, 1] rfl ?_
          exact J_22 v1 hv1 M hx2
        · have h := zt c30 h
          refine j_aload_n hC 0 dX11_find_9 rfl rfl ?_
          refine j_getq (q := 58) hC dX11_find_10 f_X11_49 (zFx_kd hF 48 rfl) rfl 22 rfl (zFx_rf hF 48 22 rfl) ?_
          refine j_iload_n hC 2 dX11_find_13 rfl rfl ?_
          refine j_iconst hC dX11_find_14 ?_
          obtain ⟨c31, h⟩ := zchk_ex h
          obtain ⟨M32, eM32, h⟩ := zlet_ex h
          refine j_zast (n := 29524) hC dX11_find_15 (w_id hv2) (w_id kR_0) zb01_0 (zFx_kd hF 58 rfl) (zFx_ln hF 58 rfl) c31.1 c31.2 eM32 ?_
          obtain ⟨x33, ex33, h⟩ := zlet_ex h
          have hx33 : inR x33 := by rw [ex33]; exact inR_w _
          refine j_iinc hC 2 dX11_find_16 rfl ex33 (Nat.le_of_ble_eq_true rfl) rfl ?_
          refine j_goto hC dX11_find_19 rfl ?_
          obtain rfl := Option.some.inj h
          refine j_sub [1, 2, 0] rfl ?_
          exact ih2 x33 hx33 M32 hT
    exact main zN v2 hv2 M hl
  refine j_iconst hC dX11_find_0 ?_
  refine j_istore_n hC dX11_find_1 rfl (Nat.le_of_ble_eq_true rfl) rfl ?_
  refine j_sub [1, 2, 0] rfl ?_
  exact L_2 v1 0 hv1 kR_0 M h
set_option maxHeartbeats 4000000 in
set_option maxRecDepth 100000 in
theorem c_X11_findAll (l : Launch) (hlt : l.stackTraces = false) (g : zG) (M : zM) (S : zS) (hF : zFx S) {r : Int} {M' : zM} (h : F_X11_findAll M = some (r, M')) : zMet l g yX11_findAll cX11_findAll 1 (some .boolean) 10 0 0 [zr g 48] M S (.inl (some (.int (zi r)))) M' S (inR r) := by
  refine zMet_of (by decide) hlt [(0, zr g 48)] rfl (Nat.le_of_ble_eq_true rfl) (fun K hC hE hN => ?_)
  unfold F_X11_findAll at h
  refine j_aload_n hC 0 dX11_findAll_0 rfl rfl ?_
  refine j_iconst hC dX11_findAll_1 ?_
  refine j_aload_n hC 0 dX11_findAll_2 rfl rfl ?_
  refine j_get hC dX11_findAll_3 f_X11_121 (zFx_kd hF 48 rfl) rfl 7 rfl (fun hg1 => ?_)
  refine j_ishl hC dX11_findAll_6 ?_
  refine j_iconst hC dX11_findAll_7 ?_
  refine j_isub hC dX11_findAll_8 ?_
  obtain ⟨r2, M3, hy, h⟩ := zb2_ex h
  refine j_callVi (ci := 8) hC hE lk_X11_275 dX11_findAll_9 (c_X11_find l hlt g (w ((zshl 1 (M 48 7)) - 1)) (inR_w _) M S hF hy) [.int (zi ((zshl 1 (M 48 7)) - 1))] [] (zFx_kd hF 48 rfl) ⟨_, rfl, by decide, rfl⟩ rfl (by simp only [zi_w, zl_wl]) rfl (zcat (Nat.le_of_ble_eq_true rfl)) (Nat.le_of_ble_eq_true rfl) (Nat.le_of_ble_eq_true rfl) (Nat.le_of_ble_eq_true rfl) (Nat.le_of_ble_eq_true rfl) (fun hp4 => ?_)
  have hr2 := hp4
  obtain ⟨c5, h⟩ := zchk_ex h
  obtain ⟨e1, e2⟩ := zpr2 (Option.some.inj h)
  exact j_iret hC hE dX11_findAll_12 (w_id hr2) (zn_z c5) (by rw [← e1]) e2 rfl (by rw [← e1]; exact hr2) (Nat.le_of_ble_eq_true rfl) (Nat.le_of_ble_eq_true rfl)
set_option maxHeartbeats 4000000 in
set_option maxRecDepth 100000 in
theorem c_X11_canInsert (l : Launch) (hlt : l.stackTraces = false) (g : zG) (v1 : Int) (v2 : Int) (hv1 : inR v1) (hv2 : inR v2) (M : zM) (S : zS) (hF : zFx S) {r : Int} {M' : zM} (h : F_X11_canInsert v1 v2 M = some (r, M')) : zMet l g yX11_canInsert cX11_canInsert 4 (some .boolean) 8 0 0 [zr g 48, .int (zi v1), .int (zi v2)] M S (.inl (some (.int (zi r)))) M' S (inR r) := by
  refine zMet_of (by decide) hlt [(0, zr g 48), (1, .int (zi v1)), (2, .int (zi v2))] rfl (Nat.le_of_ble_eq_true rfl) (fun K hC hE hN => ?_)
  unfold F_X11_canInsert at h
  have J_53 : ∀ (M : zM) (_ : F_X11_canInsert_J53 M = some (r, M')), zJ K g 0 0 53 4 [] [] M S := by
    intro M h
    unfold F_X11_canInsert_J53 at h
    refine j_iconst hC dX11_canInsert_53 ?_
    obtain ⟨e1, e2⟩ := zpr2 (Option.some.inj h)
    exact j_iret hC hE dX11_canInsert_54 (w_id kR_0) (zn_z zb01_0) (by rw [← e1]) e2 rfl (by rw [← e1]; exact kR_0) (Nat.le_of_ble_eq_true rfl) (Nat.le_of_ble_eq_true rfl)
  have J_45 : ∀ (M : zM) (_ : F_X11_canInsert_J45 M = some (r, M')), zJ K g 0 0 45 4 [] [] M S := by
    intro M h
    unfold F_X11_canInsert_J45 at h
    refine j_iconst hC dX11_canInsert_45 ?_
    obtain ⟨e1, e2⟩ := zpr2 (Option.some.inj h)
    exact j_iret hC hE dX11_canInsert_46 (w_id kR_1) (zn_z zb01_1) (by rw [← e1]) e2 rfl (by rw [← e1]; exact kR_1) (Nat.le_of_ble_eq_true rfl) (Nat.le_of_ble_eq_true rfl)
  have L_8 : ∀ (v2 : Int) (v3 : Int) (hv2 : inR v2) (hv3 : inR v3) (M : zM) (_ : F_X11_canInsert_L8 v2 v3 M = some (r, M')), zJ K g 0 0 8 4 [(0, zr g 48), (2, .int (zi v2)), (3, .int (zi v3))] [] M S := by
    intro v2 v3 hv2 hv3 M h
    unfold F_X11_canInsert_L8 at h
    obtain ⟨ex8, hl, hd8⟩ := zb1_ex h
    obtain ⟨bd8, ebd⟩ : ∃ f, f = (fun (s : Int) => F_X11_canInsert_B8 v2 s M) := ⟨_, rfl⟩
    rw [← ebd] at hl
    have main : ∀ (n8 : Nat) (v3 : Int) (hv3 : inR v3) (_ : zloop bd8 n8 v3 = some ex8), zJ K g 0 0 8 4 [(0, zr g 48), (2, .int (zi v2)), (3, .int (zi v3))] [] M S := by
      intro n8
      induction n8 with
      | zero => intro v3 hv3 hl; exact zloop_0 hl
      | succ n8 ih8 =>
        have J_47 : ∀ (v3 : Int) (hv3 : inR v3) (o : _) (_ : F_X11_canInsert_J47 v2 v3 M = some o), zAft (bd8) n8 ex8 o → zJ K g 0 0 47 4 [(0, zr g 48), (2, .int (zi v2)), (3, .int (zi v3))] [] M S := by
          intro v3 hv3 o h hT
          unfold F_X11_canInsert_J47 at h
          obtain ⟨x1, ex1, h⟩ := zlet_ex h
          have hx1 : inR x1 := by rw [ex1]; exact inR_w _
          refine j_iinc hC 2 dX11_canInsert_47 rfl ex1 (Nat.le_of_ble_eq_true rfl) rfl ?_
          refine j_goto hC dX11_canInsert_50 rfl ?_
          obtain rfl := Option.some.inj h
          refine j_sub [1, 2, 0] rfl ?_
          exact ih8 x1 hx1 hT
        intro v3 hv3 hl
        obtain ⟨o, h, hT⟩ := zloop_ex hl
        have h : F_X11_canInsert_B8 v2 v3 M = some o := by rw [ebd] at h; exact h
        unfold F_X11_canInsert_B8 at h
        refine j_iload_n hC 2 dX11_canInsert_8 rfl rfl ?_
        refine j_bipush hC dX11_canInsert_9 rfl ?_
        refine j_icmp_ge hC dX11_canInsert_11 rfl (w_id hv3) (w_id kR_100) (fun c2 => ?_) (fun c2 => ?_)
        · have h := zf c2 h
          obtain rfl := Option.some.inj h
          have hx8 := hd8
          rw [← show _ = ex8 from hT] at hx8
          dsimp only [Sum.elim] at hx8
          refine j_sub [] rfl ?_
          exact J_53 M hx8
        · have h := zt c2 h
          refine j_aload_n hC 0 dX11_canInsert_14 rfl rfl ?_
          refine j_iload_n hC 1 dX11_canInsert_15 rfl rfl ?_
          obtain ⟨r3, hy, h⟩ := zb1_ex h
          refine j_callVi (ci := 8) hC hE lk_X11_263 dX11_canInsert_16 (c_X11_hasRoom l hlt g v2 hv2 M S hF hy) [.int (zi v2)] [] (zFx_kd hF 48 rfl) ⟨_, rfl, by decide, rfl⟩ rfl rfl rfl (zcat (Nat.le_of_ble_eq_true rfl)) (Nat.le_of_ble_eq_true rfl) (Nat.le_of_ble_eq_true rfl) (Nat.le_of_ble_eq_true rfl) (Nat.le_of_ble_eq_true rfl) (fun hp4 => ?_)
          have hr3 := hp4
          refine j_if_eq hC dX11_canInsert_19 rfl (w_id hr3) (fun c5 => ?_) (fun c5 => ?_)
          · have h := zt c5 h
            obtain rfl := Option.some.inj h
            have hx8 := hd8
            rw [← show _ = ex8 from hT] at hx8
            dsimp only [Sum.elim] at hx8
            refine j_sub [] rfl ?_
            exact J_53 M hx8
          · have h := zf c5 h
            refine j_aload_n hC 0 dX11_canInsert_22 rfl rfl ?_
            refine j_iload_n hC 2 dX11_canInsert_23 rfl rfl ?_
            obtain ⟨r6, hy, h⟩ := zb1_ex h
            refine j_callVi (ci := 8) hC hE lk_X11_266 dX11_canInsert_24 (c_X11_isFactor l hlt g v3 hv3 M S hF hy) [.int (zi v3)] [] (zFx_kd hF 48 rfl) ⟨_, rfl, by decide, rfl⟩ rfl rfl rfl (zcat (Nat.le_of_ble_eq_true rfl)) (Nat.le_of_ble_eq_true rfl) (Nat.le_of_ble_eq_true rfl) (Nat.le_of_ble_eq_true rfl) (Nat.le_of_ble_eq_true rfl) (fun hp7 => ?_)
            have hr6 := hp7
            refine j_if_eq hC dX11_canInsert_27 rfl (w_id hr6) (fun c8 => ?_) (fun c8 => ?_)
            · have h := zt c8 h
              exact J_47 v3 hv3 _ h hT
            · have h := zf c8 h
              refine j_aload_n hC 0 dX11_canInsert_30 rfl rfl ?_
              refine j_iload_n hC 2 dX11_canInsert_31 rfl rfl ?_
              refine j_bipush hC dX11_canInsert_32 rfl ?_
              refine j_idiv hC dX11_canInsert_34 (w_id kR_10) (by decide) ?_
              refine j_iload_n hC 2 dX11_canInsert_35 rfl rfl ?_
              refine j_bipush hC dX11_canInsert_36 rfl ?_
              refine j_irem hC dX11_canInsert_38 (w_id kR_10) (by decide) ?_
              obtain ⟨r9, hy, h⟩ := zb1_ex h
              refine j_callVi (ci := 8) hC hE lk_X11_269 dX11_canInsert_39 (c_X11_isSelected l hlt g (zdiv v3 10) (zrem v3 10) (cR_zdiv _ _) (cR_zrem _ _) M S hF hy) [.int (zi (zdiv v3 10)), .int (zi (zrem v3 10))] [] (zFx_kd hF 48 rfl) ⟨_, rfl, by decide, rfl⟩ rfl rfl rfl (zcat (Nat.le_of_ble_eq_true rfl)) (Nat.le_of_ble_eq_true rfl) (Nat.le_of_ble_eq_true rfl) (Nat.le_of_ble_eq_true rfl) (Nat.le_of_ble_eq_true rfl) (fun hp10 => ?_)
              have hr9 := hp10
              refine j_if_eq hC dX11_canInsert_42 rfl (w_id hr9) (fun c11 => ?_) (fun c11 => ?_)
              · have h := zt c11 h
                exact J_47 v3 hv3 _ h hT
              · have h := zf c11 h
                obtain rfl := Option.some.inj h
                have hx8 := hd8
                rw [← show _ = ex8 from hT] at hx8
                dsimp only [Sum.elim] at hx8
                refine j_sub [] rfl ?_
                exact J_45 M hx8
    exact main zN v3 hv3 hl
  refine j_aload_n hC 0 dX11_canInsert_0 rfl rfl ?_
  refine j_iload_n hC 1 dX11_canInsert_1 rfl rfl ?_
  refine j_iload_n hC 2 dX11_canInsert_2 rfl rfl ?_
  obtain ⟨M12, hy, h⟩ := zb1_ex h
  refine j_callVv (ci := 8) hC hE lk_X11_260 dX11_canInsert_3 (c_X11_fit l hlt g v1 v2 hv1 hv2 M S hF hy) [.int (zi v1), .int (zi v2)] [] (zFx_kd hF 48 rfl) ⟨_, rfl, by decide, rfl⟩ rfl rfl rfl (zcat (Nat.le_of_ble_eq_true rfl)) (Nat.le_of_ble_eq_true rfl) (Nat.le_of_ble_eq_true rfl) (Nat.le_of_ble_eq_true rfl) (Nat.le_of_ble_eq_true rfl) (fun hp13 => ?_)
  refine j_iconst hC dX11_canInsert_6 ?_
  refine j_istore_n hC dX11_canInsert_7 rfl (Nat.le_of_ble_eq_true rfl) rfl ?_
  refine j_sub [1, 3, 0] rfl ?_
  exact L_8 v2 0 hv2 kR_0 M12 h
set_option maxHeartbeats 4000000 in
set_option maxRecDepth 100000 in
theorem c_X11_size (l : Launch) (hlt : l.stackTraces = false) (g : zG) (M : zM) (S : zS) (hF : zFx S) {r : Int} {M' : zM} (h : F_X11_size M = some (r, M')) : zMet l g yX11_size cX11_size 1 (some .int) 11 0 0 [zr g 48] M S (.inl (some (.int (zi r)))) M' S (inR r) := by
  refine zMet_of (by decide) hlt [(0, zr g 48)] rfl (Nat.le_of_ble_eq_true rfl) (fun K hC hE hN => ?_)
  unfold F_X11_size at h
  refine j_aload_n hC 0 dX11_size_0 rfl rfl ?_
  refine j_iconst hC dX11_size_1 ?_
  obtain ⟨M1, eM1, h⟩ := zlet_ex h
  refine j_put hC dX11_size_2 f_X11_104 pF_X11 (zFx_kd hF 48 rfl) (Or.inl rfl) rfl 0 rfl (w_id kR_0) kR_0 eM1 ?_
  refine j_aload_n hC 0 dX11_size_5 rfl rfl ?_
  obtain ⟨r2, M3, hy, h⟩ := zb2_ex h
  refine j_callVi (ci := 8) hC hE lk_X11_278 dX11_size_6 (c_X11_findAll l hlt g M1 S hF hy) [] [] (zFx_kd hF 48 rfl) ⟨_, rfl, by decide, rfl⟩ rfl rfl rfl (zcat (Nat.le_of_ble_eq_true rfl)) (Nat.le_of_ble_eq_true rfl) (Nat.le_of_ble_eq_true rfl) (Nat.le_of_ble_eq_true rfl) (Nat.le_of_ble_eq_true rfl) (fun hp4 => ?_)
  have hr2 := hp4
  refine j_if_eq hC dX11_size_9 rfl (w_id hr2) (fun c5 => ?_) (fun c5 => ?_)
  · have h := zt c5 h
    refine j_aload_n hC 0 dX11_size_19 rfl rfl ?_
    refine j_iconst hC dX11_size_20 ?_
    obtain ⟨r6, M7, hy, h⟩ := zb2_ex h
    refine j_callVi (ci := 8) hC hE lk_X11_134 dX11_size_21 (c_X11_fail l hlt g 1 kR_1 M3 S hF hy) [.int (zi 1)] [] (zFx_kd hF 48 rfl) ⟨_, rfl, by decide, rfl⟩ rfl rfl rfl (zcat (Nat.le_of_ble_eq_true rfl)) (Nat.le_of_ble_eq_true rfl) (Nat.le_of_ble_eq_true rfl) (Nat.le_of_ble_eq_true rfl) (Nat.le_of_ble_eq_true rfl) (fun hp8 => ?_)
    have hr6 := hp8
    obtain ⟨e1, e2⟩ := zpr2 (Option.some.inj h)
    exact j_iret hC hE dX11_size_24 (w_id hr6) (zn_i _) (by rw [← e1]) e2 rfl (by rw [← e1]; exact hr6) (Nat.le_of_ble_eq_true rfl) (Nat.le_of_ble_eq_true rfl)
  · have h := zf c5 h
    refine j_aload_n hC 0 dX11_size_12 rfl rfl ?_
    refine j_get hC dX11_size_13 f_X11_250 (zFx_kd hF 48 rfl) rfl 23 rfl (fun hg9 => ?_)
    refine j_goto hC dX11_size_16 rfl ?_
    obtain ⟨e1, e2⟩ := zpr2 (Option.some.inj h)
    exact j_iret hC hE dX11_size_24 (w_id hg9) (zn_i _) (by rw [← e1]) e2 rfl (by rw [← e1]; exact hg9) (Nat.le_of_ble_eq_true rfl) (Nat.le_of_ble_eq_true rfl)
set_option maxHeartbeats 4000000 in
set_option maxRecDepth 100000 in
theorem c_X11_countOf (l : Launch) (hlt : l.stackTraces = false) (g : zG) (v1 : Int) (hv1 : inR v1) (M : zM) (S : zS) (hF : zFx S) {r : Int} (h : F_X11_countOf v1 M = some r) : zMet l g yX11_countOf cX11_countOf 4 (some .int) 3 0 0 [zr g 48, .int (zi v1)] M S (.inl (some (.int (zi r)))) M S (inR r) := by
  refine zMet_of (by decide) hlt [(0, zr g 48), (1, .int (zi v1))] rfl (Nat.le_of_ble_eq_true rfl) (fun K hC hE hN => ?_)
  unfold F_X11_countOf at h
  have J_40 : ∀ (v2 : Int) (hv2 : inR v2) (_ : F_X11_countOf_J40 v2 M = some r), zJ K g 0 0 40 4 [(2, .int (zi v2))] [] M S := by
    intro v2 hv2 h
    unfold F_X11_countOf_J40 at h
    refine j_iload_n hC 0 dX11_countOf_40 rfl rfl ?_
    have e1 := Option.some.inj h
    exact j_iret hC hE dX11_countOf_41 (w_id hv2) (zn_i _) (by rw [← e1]) rfl rfl (by rw [← e1]; exact hv2) (Nat.le_of_ble_eq_true rfl) (Nat.le_of_ble_eq_true rfl)
  have L_7 : ∀ (v1 : Int) (v2 : Int) (v3 : Int) (hv1 : inR v1) (hv2 : inR v2) (hv3 : inR v3) (_ : F_X11_countOf_L7 v1 v2 v3 M = some r), zJ K g 0 0 7 4 [(0, zr g 48), (1, .int (zi v1)), (2, .int (zi v2)), (3, .int (zi v3))] [] M S := by
    intro v1 v2 v3 hv1 hv2 hv3 h
    unfold F_X11_countOf_L7 at h
    obtain ⟨ex7, hl, hd7⟩ := zb1_ex h
    obtain ⟨bd7, ebd⟩ : ∃ f, f = (fun (s : Int × Int) => F_X11_countOf_B7 v1 s.1 s.2 M) := ⟨_, rfl⟩
    rw [← ebd] at hl
    have main : ∀ (n7 : Nat) (v2 : Int) (v3 : Int) (hv2 : inR v2) (hv3 : inR v3) (_ : zloop bd7 n7 (v2, v3) = some ex7), zJ K g 0 0 7 4 [(0, zr g 48), (1, .int (zi v1)), (2, .int (zi v2)), (3, .int (zi v3))] [] M S := by
      intro n7
      induction n7 with
      | zero => intro v2 v3 hv2 hv3 hl; exact zloop_0 hl
      | succ n7 ih7 =>
        have J_32 : ∀ (v3 : Int) (t0 : Int) (t1 : Int) (hv3 : inR v3) (ht0 : inR t0) (ht1 : inR t1) (o : _) (_ : F_X11_countOf_J32 v1 v3 t0 t1 M = some o), zAft (bd7) n7 ex7 o → zJ K g 0 0 32 4 [(0, zr g 48), (1, .int (zi v1)), (3, .int (zi v3))] [.int (zi t1), .int (zi t0)] M S := by
          intro v3 t0 t1 hv3 ht0 ht1 o h hT
          unfold F_X11_countOf_J32 at h
          refine j_iadd hC dX11_countOf_32 ?_
          obtain ⟨x1, ex1, h⟩ := zlet_ex h
          have hx1 : inR x1 := by rw [ex1]; exact inR_w _
          refine j_namei ex1 ?_
          refine j_istore_n hC dX11_countOf_33 rfl (Nat.le_of_ble_eq_true rfl) rfl ?_
          obtain ⟨x2, ex2, h⟩ := zlet_ex h
          have hx2 : inR x2 := by rw [ex2]; exact inR_w _
          refine j_iinc hC 3 dX11_countOf_34 rfl ex2 (Nat.le_of_ble_eq_true rfl) rfl ?_
          refine j_goto hC dX11_countOf_37 rfl ?_
          obtain rfl := Option.some.inj h
          refine j_sub [2, 3, 1, 0] rfl ?_
          exact ih7 x1 x2 hx1 hx2 hT
        intro v2 v3 hv2 hv3 hl
        obtain ⟨o, h, hT⟩ := zloop_ex hl
        have h : F_X11_countOf_B7 v1 v2 v3 M = some o := by rw [ebd] at h; exact h
        unfold F_X11_countOf_B7 at h
        refine j_iload_n hC 3 dX11_countOf_7 rfl rfl ?_
        refine j_iload_n hC 1 dX11_countOf_8 rfl rfl ?_
        refine j_iconst hC dX11_countOf_9 ?_
        refine j_iadd hC dX11_countOf_10 ?_
        obtain ⟨r3, hy, h⟩ := zb1_ex h
        refine j_callSi hC hE lk_X11_111 dX11_countOf_11 (c_X11_first l hlt g (w (v1 + 1)) (inR_w _) M S hy) [.int (zi (v1 + 1))] [.int (zi v3)] rfl (by simp only [zi_w, zl_wl]) rfl (zcat (Nat.le_of_ble_eq_true rfl)) (Nat.le_of_ble_eq_true rfl) (Nat.le_of_ble_eq_true rfl) (Nat.le_of_ble_eq_true rfl) (Nat.le_of_ble_eq_true rfl) (fun hp4 => ?_)
        have hr3 := hp4
        refine j_icmp_ge hC dX11_countOf_14 rfl (w_id hv3) (w_id hr3) (fun c5 => ?_) (fun c5 => ?_)
        · have h := zf c5 h
          obtain rfl := Option.some.inj h
          have hx7 := hd7
          rw [← show _ = ex7 from hT] at hx7
          refine j_sub [2] rfl ?_
          exact J_40 v2 hv2 hx7
        · have h := zt c5 h
          refine j_iload_n hC 2 dX11_countOf_17 rfl rfl ?_
          refine j_aload_n hC 0 dX11_countOf_18 rfl rfl ?_
          refine j_getq (q := 58) hC dX11_countOf_19 f_X11_49 (zFx_kd hF 48 rfl) rfl 22 rfl (zFx_rf hF 48 22 rfl) ?_
          refine j_iload_n hC 3 dX11_countOf_22 rfl rfl ?_
          obtain ⟨c6, h⟩ := zchk_ex h
          refine j_zald (n := 29524) hC dX11_countOf_23 (w_id hv3) (zFx_kd hF 58 rfl) (zFx_ln hF 58 rfl) c6.1 c6.2 (fun hg7 => ?_)
          refine j_if_eq hC dX11_countOf_24 rfl (w_id (inR_b hg7)) (fun c8 => ?_) (fun c8 => ?_)
          · have h := zt c8 h
            refine j_iconst hC dX11_countOf_31 ?_
            refine j_sub [0, 1, 3] rfl ?_
            exact J_32 v3 v2 0 hv3 hv2 kR_0 _ h hT
          · have h := zf c8 h
            refine j_iconst hC dX11_countOf_27 ?_
            refine j_goto hC dX11_countOf_28 rfl ?_
            refine j_sub [0, 1, 3] rfl ?_
            exact J_32 v3 v2 1 hv3 hv2 kR_1 _ h hT
    exact main zN v2 v3 hv2 hv3 hl
  refine j_iconst hC dX11_countOf_0 ?_
  refine j_istore_n hC dX11_countOf_1 rfl (Nat.le_of_ble_eq_true rfl) rfl ?_
  refine j_iload_n hC 2 dX11_countOf_2 rfl rfl ?_
  obtain ⟨r9, hy, h⟩ := zb1_ex h
  refine j_callSi hC hE lk_X11_111 dX11_countOf_3 (c_X11_first l hlt g v1 hv1 M S hy) [.int (zi v1)] [] rfl rfl rfl (zcat (Nat.le_of_ble_eq_true rfl)) (Nat.le_of_ble_eq_true rfl) (Nat.le_of_ble_eq_true rfl) (Nat.le_of_ble_eq_true rfl) (Nat.le_of_ble_eq_true rfl) (fun hp10 => ?_)
  have hr9 := hp10
  refine j_istore_n hC dX11_countOf_6 rfl (Nat.le_of_ble_eq_true rfl) rfl ?_
  refine j_sub [2, 3, 1, 0] rfl ?_
  exact L_7 v1 0 r9 hv1 kR_0 hr9 h
set_option maxHeartbeats 4000000 in
set_option maxRecDepth 100000 in
theorem c_X11_sizeOf (l : Launch) (hlt : l.stackTraces = false) (g : zG) (v1 : Int) (hv1 : inR v1) (M : zM) (S : zS) (hF : zFx S) {r : Int} {M' : zM} (h : F_X11_sizeOf v1 M = some (r, M')) : zMet l g yX11_sizeOf cX11_sizeOf 2 (some .int) 11 0 0 [zr g 48, .int (zi v1)] M S (.inl (some (.int (zi r)))) M' S (inR r) := by
  refine zMet_of (by decide) hlt [(0, zr g 48), (1, .int (zi v1))] rfl (Nat.le_of_ble_eq_true rfl) (fun K hC hE hN => ?_)
  unfold F_X11_sizeOf at h
  refine j_aload_n hC 0 dX11_sizeOf_0 rfl rfl ?_
  refine j_iconst hC dX11_sizeOf_1 ?_
  obtain ⟨M1, eM1, h⟩ := zlet_ex h
  refine j_put hC dX11_sizeOf_2 f_X11_104 pF_X11 (zFx_kd hF 48 rfl) (Or.inl rfl) rfl 0 rfl (w_id kR_0) kR_0 eM1 ?_
  refine j_iload_n hC 1 dX11_sizeOf_5 rfl rfl ?_
  refine j_iconst hC dX11_sizeOf_6 ?_
  refine j_aload_n hC 0 dX11_sizeOf_7 rfl rfl ?_
  refine j_get hC dX11_sizeOf_8 f_X11_29 (zFx_kd hF 48 rfl) rfl 9 rfl (fun hg2 => ?_)
  obtain ⟨r3, hy, h⟩ := zb1_ex h
  refine j_callSi hC hE lk_X11_124 dX11_sizeOf_11 (c_X11_isIn l hlt g v1 0 (M1 48 9) hv1 kR_0 hg2 M1 S hy) [.int (zi v1), .int (zi 0), .int (zi (M1 48 9))] [] rfl rfl rfl (zcat (Nat.le_of_ble_eq_true rfl)) (Nat.le_of_ble_eq_true rfl) (Nat.le_of_ble_eq_true rfl) (Nat.le_of_ble_eq_true rfl) (Nat.le_of_ble_eq_true rfl) (fun hp4 => ?_)
  have hr3 := hp4
  refine j_if_ne hC dX11_sizeOf_14 rfl (w_id hr3) (fun c5 => ?_) (fun c5 => ?_)
  · have h := zf c5 h
    refine j_aload_n hC 0 dX11_sizeOf_23 rfl rfl ?_
    obtain ⟨r6, M7, hy, h⟩ := zb2_ex h
    refine j_callVi (ci := 8) hC hE lk_X11_278 dX11_sizeOf_24 (c_X11_findAll l hlt g M1 S hF hy) [] [] (zFx_kd hF 48 rfl) ⟨_, rfl, by decide, rfl⟩ rfl rfl rfl (zcat (Nat.le_of_ble_eq_true rfl)) (Nat.le_of_ble_eq_true rfl) (Nat.le_of_ble_eq_true rfl) (Nat.le_of_ble_eq_true rfl) (Nat.le_of_ble_eq_true rfl) (fun hp8 => ?_)
    have hr6 := hp8
    refine j_if_eq hC dX11_sizeOf_27 rfl (w_id hr6) (fun c9 => ?_) (fun c9 => ?_)
    · have h := zt c9 h
      refine j_aload_n hC 0 dX11_sizeOf_38 rfl rfl ?_
      refine j_iconst hC dX11_sizeOf_39 ?_
      obtain ⟨r10, M11, hy, h⟩ := zb2_ex h
      refine j_callVi (ci := 8) hC hE lk_X11_134 dX11_sizeOf_40 (c_X11_fail l hlt g 2 kR_2 M7 S hF hy) [.int (zi 2)] [] (zFx_kd hF 48 rfl) ⟨_, rfl, by decide, rfl⟩ rfl rfl rfl (zcat (Nat.le_of_ble_eq_true rfl)) (Nat.le_of_ble_eq_true rfl) (Nat.le_of_ble_eq_true rfl) (Nat.le_of_ble_eq_true rfl) (Nat.le_of_ble_eq_true rfl) (fun hp12 => ?_)
      have hr10 := hp12
      obtain ⟨e1, e2⟩ := zpr2 (Option.some.inj h)
      exact j_iret hC hE dX11_sizeOf_43 (w_id hr10) (zn_i _) (by rw [← e1]) e2 rfl (by rw [← e1]; exact hr10) (Nat.le_of_ble_eq_true rfl) (Nat.le_of_ble_eq_true rfl)
    · have h := zf c9 h
      refine j_aload_n hC 0 dX11_sizeOf_30 rfl rfl ?_
      refine j_iload_n hC 1 dX11_sizeOf_31 rfl rfl ?_
      obtain ⟨r13, hy, h⟩ := zb1_ex h
      refine j_callVi (ci := 8) hC hE lk_X11_281 dX11_sizeOf_32 (c_X11_countOf l hlt g v1 hv1 M7 S hF hy) [.int (zi v1)] [] (zFx_kd hF 48 rfl) ⟨_, rfl, by decide, rfl⟩ rfl rfl rfl (zcat (Nat.le_of_ble_eq_true rfl)) (Nat.le_of_ble_eq_true rfl) (Nat.le_of_ble_eq_true rfl) (Nat.le_of_ble_eq_true rfl) (Nat.le_of_ble_eq_true rfl) (fun hp14 => ?_)
      have hr13 := hp14
      refine j_goto hC dX11_sizeOf_35 rfl ?_
      obtain ⟨e1, e2⟩ := zpr2 (Option.some.inj h)
      exact j_iret hC hE dX11_sizeOf_43 (w_id hr13) (zn_i _) (by rw [← e1]) e2 rfl (by rw [← e1]; exact hr13) (Nat.le_of_ble_eq_true rfl) (Nat.le_of_ble_eq_true rfl)
  · have h := zt c5 h
    refine j_aload_n hC 0 dX11_sizeOf_17 rfl rfl ?_
    refine j_iconst hC dX11_sizeOf_18 ?_
    obtain ⟨r15, M16, hy, h⟩ := zb2_ex h
    refine j_callVi (ci := 8) hC hE lk_X11_134 dX11_sizeOf_19 (c_X11_fail l hlt g 1 kR_1 M1 S hF hy) [.int (zi 1)] [] (zFx_kd hF 48 rfl) ⟨_, rfl, by decide, rfl⟩ rfl rfl rfl (zcat (Nat.le_of_ble_eq_true rfl)) (Nat.le_of_ble_eq_true rfl) (Nat.le_of_ble_eq_true rfl) (Nat.le_of_ble_eq_true rfl) (Nat.le_of_ble_eq_true rfl) (fun hp17 => ?_)
    have hr15 := hp17
    obtain ⟨e1, e2⟩ := zpr2 (Option.some.inj h)
    exact j_iret hC hE dX11_sizeOf_22 (w_id hr15) (zn_i _) (by rw [← e1]) e2 rfl (by rw [← e1]; exact hr15) (Nat.le_of_ble_eq_true rfl) (Nat.le_of_ble_eq_true rfl)
set_option maxHeartbeats 4000000 in
set_option maxRecDepth 100000 in
theorem c_X11_density (l : Launch) (hlt : l.stackTraces = false) (g : zG) (v1 : Int) (hv1 : inR v1) (M : zM) (S : zS) (hF : zFx S) {r : UInt64} {M' : zM} (h : F_X11_density v1 M = some (r, M')) : zMet l g yX11_density cX11_density 3 (some .double) 12 0 0 [zr g 48, .int (zi v1)] M S (.inl (some (.double r))) M' S (True) := by
  refine zMet_of (by decide) hlt [(0, zr g 48), (1, .int (zi v1))] rfl (Nat.le_of_ble_eq_true rfl) (fun K hC hE hN => ?_)
  unfold F_X11_density at h
  refine j_aload_n hC 0 dX11_density_0 rfl rfl ?_
  refine j_iload_n hC 1 dX11_density_1 rfl rfl ?_
  obtain ⟨r1, M2, hy, h⟩ := zb2_ex h
  refine j_callVi (ci := 8) hC hE lk_X11_284 dX11_density_2 (c_X11_sizeOf l hlt g v1 hv1 M S hF hy) [.int (zi v1)] [] (zFx_kd hF 48 rfl) ⟨_, rfl, by decide, rfl⟩ rfl rfl rfl (zcat (Nat.le_of_ble_eq_true rfl)) (Nat.le_of_ble_eq_true rfl) (Nat.le_of_ble_eq_true rfl) (Nat.le_of_ble_eq_true rfl) (Nat.le_of_ble_eq_true rfl) (fun hp3 => ?_)
  have hr1 := hp3
  refine j_istore_n hC dX11_density_5 rfl (Nat.le_of_ble_eq_true rfl) rfl ?_
  refine j_aload_n hC 1 dX11_density_6 rfl rfl ?_
  refine j_get hC dX11_density_7 f_X11_104 (zFx_kd hF 48 rfl) rfl 0 rfl (fun hg4 => ?_)
  refine j_if_ne hC dX11_density_10 rfl (w_id hg4) (fun c5 => ?_) (fun c5 => ?_)
  · have h := zf c5 h
    refine j_dconst0 hC dX11_density_24 ?_
    obtain ⟨e1, e2⟩ := zpr2 (Option.some.inj h)
    exact j_dret hC hE dX11_density_25 (by rw [← e1]) e2 rfl trivial (Nat.le_of_ble_eq_true rfl) (Nat.le_of_ble_eq_true rfl)
  · have h := zt c5 h
    refine j_iload_n hC 0 dX11_density_13 rfl rfl ?_
    refine j_i2d hC dX11_density_14 ?_
    refine j_iload_n hC 2 dX11_density_15 rfl rfl ?_
    obtain ⟨r6, hy, h⟩ := zb1_ex h
    refine j_callSi hC hE lk_X11_107 dX11_density_16 (c_X11_power l hlt g v1 hv1 M2 S hy) [.int (zi v1)] [.double (FP.i2d (zi r1))] rfl rfl rfl (zcat (Nat.le_of_ble_eq_true rfl)) (Nat.le_of_ble_eq_true rfl) (Nat.le_of_ble_eq_true rfl) (Nat.le_of_ble_eq_true rfl) (Nat.le_of_ble_eq_true rfl) (fun hp7 => ?_)
    have hr6 := hp7
    refine j_i2d hC dX11_density_19 ?_
    obtain ⟨c8, h⟩ := zchkP_ex h
    refine j_ddiv hC dX11_density_20 c8 ?_
    refine j_goto hC dX11_density_21 rfl ?_
    obtain ⟨e1, e2⟩ := zpr2 (Option.some.inj h)
    exact j_dret hC hE dX11_density_25 (by rw [← e1]) e2 rfl trivial (Nat.le_of_ble_eq_true rfl) (Nat.le_of_ble_eq_true rfl)
set_option maxHeartbeats 4000000 in
set_option maxRecDepth 100000 in
theorem c_X11_isUsedIn (l : Launch) (hlt : l.stackTraces = false) (g : zG) (v1 : Int) (hv1 : inR v1) (M : zM) (S : zS) (hF : zFx S) {r : Int} {M' : zM} (h : F_X11_isUsedIn v1 M = some (r, M')) : zMet l g yX11_isUsedIn cX11_isUsedIn 3 (some .boolean) 9 0 0 [zr g 48, .int (zi v1)] M S (.inl (some (.int (zi r)))) M' S (inR r) := by
  refine zMet_of (by decide) hlt [(0, zr g 48), (1, .int (zi v1))] rfl (Nat.le_of_ble_eq_true rfl) (fun K hC hE hN => ?_)
  unfold F_X11_isUsedIn at h
  have J_35 : ∀ (M : zM) (_ : F_X11_isUsedIn_J35 M = some (r, M')), zJ K g 0 0 35 3 [] [] M S := by
    intro M h
    unfold F_X11_isUsedIn_J35 at h
    refine j_iconst hC dX11_isUsedIn_35 ?_
    obtain ⟨e1, e2⟩ := zpr2 (Option.some.inj h)
    exact j_iret hC hE dX11_isUsedIn_36 (w_id kR_0) (zn_z zb01_0) (by rw [← e1]) e2 rfl (by rw [← e1]; exact kR_0) (Nat.le_of_ble_eq_true rfl) (Nat.le_of_ble_eq_true rfl)
  have J_27 : ∀ (M : zM) (_ : F_X11_isUsedIn_J27 M = some (r, M')), zJ K g 0 0 27 3 [] [] M S := by
    intro M h
    unfold F_X11_isUsedIn_J27 at h
    refine j_iconst hC dX11_isUsedIn_27 ?_
    obtain ⟨e1, e2⟩ := zpr2 (Option.some.inj h)
    exact j_iret hC hE dX11_isUsedIn_28 (w_id kR_1) (zn_z zb01_1) (by rw [← e1]) e2 rfl (by rw [← e1]; exact kR_1) (Nat.le_of_ble_eq_true rfl) (Nat.le_of_ble_eq_true rfl)
  have L_2 : ∀ (v1 : Int) (v2 : Int) (hv1 : inR v1) (hv2 : inR v2) (M : zM) (_ : F_X11_isUsedIn_L2 v1 v2 M = some (r, M')), zJ K g 0 0 2 3 [(0, zr g 48), (1, .int (zi v1)), (2, .int (zi v2))] [] M S := by
    intro v1 v2 hv1 hv2 M h
    unfold F_X11_isUsedIn_L2 at h
    obtain ⟨ex2, hl, hd2⟩ := zb1_ex h
    obtain ⟨bd2, ebd⟩ : ∃ f, f = (fun (s : Int × zM) => F_X11_isUsedIn_B2 v1 s.1 s.2) := ⟨_, rfl⟩
    rw [← ebd] at hl
    have main : ∀ (n2 : Nat) (v2 : Int) (hv2 : inR v2) (M : zM) (_ : zloop bd2 n2 (v2, M) = some ex2), zJ K g 0 0 2 3 [(0, zr g 48), (1, .int (zi v1)), (2, .int (zi v2))] [] M S := by
      intro n2
      induction n2 with
      | zero => intro v2 hv2 M hl; exact zloop_0 hl
      | succ n2 ih2 =>
        have J_29 : ∀ (v2 : Int) (hv2 : inR v2) (M : zM) (o : _) (_ : F_X11_isUsedIn_J29 v1 v2 M = some o), zAft (bd2) n2 ex2 o → zJ K g 0 0 29 3 [(0, zr g 48), (1, .int (zi v1)), (2, .int (zi v2))] [] M S := by
          intro v2 hv2 M o h hT
          unfold F_X11_isUsedIn_J29 at h
          obtain ⟨x1, ex1, h⟩ := zlet_ex h
          have hx1 : inR x1 := by rw [ex1]; exact inR_w _
          refine j_iinc hC 2 dX11_isUsedIn_29 rfl ex1 (Nat.le_of_ble_eq_true rfl) rfl ?_
          refine j_goto hC dX11_isUsedIn_32 rfl ?_
          obtain rfl := Option.some.inj h
          refine j_sub [1, 2, 0] rfl ?_
          exact ih2 x1 hx1 M hT
        intro v2 hv2 M hl
        obtain ⟨o, h, hT⟩ := zloop_ex hl
        have h : F_X11_isUsedIn_B2 v1 v2 M = some o := by rw [ebd] at h; exact h
        unfold F_X11_isUsedIn_B2 at h
        refine j_iload_n hC 2 dX11_isUsedIn_2 rfl rfl ?_
        refine j_sipush hC dX11_isUsedIn_3 rfl ?_
        refine j_icmp_ge hC dX11_isUsedIn_6 rfl (w_id hv2) (w_id kR_29524) (fun c2 => ?_) (fun c2 => ?_)
        · have h := zf c2 h
          obtain rfl := Option.some.inj h
          have hx2 := hd2
          rw [← show _ = ex2 from hT] at hx2
          dsimp only [Sum.elim] at hx2
          refine j_sub [] rfl ?_
          exact J_35 M hx2
        · have h := zt c2 h
          refine j_aload_n hC 0 dX11_isUsedIn_9 rfl rfl ?_
          refine j_getq (q := 58) hC dX11_isUsedIn_10 f_X11_49 (zFx_kd hF 48 rfl) rfl 22 rfl (zFx_rf hF 48 22 rfl) ?_
          refine j_iload_n hC 2 dX11_isUsedIn_13 rfl rfl ?_
          obtain ⟨c3, h⟩ := zchk_ex h
          refine j_zald (n := 29524) hC dX11_isUsedIn_14 (w_id hv2) (zFx_kd hF 58 rfl) (zFx_ln hF 58 rfl) c3.1 c3.2 (fun hg4 => ?_)
          refine j_if_eq hC dX11_isUsedIn_15 rfl (w_id (inR_b hg4)) (fun c5 => ?_) (fun c5 => ?_)
          · have h := zt c5 h
            exact J_29 v2 hv2 M _ h hT
          · have h := zf c5 h
            refine j_aload_n hC 0 dX11_isUsedIn_18 rfl rfl ?_
            refine j_iload_n hC 2 dX11_isUsedIn_19 rfl rfl ?_
            refine j_iload_n hC 1 dX11_isUsedIn_20 rfl rfl ?_
            obtain ⟨r6, M7, hy, h⟩ := zb2_ex h
            refine j_callVi (ci := 8) hC hE lk_X11_287 dX11_isUsedIn_21 (c_X11_canInsert l hlt g v2 v1 hv2 hv1 M S hF hy) [.int (zi v2), .int (zi v1)] [] (zFx_kd hF 48 rfl) ⟨_, rfl, by decide, rfl⟩ rfl rfl rfl (zcat (Nat.le_of_ble_eq_true rfl)) (Nat.le_of_ble_eq_true rfl) (Nat.le_of_ble_eq_true rfl) (Nat.le_of_ble_eq_true rfl) (Nat.le_of_ble_eq_true rfl) (fun hp8 => ?_)
            have hr6 := hp8
            refine j_if_eq hC dX11_isUsedIn_24 rfl (w_id hr6) (fun c9 => ?_) (fun c9 => ?_)
            · have h := zt c9 h
              exact J_29 v2 hv2 M7 _ h hT
            · have h := zf c9 h
              obtain rfl := Option.some.inj h
              have hx2 := hd2
              rw [← show _ = ex2 from hT] at hx2
              dsimp only [Sum.elim] at hx2
              refine j_sub [] rfl ?_
              exact J_27 M7 hx2
    exact main zN v2 hv2 M hl
  refine j_iconst hC dX11_isUsedIn_0 ?_
  refine j_istore_n hC dX11_isUsedIn_1 rfl (Nat.le_of_ble_eq_true rfl) rfl ?_
  refine j_sub [1, 2, 0] rfl ?_
  exact L_2 v1 0 hv1 kR_0 M h
set_option maxHeartbeats 4000000 in
set_option maxRecDepth 100000 in
theorem c_X11_isUsed (l : Launch) (hlt : l.stackTraces = false) (g : zG) (v1 : Int) (hv1 : inR v1) (M : zM) (S : zS) (hF : zFx S) {r : Int} {M' : zM} (h : F_X11_isUsed v1 M = some (r, M')) : zMet l g yX11_isUsed cX11_isUsed 2 (some .boolean) 11 0 0 [zr g 48, .int (zi v1)] M S (.inl (some (.int (zi r)))) M' S (inR r) := by
  refine zMet_of (by decide) hlt [(0, zr g 48), (1, .int (zi v1))] rfl (Nat.le_of_ble_eq_true rfl) (fun K hC hE hN => ?_)
  unfold F_X11_isUsed at h
  have J_34 : ∀ (t1 : Int) (ht1 : inR t1) (M : zM) (_ : F_X11_isUsed_J34 t1 M = some (r, M')), zJ K g 0 0 34 2 [] [.int (zi t1), zr g 48] M S := by
    intro t1 ht1 M h
    unfold F_X11_isUsed_J34 at h
    obtain ⟨r1, M2, hy, h⟩ := zb2_ex h
    refine j_callVi (ci := 8) hC hE lk_X11_134 dX11_isUsed_34 (c_X11_fail l hlt g t1 ht1 M S hF hy) [.int (zi t1)] [] (zFx_kd hF 48 rfl) ⟨_, rfl, by decide, rfl⟩ rfl rfl rfl (zcat (Nat.le_of_ble_eq_true rfl)) (Nat.le_of_ble_eq_true rfl) (Nat.le_of_ble_eq_true rfl) (Nat.le_of_ble_eq_true rfl) (Nat.le_of_ble_eq_true rfl) (fun hp3 => ?_)
    have hr1 := hp3
    refine j_if_le hC dX11_isUsed_37 rfl (w_id hr1) (fun c4 => ?_) (fun c4 => ?_)
    · have h := zf c4 h
      refine j_iconst hC dX11_isUsed_44 ?_
      obtain ⟨e1, e2⟩ := zpr2 (Option.some.inj h)
      exact j_iret hC hE dX11_isUsed_45 (w_id kR_0) (zn_z zb01_0) (by rw [← e1]) e2 rfl (by rw [← e1]; exact kR_0) (Nat.le_of_ble_eq_true rfl) (Nat.le_of_ble_eq_true rfl)
    · have h := zt c4 h
      refine j_iconst hC dX11_isUsed_40 ?_
      refine j_goto hC dX11_isUsed_41 rfl ?_
      obtain ⟨e1, e2⟩ := zpr2 (Option.some.inj h)
      exact j_iret hC hE dX11_isUsed_45 (w_id kR_1) (zn_z zb01_1) (by rw [← e1]) e2 rfl (by rw [← e1]; exact kR_1) (Nat.le_of_ble_eq_true rfl) (Nat.le_of_ble_eq_true rfl)
  have J_20 : ∀ (v1 : Int) (hv1 : inR v1) (M : zM) (_ : F_X11_isUsed_J20 v1 M = some (r, M')), zJ K g 0 0 20 2 [(0, zr g 48), (1, .int (zi v1))] [] M S := by
    intro v1 hv1 M h
    unfold F_X11_isUsed_J20 at h
    refine j_aload_n hC 0 dX11_isUsed_20 rfl rfl ?_
    refine j_aload_n hC 0 dX11_isUsed_21 rfl rfl ?_
    refine j_iload_n hC 1 dX11_isUsed_22 rfl rfl ?_
    obtain ⟨r5, hy, h⟩ := zb1_ex h
    refine j_callVi (ci := 8) hC hE lk_X11_137 dX11_isUsed_23 (c_X11_isContext l hlt g v1 hv1 M S hF hy) [.int (zi v1)] [zr g 48] (zFx_kd hF 48 rfl) ⟨_, rfl, by decide, rfl⟩ rfl rfl rfl (zcat (Nat.le_of_ble_eq_true rfl)) (Nat.le_of_ble_eq_true rfl) (Nat.le_of_ble_eq_true rfl) (Nat.le_of_ble_eq_true rfl) (Nat.le_of_ble_eq_true rfl) (fun hp6 => ?_)
    have hr5 := hp6
    refine j_if_eq hC dX11_isUsed_26 rfl (w_id hr5) (fun c7 => ?_) (fun c7 => ?_)
    · have h := zt c7 h
      refine j_iconst hC dX11_isUsed_33 ?_
      refine j_sub [] rfl ?_
      exact J_34 1 kR_1 M h
    · have h := zf c7 h
      refine j_iconst hC dX11_isUsed_29 ?_
      refine j_goto hC dX11_isUsed_30 rfl ?_
      refine j_sub [] rfl ?_
      exact J_34 2 kR_2 M h
  refine j_aload_n hC 0 dX11_isUsed_0 rfl rfl ?_
  refine j_iconst hC dX11_isUsed_1 ?_
  obtain ⟨M8, eM8, h⟩ := zlet_ex h
  refine j_put hC dX11_isUsed_2 f_X11_104 pF_X11 (zFx_kd hF 48 rfl) (Or.inl rfl) rfl 0 rfl (w_id kR_0) kR_0 eM8 ?_
  refine j_aload_n hC 0 dX11_isUsed_5 rfl rfl ?_
  refine j_iload_n hC 1 dX11_isUsed_6 rfl rfl ?_
  obtain ⟨r9, hy, h⟩ := zb1_ex h
  refine j_callVi (ci := 8) hC hE lk_X11_137 dX11_isUsed_7 (c_X11_isContext l hlt g v1 hv1 M8 S hF hy) [.int (zi v1)] [] (zFx_kd hF 48 rfl) ⟨_, rfl, by decide, rfl⟩ rfl rfl rfl (zcat (Nat.le_of_ble_eq_true rfl)) (Nat.le_of_ble_eq_true rfl) (Nat.le_of_ble_eq_true rfl) (Nat.le_of_ble_eq_true rfl) (Nat.le_of_ble_eq_true rfl) (fun hp10 => ?_)
  have hr9 := hp10
  refine j_if_eq hC dX11_isUsed_10 rfl (w_id hr9) (fun c11 => ?_) (fun c11 => ?_)
  · have h := zt c11 h
    exact J_20 v1 hv1 M8 h
  · have h := zf c11 h
    refine j_aload_n hC 0 dX11_isUsed_13 rfl rfl ?_
    obtain ⟨r12, M13, hy, h⟩ := zb2_ex h
    refine j_callVi (ci := 8) hC hE lk_X11_278 dX11_isUsed_14 (c_X11_findAll l hlt g M8 S hF hy) [] [] (zFx_kd hF 48 rfl) ⟨_, rfl, by decide, rfl⟩ rfl rfl rfl (zcat (Nat.le_of_ble_eq_true rfl)) (Nat.le_of_ble_eq_true rfl) (Nat.le_of_ble_eq_true rfl) (Nat.le_of_ble_eq_true rfl) (Nat.le_of_ble_eq_true rfl) (fun hp14 => ?_)
    have hr12 := hp14
    refine j_if_ne hC dX11_isUsed_17 rfl (w_id hr12) (fun c15 => ?_) (fun c15 => ?_)
    · have h := zf c15 h
      refine j_aload_n hC 0 dX11_isUsed_46 rfl rfl ?_
      refine j_iload_n hC 1 dX11_isUsed_47 rfl rfl ?_
      obtain ⟨r16, M17, hy, h⟩ := zb2_ex h
      refine j_callVi (ci := 8) hC hE lk_X11_290 dX11_isUsed_48 (c_X11_isUsedIn l hlt g v1 hv1 M13 S hF hy) [.int (zi v1)] [] (zFx_kd hF 48 rfl) ⟨_, rfl, by decide, rfl⟩ rfl rfl rfl (zcat (Nat.le_of_ble_eq_true rfl)) (Nat.le_of_ble_eq_true rfl) (Nat.le_of_ble_eq_true rfl) (Nat.le_of_ble_eq_true rfl) (Nat.le_of_ble_eq_true rfl) (fun hp18 => ?_)
      have hr16 := hp18
      obtain ⟨c19, h⟩ := zchk_ex h
      obtain ⟨e1, e2⟩ := zpr2 (Option.some.inj h)
      exact j_iret hC hE dX11_isUsed_51 (w_id hr16) (zn_z c19) (by rw [← e1]) e2 rfl (by rw [← e1]; exact hr16) (Nat.le_of_ble_eq_true rfl) (Nat.le_of_ble_eq_true rfl)
    · have h := zt c15 h
      exact J_20 v1 hv1 M13 h
set_option maxHeartbeats 4000000 in
set_option maxRecDepth 100000 in
theorem c_X11_isRedundant (l : Launch) (hlt : l.stackTraces = false) (g : zG) (v1 : Int) (hv1 : inR v1) (M : zM) (S : zS) (hF : zFx S) {r : Int} {M' : zM} (h : F_X11_isRedundant v1 M = some (r, M')) : zMet l g yX11_isRedundant cX11_isRedundant 3 (some .boolean) 11 0 0 [zr g 48, .int (zi v1)] M S (.inl (some (.int (zi r)))) M' S (inR r) := by
  refine zMet_of (by decide) hlt [(0, zr g 48), (1, .int (zi v1))] rfl (Nat.le_of_ble_eq_true rfl) (fun K hC hE hN => ?_)
  unfold F_X11_isRedundant at h
  have J_34 : ∀ (t1 : Int) (ht1 : inR t1) (M : zM) (_ : F_X11_isRedundant_J34 t1 M = some (r, M')), zJ K g 0 0 34 3 [] [.int (zi t1), zr g 48] M S := by
    intro t1 ht1 M h
    unfold F_X11_isRedundant_J34 at h
    obtain ⟨r1, M2, hy, h⟩ := zb2_ex h
    refine j_callVi (ci := 8) hC hE lk_X11_134 dX11_isRedundant_34 (c_X11_fail l hlt g t1 ht1 M S hF hy) [.int (zi t1)] [] (zFx_kd hF 48 rfl) ⟨_, rfl, by decide, rfl⟩ rfl rfl rfl (zcat (Nat.le_of_ble_eq_true rfl)) (Nat.le_of_ble_eq_true rfl) (Nat.le_of_ble_eq_true rfl) (Nat.le_of_ble_eq_true rfl) (Nat.le_of_ble_eq_true rfl) (fun hp3 => ?_)
    have hr1 := hp3
    refine j_if_le hC dX11_isRedundant_37 rfl (w_id hr1) (fun c4 => ?_) (fun c4 => ?_)
    · have h := zf c4 h
      refine j_iconst hC dX11_isRedundant_44 ?_
      obtain ⟨e1, e2⟩ := zpr2 (Option.some.inj h)
      exact j_iret hC hE dX11_isRedundant_45 (w_id kR_0) (zn_z zb01_0) (by rw [← e1]) e2 rfl (by rw [← e1]; exact kR_0) (Nat.le_of_ble_eq_true rfl) (Nat.le_of_ble_eq_true rfl)
    · have h := zt c4 h
      refine j_iconst hC dX11_isRedundant_40 ?_
      refine j_goto hC dX11_isRedundant_41 rfl ?_
      obtain ⟨e1, e2⟩ := zpr2 (Option.some.inj h)
      exact j_iret hC hE dX11_isRedundant_45 (w_id kR_1) (zn_z zb01_1) (by rw [← e1]) e2 rfl (by rw [← e1]; exact kR_1) (Nat.le_of_ble_eq_true rfl) (Nat.le_of_ble_eq_true rfl)
  have J_20 : ∀ (v1 : Int) (hv1 : inR v1) (M : zM) (_ : F_X11_isRedundant_J20 v1 M = some (r, M')), zJ K g 0 0 20 3 [(0, zr g 48), (1, .int (zi v1))] [] M S := by
    intro v1 hv1 M h
    unfold F_X11_isRedundant_J20 at h
    refine j_aload_n hC 0 dX11_isRedundant_20 rfl rfl ?_
    refine j_aload_n hC 0 dX11_isRedundant_21 rfl rfl ?_
    refine j_iload_n hC 1 dX11_isRedundant_22 rfl rfl ?_
    obtain ⟨r5, hy, h⟩ := zb1_ex h
    refine j_callVi (ci := 8) hC hE lk_X11_137 dX11_isRedundant_23 (c_X11_isContext l hlt g v1 hv1 M S hF hy) [.int (zi v1)] [zr g 48] (zFx_kd hF 48 rfl) ⟨_, rfl, by decide, rfl⟩ rfl rfl rfl (zcat (Nat.le_of_ble_eq_true rfl)) (Nat.le_of_ble_eq_true rfl) (Nat.le_of_ble_eq_true rfl) (Nat.le_of_ble_eq_true rfl) (Nat.le_of_ble_eq_true rfl) (fun hp6 => ?_)
    have hr5 := hp6
    refine j_if_eq hC dX11_isRedundant_26 rfl (w_id hr5) (fun c7 => ?_) (fun c7 => ?_)
    · have h := zt c7 h
      refine j_iconst hC dX11_isRedundant_33 ?_
      refine j_sub [] rfl ?_
      exact J_34 1 kR_1 M h
    · have h := zf c7 h
      refine j_iconst hC dX11_isRedundant_29 ?_
      refine j_goto hC dX11_isRedundant_30 rfl ?_
      refine j_sub [] rfl ?_
      exact J_34 2 kR_2 M h
  refine j_aload_n hC 0 dX11_isRedundant_0 rfl rfl ?_
  refine j_iconst hC dX11_isRedundant_1 ?_
  obtain ⟨M8, eM8, h⟩ := zlet_ex h
  refine j_put hC dX11_isRedundant_2 f_X11_104 pF_X11 (zFx_kd hF 48 rfl) (Or.inl rfl) rfl 0 rfl (w_id kR_0) kR_0 eM8 ?_
  refine j_aload_n hC 0 dX11_isRedundant_5 rfl rfl ?_
  refine j_iload_n hC 1 dX11_isRedundant_6 rfl rfl ?_
  obtain ⟨r9, hy, h⟩ := zb1_ex h
  refine j_callVi (ci := 8) hC hE lk_X11_137 dX11_isRedundant_7 (c_X11_isContext l hlt g v1 hv1 M8 S hF hy) [.int (zi v1)] [] (zFx_kd hF 48 rfl) ⟨_, rfl, by decide, rfl⟩ rfl rfl rfl (zcat (Nat.le_of_ble_eq_true rfl)) (Nat.le_of_ble_eq_true rfl) (Nat.le_of_ble_eq_true rfl) (Nat.le_of_ble_eq_true rfl) (Nat.le_of_ble_eq_true rfl) (fun hp10 => ?_)
  have hr9 := hp10
  refine j_if_eq hC dX11_isRedundant_10 rfl (w_id hr9) (fun c11 => ?_) (fun c11 => ?_)
  · have h := zt c11 h
    exact J_20 v1 hv1 M8 h
  · have h := zf c11 h
    refine j_aload_n hC 0 dX11_isRedundant_13 rfl rfl ?_
    obtain ⟨r12, M13, hy, h⟩ := zb2_ex h
    refine j_callVi (ci := 8) hC hE lk_X11_278 dX11_isRedundant_14 (c_X11_findAll l hlt g M8 S hF hy) [] [] (zFx_kd hF 48 rfl) ⟨_, rfl, by decide, rfl⟩ rfl rfl rfl (zcat (Nat.le_of_ble_eq_true rfl)) (Nat.le_of_ble_eq_true rfl) (Nat.le_of_ble_eq_true rfl) (Nat.le_of_ble_eq_true rfl) (Nat.le_of_ble_eq_true rfl) (fun hp14 => ?_)
    have hr12 := hp14
    refine j_if_ne hC dX11_isRedundant_17 rfl (w_id hr12) (fun c15 => ?_) (fun c15 => ?_)
    · have h := zf c15 h
      refine j_aload_n hC 0 dX11_isRedundant_46 rfl rfl ?_
      refine j_get hC dX11_isRedundant_47 f_X11_250 (zFx_kd hF 48 rfl) rfl 23 rfl (fun hg16 => ?_)
      obtain ⟨x17, ex17, h⟩ := zlet_ex h
      have hx17 : inR x17 := by rw [ex17]; exact hg16
      refine j_names ex17 ?_
      refine j_istore_n hC dX11_isRedundant_50 rfl (Nat.le_of_ble_eq_true rfl) rfl ?_
      refine j_aload_n hC 1 dX11_isRedundant_51 rfl rfl ?_
      refine j_iconst hC dX11_isRedundant_52 ?_
      refine j_aload_n hC 1 dX11_isRedundant_53 rfl rfl ?_
      refine j_get hC dX11_isRedundant_54 f_X11_121 (zFx_kd hF 48 rfl) rfl 7 rfl (fun hg18 => ?_)
      refine j_ishl hC dX11_isRedundant_57 ?_
      refine j_iconst hC dX11_isRedundant_58 ?_
      refine j_isub hC dX11_isRedundant_59 ?_
      refine j_iconst hC dX11_isRedundant_60 ?_
      refine j_iload_n hC 2 dX11_isRedundant_61 rfl rfl ?_
      refine j_ishl hC dX11_isRedundant_62 ?_
      refine j_isub hC dX11_isRedundant_63 ?_
      obtain ⟨r19, M20, hy, h⟩ := zb2_ex h
      refine j_callVi (ci := 8) hC hE lk_X11_275 dX11_isRedundant_64 (c_X11_find l hlt g (w (((zshl 1 (M13 48 7)) - 1) - (zshl 1 v1))) (inR_w _) M13 S hF hy) [.int (zi (((zshl 1 (M13 48 7)) - 1) - (zshl 1 v1)))] [] (zFx_kd hF 48 rfl) ⟨_, rfl, by decide, rfl⟩ rfl (by simp only [zi_w, zl_wl]) rfl (zcat (Nat.le_of_ble_eq_true rfl)) (Nat.le_of_ble_eq_true rfl) (Nat.le_of_ble_eq_true rfl) (Nat.le_of_ble_eq_true rfl) (Nat.le_of_ble_eq_true rfl) (fun hp21 => ?_)
      have hr19 := hp21
      refine j_pop hC dX11_isRedundant_67 rfl ?_
      refine j_aload_n hC 1 dX11_isRedundant_68 rfl rfl ?_
      refine j_get hC dX11_isRedundant_69 f_X11_250 (zFx_kd hF 48 rfl) rfl 23 rfl (fun hg22 => ?_)
      refine j_iload_n hC 0 dX11_isRedundant_72 rfl rfl ?_
      refine j_icmp_ne hC dX11_isRedundant_73 rfl (w_id hg22) (w_id hx17) (fun c23 => ?_) (fun c23 => ?_)
      · have h := zf c23 h
        refine j_iconst hC dX11_isRedundant_80 ?_
        obtain ⟨e1, e2⟩ := zpr2 (Option.some.inj h)
        exact j_iret hC hE dX11_isRedundant_81 (w_id kR_0) (zn_z zb01_0) (by rw [← e1]) e2 rfl (by rw [← e1]; exact kR_0) (Nat.le_of_ble_eq_true rfl) (Nat.le_of_ble_eq_true rfl)
      · have h := zt c23 h
        refine j_iconst hC dX11_isRedundant_76 ?_
        refine j_goto hC dX11_isRedundant_77 rfl ?_
        obtain ⟨e1, e2⟩ := zpr2 (Option.some.inj h)
        exact j_iret hC hE dX11_isRedundant_81 (w_id kR_1) (zn_z zb01_1) (by rw [← e1]) e2 rfl (by rw [← e1]; exact kR_1) (Nat.le_of_ble_eq_true rfl) (Nat.le_of_ble_eq_true rfl)
    · have h := zt c15 h
      exact J_20 v1 hv1 M13 h
set_option maxHeartbeats 4000000 in
set_option maxRecDepth 100000 in
theorem c_X11_minimalContexts (l : Launch) (hlt : l.stackTraces = false) (g : zG) (M : zM) (S : zS) (hF : zFx S) {r : Int} {M' : zM} (h : F_X11_minimalContexts M = some (r, M')) : zMet l g yX11_minimalContexts cX11_minimalContexts 4 (some .int) 11 0 0 [zr g 48] M S (.inl (some (.int (zi r)))) M' S (inR r) := by
  refine zMet_of (by decide) hlt [(0, zr g 48)] rfl (Nat.le_of_ble_eq_true rfl) (fun K hC hE hN => ?_)
  unfold F_X11_minimalContexts at h
  have J_77 : ∀ (v2 : Int) (hv2 : inR v2) (M : zM) (_ : F_X11_minimalContexts_J77 v2 M = some (r, M')), zJ K g 0 0 77 4 [(2, .int (zi v2))] [] M S := by
    intro v2 hv2 M h
    unfold F_X11_minimalContexts_J77 at h
    refine j_iload_n hC 0 dX11_minimalContexts_77 rfl rfl ?_
    obtain ⟨e1, e2⟩ := zpr2 (Option.some.inj h)
    exact j_iret hC hE dX11_minimalContexts_78 (w_id hv2) (zn_i _) (by rw [← e1]) e2 rfl (by rw [← e1]; exact hv2) (Nat.le_of_ble_eq_true rfl) (Nat.le_of_ble_eq_true rfl)
  have L_36 : ∀ (v1 : Int) (v2 : Int) (v3 : Int) (hv1 : inR v1) (hv2 : inR v2) (hv3 : inR v3) (M : zM) (_ : F_X11_minimalContexts_L36 v1 v2 v3 M = some (r, M')), zJ K g 0 0 36 4 [(0, zr g 48), (1, .int (zi v1)), (2, .int (zi v2)), (3, .int (zi v3))] [] M S := by
    intro v1 v2 v3 hv1 hv2 hv3 M h
    unfold F_X11_minimalContexts_L36 at h
    obtain ⟨ex36, hl, hd36⟩ := zb1_ex h
    obtain ⟨bd36, ebd⟩ : ∃ f, f = (fun (s : Int × Int × zM) => F_X11_minimalContexts_B36 v1 s.1 s.2.1 s.2.2) := ⟨_, rfl⟩
    rw [← ebd] at hl
    have main : ∀ (n36 : Nat) (v2 : Int) (v3 : Int) (hv2 : inR v2) (hv3 : inR v3) (M : zM) (_ : zloop bd36 n36 (v2, v3, M) = some ex36), zJ K g 0 0 36 4 [(0, zr g 48), (1, .int (zi v1)), (2, .int (zi v2)), (3, .int (zi v3))] [] M S := by
      intro n36
      induction n36 with
      | zero => intro v2 v3 hv2 hv3 M hl; exact zloop_0 hl
      | succ n36 ih36 =>
        have J_71 : ∀ (v2 : Int) (v3 : Int) (hv2 : inR v2) (hv3 : inR v3) (M : zM) (o : _) (_ : F_X11_minimalContexts_J71 v1 v2 v3 M = some o), zAft (bd36) n36 ex36 o → zJ K g 0 0 71 4 [(0, zr g 48), (1, .int (zi v1)), (2, .int (zi v2)), (3, .int (zi v3))] [] M S := by
          intro v2 v3 hv2 hv3 M o h hT
          unfold F_X11_minimalContexts_J71 at h
          obtain ⟨x1, ex1, h⟩ := zlet_ex h
          have hx1 : inR x1 := by rw [ex1]; exact inR_w _
          refine j_iinc hC 3 dX11_minimalContexts_71 rfl ex1 (Nat.le_of_ble_eq_true rfl) rfl ?_
          refine j_goto hC dX11_minimalContexts_74 rfl ?_
          obtain rfl := Option.some.inj h
          refine j_sub [1, 2, 3, 0] rfl ?_
          exact ih36 v2 x1 hv2 hx1 M hT
        have J_70 : ∀ (v3 : Int) (t0 : Int) (hv3 : inR v3) (ht0 : inR t0) (M : zM) (o : _) (_ : F_X11_minimalContexts_J70 v1 v3 t0 M = some o), zAft (bd36) n36 ex36 o → zJ K g 0 0 70 4 [(0, zr g 48), (1, .int (zi v1)), (3, .int (zi v3))] [.int (zi t0)] M S := by
          intro v3 t0 hv3 ht0 M o h hT
          unfold F_X11_minimalContexts_J70 at h
          refine j_istore_n hC dX11_minimalContexts_70 rfl (Nat.le_of_ble_eq_true rfl) rfl ?_
          refine j_sub [1, 2, 0, 3] rfl ?_
          exact J_71 t0 v3 ht0 hv3 M _ h hT
        intro v2 v3 hv2 hv3 M hl
        obtain ⟨o, h, hT⟩ := zloop_ex hl
        have h : F_X11_minimalContexts_B36 v1 v2 v3 M = some o := by rw [ebd] at h; exact h
        unfold F_X11_minimalContexts_B36 at h
        refine j_iload_n hC 3 dX11_minimalContexts_36 rfl rfl ?_
        refine j_if_lt hC dX11_minimalContexts_37 rfl (w_id hv3) (fun c2 => ?_) (fun c2 => ?_)
        · have h := zt c2 h
          obtain rfl := Option.some.inj h
          have hx36 := hd36
          rw [← show _ = ex36 from hT] at hx36
          refine j_sub [2] rfl ?_
          exact J_77 v2 hv2 M hx36
        · have h := zf c2 h
          refine j_iload_n hC 3 dX11_minimalContexts_40 rfl rfl ?_
          obtain ⟨r3, hy, h⟩ := zb1_ex h
          refine j_callSi hC hE lk_X11_293 dX11_minimalContexts_41 (c_J6_bitCount_0f7a4 l hlt g v3 hv3 M S hy) [.int (zi v3)] [] rfl rfl rfl (zcat (Nat.le_of_ble_eq_true rfl)) (Nat.le_of_ble_eq_true rfl) (Nat.le_of_ble_eq_true rfl) (Nat.le_of_ble_eq_true rfl) (Nat.le_of_ble_eq_true rfl) (fun hp4 => ?_)
          have hr3 := hp4
          refine j_iload_n hC 2 dX11_minimalContexts_44 rfl rfl ?_
          obtain ⟨r5, hy, h⟩ := zb1_ex h
          refine j_callSi hC hE lk_X11_293 dX11_minimalContexts_45 (c_J6_bitCount_0f7a4 l hlt g v2 hv2 M S hy) [.int (zi v2)] [.int (zi r3)] rfl rfl rfl (zcat (Nat.le_of_ble_eq_true rfl)) (Nat.le_of_ble_eq_true rfl) (Nat.le_of_ble_eq_true rfl) (Nat.le_of_ble_eq_true rfl) (Nat.le_of_ble_eq_true rfl) (fun hp6 => ?_)
          have hr5 := hp6
          refine j_icmp_gt hC dX11_minimalContexts_48 rfl (w_id hr3) (w_id hr5) (fun c7 => ?_) (fun c7 => ?_)
          · have h := zt c7 h
            exact J_71 v2 v3 hv2 hv3 M _ h hT
          · have h := zf c7 h
            refine j_aload_n hC 0 dX11_minimalContexts_51 rfl rfl ?_
            refine j_iload_n hC 3 dX11_minimalContexts_52 rfl rfl ?_
            obtain ⟨r8, M9, hy, h⟩ := zb2_ex h
            refine j_callVi (ci := 8) hC hE lk_X11_275 dX11_minimalContexts_53 (c_X11_find l hlt g v3 hv3 M S hF hy) [.int (zi v3)] [] (zFx_kd hF 48 rfl) ⟨_, rfl, by decide, rfl⟩ rfl rfl rfl (zcat (Nat.le_of_ble_eq_true rfl)) (Nat.le_of_ble_eq_true rfl) (Nat.le_of_ble_eq_true rfl) (Nat.le_of_ble_eq_true rfl) (Nat.le_of_ble_eq_true rfl) (fun hp10 => ?_)
            have hr8 := hp10
            refine j_pop hC dX11_minimalContexts_56 rfl ?_
            refine j_aload_n hC 0 dX11_minimalContexts_57 rfl rfl ?_
            refine j_get hC dX11_minimalContexts_58 f_X11_250 (zFx_kd hF 48 rfl) rfl 23 rfl (fun hg11 => ?_)
            refine j_iload_n hC 1 dX11_minimalContexts_61 rfl rfl ?_
            refine j_icmp_ne hC dX11_minimalContexts_62 rfl (w_id hg11) (w_id hv1) (fun c12 => ?_) (fun c12 => ?_)
            · have h := zf c12 h
              refine j_iload_n hC 2 dX11_minimalContexts_69 rfl rfl ?_
              refine j_sub [0, 1, 3] rfl ?_
              exact J_70 v3 v2 hv3 hv2 M9 _ h hT
            · have h := zt c12 h
              refine j_iload_n hC 3 dX11_minimalContexts_65 rfl rfl ?_
              refine j_goto hC dX11_minimalContexts_66 rfl ?_
              refine j_sub [0, 1, 3] rfl ?_
              exact J_70 v3 v3 hv3 hv3 M9 _ h hT
    exact main zN v2 v3 hv2 hv3 M hl
  refine j_aload_n hC 0 dX11_minimalContexts_0 rfl rfl ?_
  refine j_iconst hC dX11_minimalContexts_1 ?_
  obtain ⟨M13, eM13, h⟩ := zlet_ex h
  refine j_put hC dX11_minimalContexts_2 f_X11_104 pF_X11 (zFx_kd hF 48 rfl) (Or.inl rfl) rfl 0 rfl (w_id kR_0) kR_0 eM13 ?_
  refine j_aload_n hC 0 dX11_minimalContexts_5 rfl rfl ?_
  obtain ⟨r14, M15, hy, h⟩ := zb2_ex h
  refine j_callVi (ci := 8) hC hE lk_X11_278 dX11_minimalContexts_6 (c_X11_findAll l hlt g M13 S hF hy) [] [] (zFx_kd hF 48 rfl) ⟨_, rfl, by decide, rfl⟩ rfl rfl rfl (zcat (Nat.le_of_ble_eq_true rfl)) (Nat.le_of_ble_eq_true rfl) (Nat.le_of_ble_eq_true rfl) (Nat.le_of_ble_eq_true rfl) (Nat.le_of_ble_eq_true rfl) (fun hp16 => ?_)
  have hr14 := hp16
  refine j_if_ne hC dX11_minimalContexts_9 rfl (w_id hr14) (fun c17 => ?_) (fun c17 => ?_)
  · have h := zf c17 h
    refine j_aload_n hC 0 dX11_minimalContexts_18 rfl rfl ?_
    refine j_get hC dX11_minimalContexts_19 f_X11_250 (zFx_kd hF 48 rfl) rfl 23 rfl (fun hg18 => ?_)
    obtain ⟨x19, ex19, h⟩ := zlet_ex h
    have hx19 : inR x19 := by rw [ex19]; exact hg18
    refine j_names ex19 ?_
    refine j_istore_n hC dX11_minimalContexts_22 rfl (Nat.le_of_ble_eq_true rfl) rfl ?_
    refine j_iconst hC dX11_minimalContexts_23 ?_
    refine j_aload_n hC 1 dX11_minimalContexts_24 rfl rfl ?_
    refine j_get hC dX11_minimalContexts_25 f_X11_121 (zFx_kd hF 48 rfl) rfl 7 rfl (fun hg20 => ?_)
    refine j_ishl hC dX11_minimalContexts_28 ?_
    refine j_iconst hC dX11_minimalContexts_29 ?_
    refine j_isub hC dX11_minimalContexts_30 ?_
    obtain ⟨x21, ex21, h⟩ := zlet_ex h
    have hx21 : inR x21 := by rw [ex21]; exact inR_w _
    refine j_namei ex21 ?_
    refine j_istore_n hC dX11_minimalContexts_31 rfl (Nat.le_of_ble_eq_true rfl) rfl ?_
    refine j_iload_n hC 0 dX11_minimalContexts_32 rfl rfl ?_
    refine j_iconst hC dX11_minimalContexts_33 ?_
    refine j_isub hC dX11_minimalContexts_34 ?_
    obtain ⟨x22, ex22, h⟩ := zlet_ex h
    have hx22 : inR x22 := by rw [ex22]; exact inR_w _
    refine j_namei ex22 ?_
    refine j_istore_n hC dX11_minimalContexts_35 rfl (Nat.le_of_ble_eq_true rfl) rfl ?_
    refine j_sub [3, 2, 1, 0] rfl ?_
    exact L_36 x19 x21 x22 hx19 hx21 hx22 M15 h
  · have h := zt c17 h
    refine j_aload_n hC 0 dX11_minimalContexts_12 rfl rfl ?_
    refine j_iconst hC dX11_minimalContexts_13 ?_
    obtain ⟨r23, M24, hy, h⟩ := zb2_ex h
    refine j_callVi (ci := 8) hC hE lk_X11_134 dX11_minimalContexts_14 (c_X11_fail l hlt g 1 kR_1 M15 S hF hy) [.int (zi 1)] [] (zFx_kd hF 48 rfl) ⟨_, rfl, by decide, rfl⟩ rfl rfl rfl (zcat (Nat.le_of_ble_eq_true rfl)) (Nat.le_of_ble_eq_true rfl) (Nat.le_of_ble_eq_true rfl) (Nat.le_of_ble_eq_true rfl) (Nat.le_of_ble_eq_true rfl) (fun hp25 => ?_)
    have hr23 := hp25
    obtain ⟨e1, e2⟩ := zpr2 (Option.some.inj h)
    exact j_iret hC hE dX11_minimalContexts_17 (w_id hr23) (zn_i _) (by rw [← e1]) e2 rfl (by rw [← e1]; exact hr23) (Nat.le_of_ble_eq_true rfl) (Nat.le_of_ble_eq_true rfl)
set_option maxHeartbeats 4000000 in
set_option maxRecDepth 100000 in
theorem c_X11_link (l : Launch) (hlt : l.stackTraces = false) (g : zG) (v1 : Int) (v2 : Int) (hv1 : inR v1) (hv2 : inR v2) (M : zM) (S : zS) (hF : zFx S) {M' : zM} (h : F_X11_link v1 v2 M = some M') : zMet l g yX11_link cX11_link 4 none 1 0 0 [zr g 48, .int (zi v1), .int (zi v2)] M S (.inl none) M' S (True) := by
  refine zMet_of (by decide) hlt [(0, zr g 48), (1, .int (zi v1)), (2, .int (zi v2))] rfl (Nat.le_of_ble_eq_true rfl) (fun K hC hE hN => ?_)
  unfold F_X11_link at h
  have J_38 : ∀ (M : zM) (_ : F_X11_link_J38 M = some M'), zJ K g 0 0 38 4 [] [] M S := by
    intro M h
    unfold F_X11_link_J38 at h
    have e1 := Option.some.inj h
    exact j_vret hC hE dX11_link_38 rfl e1 rfl trivial (Nat.le_of_ble_eq_true rfl) (Nat.le_of_ble_eq_true rfl)
  have L_2 : ∀ (v1 : Int) (v2 : Int) (v3 : Int) (hv1 : inR v1) (hv2 : inR v2) (hv3 : inR v3) (M : zM) (_ : F_X11_link_L2 v1 v2 v3 M = some M'), zJ K g 0 0 2 4 [(0, zr g 48), (1, .int (zi v1)), (2, .int (zi v2)), (3, .int (zi v3))] [] M S := by
    intro v1 v2 v3 hv1 hv2 hv3 M h
    unfold F_X11_link_L2 at h
    obtain ⟨ex2, hl, hd2⟩ := zb1_ex h
    obtain ⟨bd2, ebd⟩ : ∃ f, f = (fun (s : Int × zM) => F_X11_link_B2 v1 v2 s.1 s.2) := ⟨_, rfl⟩
    rw [← ebd] at hl
    have main : ∀ (n2 : Nat) (v3 : Int) (hv3 : inR v3) (M : zM) (_ : zloop bd2 n2 (v3, M) = some ex2), zJ K g 0 0 2 4 [(0, zr g 48), (1, .int (zi v1)), (2, .int (zi v2)), (3, .int (zi v3))] [] M S := by
      intro n2
      induction n2 with
      | zero => intro v3 hv3 M hl; exact zloop_0 hl
      | succ n2 ih2 =>
        have J_30 : ∀ (v3 : Int) (t1 : Int) (t2 : Int) (t3 : Int) (hv3 : inR v3) (ht1 : inR t1) (ht2 : inR t2) (ht3 : inR t3) (M : zM) (o : _) (_ : F_X11_link_J30 v1 v2 v3 t1 t2 t3 M = some o), zAft (bd2) n2 ex2 o → zJ K g 0 0 30 4 [(0, zr g 48), (1, .int (zi v1)), (2, .int (zi v2)), (3, .int (zi v3))] [.int (zi t3), .int (zi t2), .int (zi t1), zr g 60] M S := by
          intro v3 t1 t2 t3 hv3 ht1 ht2 ht3 M o h hT
          unfold F_X11_link_J30 at h
          refine j_ior hC dX11_link_30 ?_
          obtain ⟨c1, h⟩ := zchk_ex h
          obtain ⟨M2, eM2, h⟩ := zlet_ex h
          refine j_iast (n := 5) hC dX11_link_31 (w_id ht1) (w_id (cR_zor _ _)) (cR_zor _ _) (zFx_kd hF 60 rfl) (zFx_ln hF 60 rfl) c1.1 c1.2 eM2 ?_
          obtain ⟨x3, ex3, h⟩ := zlet_ex h
          have hx3 : inR x3 := by rw [ex3]; exact inR_w _
          refine j_iinc hC 3 dX11_link_32 rfl ex3 (Nat.le_of_ble_eq_true rfl) rfl ?_
          refine j_goto hC dX11_link_35 rfl ?_
          obtain rfl := Option.some.inj h
          refine j_sub [1, 2, 3, 0] rfl ?_
          exact ih2 x3 hx3 M2 hT
        intro v3 hv3 M hl
        obtain ⟨o, h, hT⟩ := zloop_ex hl
        have h : F_X11_link_B2 v1 v2 v3 M = some o := by rw [ebd] at h; exact h
        unfold F_X11_link_B2 at h
        refine j_iload_n hC 3 dX11_link_2 rfl rfl ?_
        refine j_iconst hC dX11_link_3 ?_
        refine j_icmp_ge hC dX11_link_4 rfl (w_id hv3) (w_id kR_5) (fun c4 => ?_) (fun c4 => ?_)
        · have h := zf c4 h
          obtain rfl := Option.some.inj h
          have hx2 := hd2
          rw [← show _ = ex2 from hT] at hx2
          refine j_sub [] rfl ?_
          exact J_38 M hx2
        · have h := zt c4 h
          refine j_aload_n hC 0 dX11_link_7 rfl rfl ?_
          refine j_getq (q := 60) hC dX11_link_8 f_X11_55 (zFx_kd hF 48 rfl) rfl 25 rfl (zFx_rf hF 48 25 rfl) ?_
          refine j_iload_n hC 3 dX11_link_11 rfl rfl ?_
          refine j_dup2 hC dX11_link_12 rfl (zr_cat _ _) ?_
          obtain ⟨c5, h⟩ := zchk_ex h
          refine j_iald (n := 5) hC dX11_link_13 (w_id hv3) (zFx_kd hF 60 rfl) (zFx_ln hF 60 rfl) c5.1 c5.2 (fun hg6 => ?_)
          refine j_iload_n hC 1 dX11_link_14 rfl rfl ?_
          refine j_iload_n hC 3 dX11_link_15 rfl rfl ?_
          refine j_ishr hC dX11_link_16 ?_
          refine j_iconst hC dX11_link_17 ?_
          refine j_iand hC dX11_link_18 ?_
          refine j_iconst hC dX11_link_19 ?_
          refine j_icmp_ne hC dX11_link_20 rfl (w_id (cR_zand _ _)) (w_id kR_1) (fun c7 => ?_) (fun c7 => ?_)
          · have h := zf c7 h
            refine j_iconst hC dX11_link_29 ?_
            exact J_30 v3 v3 (M 60 v3) 0 hv3 hv3 hg6 kR_0 M _ h hT
          · have h := zt c7 h
            refine j_iconst hC dX11_link_23 ?_
            refine j_iload_n hC 2 dX11_link_24 rfl rfl ?_
            refine j_ishl hC dX11_link_25 ?_
            refine j_goto hC dX11_link_26 rfl ?_
            exact J_30 v3 v3 (M 60 v3) (zshl 1 v2) hv3 hv3 hg6 (cR_zshl _ _) M _ h hT
    exact main zN v3 hv3 M hl
  refine j_iconst hC dX11_link_0 ?_
  refine j_istore_n hC dX11_link_1 rfl (Nat.le_of_ble_eq_true rfl) rfl ?_
  refine j_sub [1, 2, 3, 0] rfl ?_
  exact L_2 v1 v2 0 hv1 hv2 kR_0 M h
set_option maxHeartbeats 4000000 in
set_option maxRecDepth 100000 in
theorem c_X11_findFollows (l : Launch) (hlt : l.stackTraces = false) (g : zG) (M : zM) (S : zS) (hF : zFx S) {M' : zM} (h : F_X11_findFollows M = some M') : zMet l g yX11_findFollows cX11_findFollows 4 none 8 0 0 [zr g 48] M S (.inl none) M' S (True) := by
  refine zMet_of (by decide) hlt [(0, zr g 48)] rfl (Nat.le_of_ble_eq_true rfl) (fun K hC hE hN => ?_)
  unfold F_X11_findFollows at h
  have J_168 : ∀ (M : zM) (_ : F_X11_findFollows_J168 M = some M'), zJ K g 0 0 168 4 [] [] M S := by
    intro M h
    unfold F_X11_findFollows_J168 at h
    have e1 := Option.some.inj h
    exact j_vret hC hE dX11_findFollows_168 rfl e1 rfl trivial (Nat.le_of_ble_eq_true rfl) (Nat.le_of_ble_eq_true rfl)
  have L_44 : ∀ (v1 : Int) (hv1 : inR v1) (M : zM) (_ : F_X11_findFollows_L44 v1 M = some M'), zJ K g 0 0 44 4 [(0, zr g 48), (1, .int (zi v1))] [] M S := by
    intro v1 hv1 M h
    unfold F_X11_findFollows_L44 at h
    obtain ⟨ex44, hl, hd44⟩ := zb1_ex h
    obtain ⟨bd44, ebd⟩ : ∃ f, f = (fun (s : Int × zM) => F_X11_findFollows_B44 s.1 s.2) := ⟨_, rfl⟩
    rw [← ebd] at hl
    have main : ∀ (n44 : Nat) (v1 : Int) (hv1 : inR v1) (M : zM) (_ : zloop bd44 n44 (v1, M) = some ex44), zJ K g 0 0 44 4 [(0, zr g 48), (1, .int (zi v1))] [] M S := by
      intro n44
      induction n44 with
      | zero => intro v1 hv1 M hl; exact zloop_0 hl
      | succ n44 ih44 =>
        have J_162 : ∀ (v1 : Int) (hv1 : inR v1) (M : zM) (o : _) (_ : F_X11_findFollows_J162 v1 M = some o), zAft (bd44) n44 ex44 o → zJ K g 0 0 162 4 [(0, zr g 48), (1, .int (zi v1))] [] M S := by
          intro v1 hv1 M o h hT
          unfold F_X11_findFollows_J162 at h
          obtain ⟨x1, ex1, h⟩ := zlet_ex h
          have hx1 : inR x1 := by rw [ex1]; exact inR_w _
          refine j_iinc hC 1 dX11_findFollows_162 rfl ex1 (Nat.le_of_ble_eq_true rfl) rfl ?_
          refine j_goto hC dX11_findFollows_165 rfl ?_
          obtain rfl := Option.some.inj h
          refine j_sub [1, 0] rfl ?_
          exact ih44 x1 hx1 M hT
        have L_53 : ∀ (v1 : Int) (v2 : Int) (hv1 : inR v1) (hv2 : inR v2) (M : zM) (o : _) (_ : F_X11_findFollows_L53 v1 v2 M = some o), zAft (bd44) n44 ex44 o → zJ K g 0 0 53 4 [(0, zr g 48), (1, .int (zi v1)), (2, .int (zi v2))] [] M S := by
          intro v1 v2 hv1 hv2 M oh53 h hT53
          unfold F_X11_findFollows_L53 at h
          obtain ⟨ex53, hl, hd53⟩ := zb1_ex h
          obtain ⟨bd53, ebd⟩ : ∃ f, f = (fun (s : Int × zM) => F_X11_findFollows_B53 v1 s.1 s.2) := ⟨_, rfl⟩
          rw [← ebd] at hl
          have main : ∀ (n53 : Nat) (v2 : Int) (hv2 : inR v2) (M : zM) (_ : zloop bd53 n53 (v2, M) = some ex53), zJ K g 0 0 53 4 [(0, zr g 48), (1, .int (zi v1)), (2, .int (zi v2))] [] M S := by
            intro n53
            induction n53 with
            | zero => intro v2 hv2 M hl; exact zloop_0 hl
            | succ n53 ih53 =>
              have J_156 : ∀ (v2 : Int) (hv2 : inR v2) (M : zM) (o : _) (_ : F_X11_findFollows_J156 v1 v2 M = some o), zAft (bd53) n53 ex53 o → zJ K g 0 0 156 4 [(0, zr g 48), (1, .int (zi v1)), (2, .int (zi v2))] [] M S := by
                intro v2 hv2 M o h hT
                unfold F_X11_findFollows_J156 at h
                obtain ⟨x2, ex2, h⟩ := zlet_ex h
                have hx2 : inR x2 := by rw [ex2]; exact inR_w _
                refine j_iinc hC 2 dX11_findFollows_156 rfl ex2 (Nat.le_of_ble_eq_true rfl) rfl ?_
                refine j_goto hC dX11_findFollows_159 rfl ?_
                obtain rfl := Option.some.inj h
                refine j_sub [1, 2, 0] rfl ?_
                exact ih53 x2 hx2 M hT
              have L_78 : ∀ (v2 : Int) (v3 : Int) (hv2 : inR v2) (hv3 : inR v3) (M : zM) (o : _) (_ : F_X11_findFollows_L78 v1 v2 v3 M = some o), zAft (bd53) n53 ex53 o → zJ K g 0 0 78 4 [(0, zr g 48), (1, .int (zi v1)), (2, .int (zi v2)), (3, .int (zi v3))] [] M S := by
                intro v2 v3 hv2 hv3 M oh78 h hT78
                unfold F_X11_findFollows_L78 at h
                obtain ⟨ex78, hl, hd78⟩ := zb1_ex h
                obtain ⟨bd78, ebd⟩ : ∃ f, f = (fun (s : Int × zM) => F_X11_findFollows_B78 v1 v2 s.1 s.2) := ⟨_, rfl⟩
                rw [← ebd] at hl
                have main : ∀ (n78 : Nat) (v3 : Int) (hv3 : inR v3) (M : zM) (_ : zloop bd78 n78 (v3, M) = some ex78), zJ K g 0 0 78 4 [(0, zr g 48), (1, .int (zi v1)), (2, .int (zi v2)), (3, .int (zi v3))] [] M S := by
                  intro n78
                  induction n78 with
                  | zero => intro v3 hv3 M hl; exact zloop_0 hl
                  | succ n78 ih78 =>
                    have J_150 : ∀ (v3 : Int) (hv3 : inR v3) (M : zM) (o : _) (_ : F_X11_findFollows_J150 v1 v2 v3 M = some o), zAft (bd78) n78 ex78 o → zJ K g 0 0 150 4 [(0, zr g 48), (1, .int (zi v1)), (2, .int (zi v2)), (3, .int (zi v3))] [] M S := by
                      intro v3 hv3 M o h hT
                      unfold F_X11_findFollows_J150 at h
                      obtain ⟨x3, ex3, h⟩ := zlet_ex h
                      have hx3 : inR x3 := by rw [ex3]; exact inR_w _
                      refine j_iinc hC 3 dX11_findFollows_150 rfl ex3 (Nat.le_of_ble_eq_true rfl) rfl ?_
                      refine j_goto hC dX11_findFollows_153 rfl ?_
                      obtain rfl := Option.some.inj h
                      refine j_sub [1, 2, 3, 0] rfl ?_
                      exact ih78 x3 hx3 M hT
                    intro v3 hv3 M hl
                    obtain ⟨o, h, hT⟩ := zloop_ex hl
                    have h : F_X11_findFollows_B78 v1 v2 v3 M = some o := by rw [ebd] at h; exact h
                    unfold F_X11_findFollows_B78 at h
                    refine j_iload_n hC 3 dX11_findFollows_78 rfl rfl ?_
                    refine j_bipush hC dX11_findFollows_79 rfl ?_
                    refine j_icmp_ge hC dX11_findFollows_81 rfl (w_id hv3) (w_id kR_100) (fun c4 => ?_) (fun c4 => ?_)
                    · have h := zf c4 h
                      obtain rfl := Option.some.inj h
                      have hx78 := hd78
                      rw [← show _ = ex78 from hT] at hx78
                      refine j_sub [0, 1, 2] rfl ?_
                      exact J_156 v2 hv2 M _ hx78 hT78
                    · have h := zt c4 h
                      refine j_aload_n hC 0 dX11_findFollows_84 rfl rfl ?_
                      refine j_iload_n hC 2 dX11_findFollows_85 rfl rfl ?_
                      obtain ⟨r5, hy, h⟩ := zb1_ex h
                      refine j_callVi (ci := 8) hC hE lk_X11_263 dX11_findFollows_86 (c_X11_hasRoom l hlt g v2 hv2 M S hF hy) [.int (zi v2)] [] (zFx_kd hF 48 rfl) ⟨_, rfl, by decide, rfl⟩ rfl rfl rfl (zcat (Nat.le_of_ble_eq_true rfl)) (Nat.le_of_ble_eq_true rfl) (Nat.le_of_ble_eq_true rfl) (Nat.le_of_ble_eq_true rfl) (Nat.le_of_ble_eq_true rfl) (fun hp6 => ?_)
                      have hr5 := hp6
                      refine j_if_eq hC dX11_findFollows_89 rfl (w_id hr5) (fun c7 => ?_) (fun c7 => ?_)
                      · have h := zt c7 h
                        obtain rfl := Option.some.inj h
                        have hx78 := hd78
                        rw [← show _ = ex78 from hT] at hx78
                        refine j_sub [0, 1, 2] rfl ?_
                        exact J_156 v2 hv2 M _ hx78 hT78
                      · have h := zf c7 h
                        refine j_aload_n hC 0 dX11_findFollows_92 rfl rfl ?_
                        refine j_iload_n hC 3 dX11_findFollows_93 rfl rfl ?_
                        obtain ⟨r8, hy, h⟩ := zb1_ex h
                        refine j_callVi (ci := 8) hC hE lk_X11_266 dX11_findFollows_94 (c_X11_isFactor l hlt g v3 hv3 M S hF hy) [.int (zi v3)] [] (zFx_kd hF 48 rfl) ⟨_, rfl, by decide, rfl⟩ rfl rfl rfl (zcat (Nat.le_of_ble_eq_true rfl)) (Nat.le_of_ble_eq_true rfl) (Nat.le_of_ble_eq_true rfl) (Nat.le_of_ble_eq_true rfl) (Nat.le_of_ble_eq_true rfl) (fun hp9 => ?_)
                        have hr8 := hp9
                        refine j_if_eq hC dX11_findFollows_97 rfl (w_id hr8) (fun c10 => ?_) (fun c10 => ?_)
                        · have h := zt c10 h
                          exact J_150 v3 hv3 M _ h hT
                        · have h := zf c10 h
                          refine j_aload_n hC 0 dX11_findFollows_100 rfl rfl ?_
                          refine j_iload_n hC 3 dX11_findFollows_101 rfl rfl ?_
                          refine j_bipush hC dX11_findFollows_102 rfl ?_
                          refine j_idiv hC dX11_findFollows_104 (w_id kR_10) (by decide) ?_
                          refine j_iload_n hC 3 dX11_findFollows_105 rfl rfl ?_
                          refine j_bipush hC dX11_findFollows_106 rfl ?_
                          refine j_irem hC dX11_findFollows_108 (w_id kR_10) (by decide) ?_
                          obtain ⟨r11, hy, h⟩ := zb1_ex h
                          refine j_callVi (ci := 8) hC hE lk_X11_269 dX11_findFollows_109 (c_X11_isSelected l hlt g (zdiv v3 10) (zrem v3 10) (cR_zdiv _ _) (cR_zrem _ _) M S hF hy) [.int (zi (zdiv v3 10)), .int (zi (zrem v3 10))] [] (zFx_kd hF 48 rfl) ⟨_, rfl, by decide, rfl⟩ rfl rfl rfl (zcat (Nat.le_of_ble_eq_true rfl)) (Nat.le_of_ble_eq_true rfl) (Nat.le_of_ble_eq_true rfl) (Nat.le_of_ble_eq_true rfl) (Nat.le_of_ble_eq_true rfl) (fun hp12 => ?_)
                          have hr11 := hp12
                          refine j_if_eq hC dX11_findFollows_112 rfl (w_id hr11) (fun c13 => ?_) (fun c13 => ?_)
                          · have h := zt c13 h
                            exact J_150 v3 hv3 M _ h hT
                          · have h := zf c13 h
                            refine j_aload_n hC 0 dX11_findFollows_115 rfl rfl ?_
                            refine j_getq (q := 59) hC dX11_findFollows_116 f_X11_52 (zFx_kd hF 48 rfl) rfl 24 rfl (zFx_rf hF 48 24 rfl) ?_
                            refine j_aload_n hC 0 dX11_findFollows_119 rfl rfl ?_
                            refine j_iload_n hC 2 dX11_findFollows_120 rfl rfl ?_
                            refine j_iload_n hC 3 dX11_findFollows_121 rfl rfl ?_
                            refine j_bipush hC dX11_findFollows_122 rfl ?_
                            refine j_idiv hC dX11_findFollows_124 (w_id kR_10) (by decide) ?_
                            refine j_iload_n hC 3 dX11_findFollows_125 rfl rfl ?_
                            refine j_bipush hC dX11_findFollows_126 rfl ?_
                            refine j_irem hC dX11_findFollows_128 (w_id kR_10) (by decide) ?_
                            obtain ⟨r14, hy, h⟩ := zb1_ex h
                            refine j_callVi (ci := 8) hC hE lk_X11_272 dX11_findFollows_129 (c_X11_inserted l hlt g v2 (zdiv v3 10) (zrem v3 10) hv2 (cR_zdiv _ _) (cR_zrem _ _) M S hF hy) [.int (zi v2), .int (zi (zdiv v3 10)), .int (zi (zrem v3 10))] [zr g 59] (zFx_kd hF 48 rfl) ⟨_, rfl, by decide, rfl⟩ rfl rfl rfl (zcat (Nat.le_of_ble_eq_true rfl)) (Nat.le_of_ble_eq_true rfl) (Nat.le_of_ble_eq_true rfl) (Nat.le_of_ble_eq_true rfl) (Nat.le_of_ble_eq_true rfl) (fun hp15 => ?_)
                            have hr14 := hp15
                            refine j_dup2 hC dX11_findFollows_132 rfl (zr_cat _ _) ?_
                            obtain ⟨c16, h⟩ := zchk_ex h
                            refine j_iald (n := 29524) hC dX11_findFollows_133 (w_id hr14) (zFx_kd hF 59 rfl) (zFx_ln hF 59 rfl) c16.1 c16.2 (fun hg17 => ?_)
                            refine j_iconst hC dX11_findFollows_134 ?_
                            refine j_iload_n hC 2 dX11_findFollows_135 rfl rfl ?_
                            refine j_ishl hC dX11_findFollows_136 ?_
                            refine j_ior hC dX11_findFollows_137 ?_
                            obtain ⟨c18, h⟩ := zchk_ex h
                            obtain ⟨M19, eM19, h⟩ := zlet_ex h
                            refine j_iast (n := 29524) hC dX11_findFollows_138 (w_id hr14) (w_id (cR_zor _ _)) (cR_zor _ _) (zFx_kd hF 59 rfl) (zFx_ln hF 59 rfl) c18.1 c18.2 eM19 ?_
                            refine j_aload_n hC 0 dX11_findFollows_139 rfl rfl ?_
                            refine j_aload_n hC 0 dX11_findFollows_140 rfl rfl ?_
                            refine j_getq (q := 59) hC dX11_findFollows_141 f_X11_52 (zFx_kd hF 48 rfl) rfl 24 rfl (zFx_rf hF 48 24 rfl) ?_
                            refine j_iload_n hC 1 dX11_findFollows_144 rfl rfl ?_
                            obtain ⟨c20, h⟩ := zchk_ex h
                            refine j_iald (n := 29524) hC dX11_findFollows_145 (w_id hv1) (zFx_kd hF 59 rfl) (zFx_ln hF 59 rfl) c20.1 c20.2 (fun hg21 => ?_)
                            refine j_iload_n hC 2 dX11_findFollows_146 rfl rfl ?_
                            obtain ⟨M22, hy, h⟩ := zb1_ex h
                            refine j_callVv (ci := 8) hC hE lk_X11_298 dX11_findFollows_147 (c_X11_link l hlt g (M19 59 v1) v2 hg21 hv2 M19 S hF hy) [.int (zi (M19 59 v1)), .int (zi v2)] [] (zFx_kd hF 48 rfl) ⟨_, rfl, by decide, rfl⟩ rfl rfl rfl (zcat (Nat.le_of_ble_eq_true rfl)) (Nat.le_of_ble_eq_true rfl) (Nat.le_of_ble_eq_true rfl) (Nat.le_of_ble_eq_true rfl) (Nat.le_of_ble_eq_true rfl) (fun hp23 => ?_)
                            exact J_150 v3 hv3 M22 _ h hT
                exact main zN v3 hv3 M hl
              intro v2 hv2 M hl
              obtain ⟨o, h, hT⟩ := zloop_ex hl
              have h : F_X11_findFollows_B53 v1 v2 M = some o := by rw [ebd] at h; exact h
              unfold F_X11_findFollows_B53 at h
              refine j_iload_n hC 2 dX11_findFollows_53 rfl rfl ?_
              refine j_aload_n hC 0 dX11_findFollows_54 rfl rfl ?_
              refine j_get hC dX11_findFollows_55 f_X11_121 (zFx_kd hF 48 rfl) rfl 7 rfl (fun hg24 => ?_)
              refine j_icmp_ge hC dX11_findFollows_58 rfl (w_id hv2) (w_id hg24) (fun c25 => ?_) (fun c25 => ?_)
              · have h := zf c25 h
                obtain rfl := Option.some.inj h
                have hx53 := hd53
                rw [← show _ = ex53 from hT] at hx53
                refine j_sub [0, 1] rfl ?_
                exact J_162 v1 hv1 M _ hx53 hT53
              · have h := zt c25 h
                refine j_aload_n hC 0 dX11_findFollows_61 rfl rfl ?_
                refine j_getq (q := 58) hC dX11_findFollows_62 f_X11_49 (zFx_kd hF 48 rfl) rfl 22 rfl (zFx_rf hF 48 22 rfl) ?_
                refine j_iload_n hC 1 dX11_findFollows_65 rfl rfl ?_
                obtain ⟨c26, h⟩ := zchk_ex h
                refine j_zald (n := 29524) hC dX11_findFollows_66 (w_id hv1) (zFx_kd hF 58 rfl) (zFx_ln hF 58 rfl) c26.1 c26.2 (fun hg27 => ?_)
                refine j_if_eq hC dX11_findFollows_67 rfl (w_id (inR_b hg27)) (fun c28 => ?_) (fun c28 => ?_)
                · have h := zt c28 h
                  obtain rfl := Option.some.inj h
                  have hx53 := hd53
                  rw [← show _ = ex53 from hT] at hx53
                  refine j_sub [0, 1] rfl ?_
                  exact J_162 v1 hv1 M _ hx53 hT53
                · have h := zf c28 h
                  refine j_aload_n hC 0 dX11_findFollows_70 rfl rfl ?_
                  refine j_iload_n hC 1 dX11_findFollows_71 rfl rfl ?_
                  refine j_iload_n hC 2 dX11_findFollows_72 rfl rfl ?_
                  obtain ⟨M29, hy, h⟩ := zb1_ex h
                  refine j_callVv (ci := 8) hC hE lk_X11_260 dX11_findFollows_73 (c_X11_fit l hlt g v1 v2 hv1 hv2 M S hF hy) [.int (zi v1), .int (zi v2)] [] (zFx_kd hF 48 rfl) ⟨_, rfl, by decide, rfl⟩ rfl rfl rfl (zcat (Nat.le_of_ble_eq_true rfl)) (Nat.le_of_ble_eq_true rfl) (Nat.le_of_ble_eq_true rfl) (Nat.le_of_ble_eq_true rfl) (Nat.le_of_ble_eq_true rfl) (fun hp30 => ?_)
                  refine j_iconst hC dX11_findFollows_76 ?_
                  refine j_istore_n hC dX11_findFollows_77 rfl (Nat.le_of_ble_eq_true rfl) rfl ?_
                  refine j_sub [1, 2, 3, 0] rfl ?_
                  exact L_78 v2 0 hv2 kR_0 M29 _ h hT
          exact main zN v2 hv2 M hl
        intro v1 hv1 M hl
        obtain ⟨o, h, hT⟩ := zloop_ex hl
        have h : F_X11_findFollows_B44 v1 M = some o := by rw [ebd] at h; exact h
        unfold F_X11_findFollows_B44 at h
        refine j_iload_n hC 1 dX11_findFollows_44 rfl rfl ?_
        refine j_sipush hC dX11_findFollows_45 rfl ?_
        refine j_icmp_ge hC dX11_findFollows_48 rfl (w_id hv1) (w_id kR_29524) (fun c31 => ?_) (fun c31 => ?_)
        · have h := zf c31 h
          obtain rfl := Option.some.inj h
          have hx44 := hd44
          rw [← show _ = ex44 from hT] at hx44
          refine j_sub [] rfl ?_
          exact J_168 M hx44
        · have h := zt c31 h
          refine j_iconst hC dX11_findFollows_51 ?_
          refine j_istore_n hC dX11_findFollows_52 rfl (Nat.le_of_ble_eq_true rfl) rfl ?_
          refine j_sub [1, 2, 0] rfl ?_
          exact L_53 v1 0 hv1 kR_0 M _ h hT
    exact main zN v1 hv1 M hl
  have J_42 : ∀ (M : zM) (_ : F_X11_findFollows_J42 M = some M'), zJ K g 0 0 42 4 [(0, zr g 48)] [] M S := by
    intro M h
    unfold F_X11_findFollows_J42 at h
    refine j_iconst hC dX11_findFollows_42 ?_
    refine j_istore_n hC dX11_findFollows_43 rfl (Nat.le_of_ble_eq_true rfl) rfl ?_
    refine j_sub [1, 0] rfl ?_
    exact L_44 0 kR_0 M h
  have L_24 : ∀ (v1 : Int) (hv1 : inR v1) (M : zM) (_ : F_X11_findFollows_L24 v1 M = some M'), zJ K g 0 0 24 4 [(0, zr g 48), (1, .int (zi v1))] [] M S := by
    intro v1 hv1 M h
    unfold F_X11_findFollows_L24 at h
    obtain ⟨ex24, hl, hd24⟩ := zb1_ex h
    obtain ⟨bd24, ebd⟩ : ∃ f, f = (fun (s : Int × zM) => F_X11_findFollows_B24 s.1 s.2) := ⟨_, rfl⟩
    rw [← ebd] at hl
    have main : ∀ (n24 : Nat) (v1 : Int) (hv1 : inR v1) (M : zM) (_ : zloop bd24 n24 (v1, M) = some ex24), zJ K g 0 0 24 4 [(0, zr g 48), (1, .int (zi v1))] [] M S := by
      intro n24
      induction n24 with
      | zero => intro v1 hv1 M hl; exact zloop_0 hl
      | succ n24 ih24 =>
        intro v1 hv1 M hl
        obtain ⟨o, h, hT⟩ := zloop_ex hl
        have h : F_X11_findFollows_B24 v1 M = some o := by rw [ebd] at h; exact h
        unfold F_X11_findFollows_B24 at h
        refine j_iload_n hC 1 dX11_findFollows_24 rfl rfl ?_
        refine j_iconst hC dX11_findFollows_25 ?_
        refine j_icmp_ge hC dX11_findFollows_26 rfl (w_id hv1) (w_id kR_5) (fun c32 => ?_) (fun c32 => ?_)
        · have h := zf c32 h
          obtain rfl := Option.some.inj h
          have hx24 := hd24
          rw [← show _ = ex24 from hT] at hx24
          refine j_sub [0] rfl ?_
          exact J_42 M hx24
        · have h := zt c32 h
          refine j_aload_n hC 0 dX11_findFollows_29 rfl rfl ?_
          refine j_getq (q := 60) hC dX11_findFollows_30 f_X11_55 (zFx_kd hF 48 rfl) rfl 25 rfl (zFx_rf hF 48 25 rfl) ?_
          refine j_iload_n hC 1 dX11_findFollows_33 rfl rfl ?_
          refine j_iconst hC dX11_findFollows_34 ?_
          obtain ⟨c33, h⟩ := zchk_ex h
          obtain ⟨M34, eM34, h⟩ := zlet_ex h
          refine j_iast (n := 5) hC dX11_findFollows_35 (w_id hv1) (w_id kR_0) kR_0 (zFx_kd hF 60 rfl) (zFx_ln hF 60 rfl) c33.1 c33.2 eM34 ?_
          obtain ⟨x35, ex35, h⟩ := zlet_ex h
          have hx35 : inR x35 := by rw [ex35]; exact inR_w _
          refine j_iinc hC 1 dX11_findFollows_36 rfl ex35 (Nat.le_of_ble_eq_true rfl) rfl ?_
          refine j_goto hC dX11_findFollows_39 rfl ?_
          obtain rfl := Option.some.inj h
          refine j_sub [1, 0] rfl ?_
          exact ih24 x35 hx35 M34 hT
    exact main zN v1 hv1 M hl
  have J_22 : ∀ (M : zM) (_ : F_X11_findFollows_J22 M = some M'), zJ K g 0 0 22 4 [(0, zr g 48)] [] M S := by
    intro M h
    unfold F_X11_findFollows_J22 at h
    refine j_iconst hC dX11_findFollows_22 ?_
    refine j_istore_n hC dX11_findFollows_23 rfl (Nat.le_of_ble_eq_true rfl) rfl ?_
    refine j_sub [1, 0] rfl ?_
    exact L_24 0 kR_0 M h
  have L_2 : ∀ (v1 : Int) (hv1 : inR v1) (M : zM) (_ : F_X11_findFollows_L2 v1 M = some M'), zJ K g 0 0 2 4 [(0, zr g 48), (1, .int (zi v1))] [] M S := by
    intro v1 hv1 M h
    unfold F_X11_findFollows_L2 at h
    obtain ⟨ex2, hl, hd2⟩ := zb1_ex h
    obtain ⟨bd2, ebd⟩ : ∃ f, f = (fun (s : Int × zM) => F_X11_findFollows_B2 s.1 s.2) := ⟨_, rfl⟩
    rw [← ebd] at hl
    have main : ∀ (n2 : Nat) (v1 : Int) (hv1 : inR v1) (M : zM) (_ : zloop bd2 n2 (v1, M) = some ex2), zJ K g 0 0 2 4 [(0, zr g 48), (1, .int (zi v1))] [] M S := by
      intro n2
      induction n2 with
      | zero => intro v1 hv1 M hl; exact zloop_0 hl
      | succ n2 ih2 =>
        intro v1 hv1 M hl
        obtain ⟨o, h, hT⟩ := zloop_ex hl
        have h : F_X11_findFollows_B2 v1 M = some o := by rw [ebd] at h; exact h
        unfold F_X11_findFollows_B2 at h
        refine j_iload_n hC 1 dX11_findFollows_2 rfl rfl ?_
        refine j_sipush hC dX11_findFollows_3 rfl ?_
        refine j_icmp_ge hC dX11_findFollows_6 rfl (w_id hv1) (w_id kR_29524) (fun c36 => ?_) (fun c36 => ?_)
        · have h := zf c36 h
          obtain rfl := Option.some.inj h
          have hx2 := hd2
          rw [← show _ = ex2 from hT] at hx2
          refine j_sub [0] rfl ?_
          exact J_22 M hx2
        · have h := zt c36 h
          refine j_aload_n hC 0 dX11_findFollows_9 rfl rfl ?_
          refine j_getq (q := 59) hC dX11_findFollows_10 f_X11_52 (zFx_kd hF 48 rfl) rfl 24 rfl (zFx_rf hF 48 24 rfl) ?_
          refine j_iload_n hC 1 dX11_findFollows_13 rfl rfl ?_
          refine j_iconst hC dX11_findFollows_14 ?_
          obtain ⟨c37, h⟩ := zchk_ex h
          obtain ⟨M38, eM38, h⟩ := zlet_ex h
          refine j_iast (n := 29524) hC dX11_findFollows_15 (w_id hv1) (w_id kR_0) kR_0 (zFx_kd hF 59 rfl) (zFx_ln hF 59 rfl) c37.1 c37.2 eM38 ?_
          obtain ⟨x39, ex39, h⟩ := zlet_ex h
          have hx39 : inR x39 := by rw [ex39]; exact inR_w _
          refine j_iinc hC 1 dX11_findFollows_16 rfl ex39 (Nat.le_of_ble_eq_true rfl) rfl ?_
          refine j_goto hC dX11_findFollows_19 rfl ?_
          obtain rfl := Option.some.inj h
          refine j_sub [1, 0] rfl ?_
          exact ih2 x39 hx39 M38 hT
    exact main zN v1 hv1 M hl
  refine j_iconst hC dX11_findFollows_0 ?_
  refine j_istore_n hC dX11_findFollows_1 rfl (Nat.le_of_ble_eq_true rfl) rfl ?_
  refine j_sub [1, 0] rfl ?_
  exact L_2 0 kR_0 M h
set_option maxHeartbeats 4000000 in
set_option maxRecDepth 100000 in
theorem c_X11_canFollow (l : Launch) (hlt : l.stackTraces = false) (g : zG) (v1 : Int) (v2 : Int) (hv1 : inR v1) (hv2 : inR v2) (M : zM) (S : zS) (hF : zFx S) {r : Int} {M' : zM} (h : F_X11_canFollow v1 v2 M = some (r, M')) : zMet l g yX11_canFollow cX11_canFollow 3 (some .boolean) 11 0 0 [zr g 48, .int (zi v1), .int (zi v2)] M S (.inl (some (.int (zi r)))) M' S (inR r) := by
  refine zMet_of (by decide) hlt [(0, zr g 48), (1, .int (zi v1)), (2, .int (zi v2))] rfl (Nat.le_of_ble_eq_true rfl) (fun K hC hE hN => ?_)
  unfold F_X11_canFollow at h
  have J_21 : ∀ (M : zM) (_ : F_X11_canFollow_J21 M = some (r, M')), zJ K g 0 0 21 3 [(0, zr g 48)] [] M S := by
    intro M h
    unfold F_X11_canFollow_J21 at h
    refine j_aload_n hC 0 dX11_canFollow_21 rfl rfl ?_
    refine j_iconst hC dX11_canFollow_22 ?_
    obtain ⟨r1, M2, hy, h⟩ := zb2_ex h
    refine j_callVi (ci := 8) hC hE lk_X11_134 dX11_canFollow_23 (c_X11_fail l hlt g 1 kR_1 M S hF hy) [.int (zi 1)] [] (zFx_kd hF 48 rfl) ⟨_, rfl, by decide, rfl⟩ rfl rfl rfl (zcat (Nat.le_of_ble_eq_true rfl)) (Nat.le_of_ble_eq_true rfl) (Nat.le_of_ble_eq_true rfl) (Nat.le_of_ble_eq_true rfl) (Nat.le_of_ble_eq_true rfl) (fun hp3 => ?_)
    have hr1 := hp3
    refine j_if_le hC dX11_canFollow_26 rfl (w_id hr1) (fun c4 => ?_) (fun c4 => ?_)
    · have h := zf c4 h
      refine j_iconst hC dX11_canFollow_33 ?_
      obtain ⟨e1, e2⟩ := zpr2 (Option.some.inj h)
      exact j_iret hC hE dX11_canFollow_34 (w_id kR_0) (zn_z zb01_0) (by rw [← e1]) e2 rfl (by rw [← e1]; exact kR_0) (Nat.le_of_ble_eq_true rfl) (Nat.le_of_ble_eq_true rfl)
    · have h := zt c4 h
      refine j_iconst hC dX11_canFollow_29 ?_
      refine j_goto hC dX11_canFollow_30 rfl ?_
      obtain ⟨e1, e2⟩ := zpr2 (Option.some.inj h)
      exact j_iret hC hE dX11_canFollow_34 (w_id kR_1) (zn_z zb01_1) (by rw [← e1]) e2 rfl (by rw [← e1]; exact kR_1) (Nat.le_of_ble_eq_true rfl) (Nat.le_of_ble_eq_true rfl)
  refine j_aload_n hC 0 dX11_canFollow_0 rfl rfl ?_
  refine j_iconst hC dX11_canFollow_1 ?_
  obtain ⟨M5, eM5, h⟩ := zlet_ex h
  refine j_put hC dX11_canFollow_2 f_X11_104 pF_X11 (zFx_kd hF 48 rfl) (Or.inl rfl) rfl 0 rfl (w_id kR_0) kR_0 eM5 ?_
  refine j_aload_n hC 0 dX11_canFollow_5 rfl rfl ?_
  refine j_iload_n hC 1 dX11_canFollow_6 rfl rfl ?_
  obtain ⟨r6, hy, h⟩ := zb1_ex h
  refine j_callVi (ci := 8) hC hE lk_X11_137 dX11_canFollow_7 (c_X11_isContext l hlt g v1 hv1 M5 S hF hy) [.int (zi v1)] [] (zFx_kd hF 48 rfl) ⟨_, rfl, by decide, rfl⟩ rfl rfl rfl (zcat (Nat.le_of_ble_eq_true rfl)) (Nat.le_of_ble_eq_true rfl) (Nat.le_of_ble_eq_true rfl) (Nat.le_of_ble_eq_true rfl) (Nat.le_of_ble_eq_true rfl) (fun hp7 => ?_)
  have hr6 := hp7
  refine j_if_eq hC dX11_canFollow_10 rfl (w_id hr6) (fun c8 => ?_) (fun c8 => ?_)
  · have h := zt c8 h
    refine j_sub [0] rfl ?_
    exact J_21 M5 h
  · have h := zf c8 h
    refine j_aload_n hC 0 dX11_canFollow_13 rfl rfl ?_
    refine j_iload_n hC 2 dX11_canFollow_14 rfl rfl ?_
    obtain ⟨r9, hy, h⟩ := zb1_ex h
    refine j_callVi (ci := 8) hC hE lk_X11_137 dX11_canFollow_15 (c_X11_isContext l hlt g v2 hv2 M5 S hF hy) [.int (zi v2)] [] (zFx_kd hF 48 rfl) ⟨_, rfl, by decide, rfl⟩ rfl rfl rfl (zcat (Nat.le_of_ble_eq_true rfl)) (Nat.le_of_ble_eq_true rfl) (Nat.le_of_ble_eq_true rfl) (Nat.le_of_ble_eq_true rfl) (Nat.le_of_ble_eq_true rfl) (fun hp10 => ?_)
    have hr9 := hp10
    refine j_if_ne hC dX11_canFollow_18 rfl (w_id hr9) (fun c11 => ?_) (fun c11 => ?_)
    · have h := zf c11 h
      refine j_aload_n hC 0 dX11_canFollow_35 rfl rfl ?_
      obtain ⟨r12, M13, hy, h⟩ := zb2_ex h
      refine j_callVi (ci := 8) hC hE lk_X11_278 dX11_canFollow_36 (c_X11_findAll l hlt g M5 S hF hy) [] [] (zFx_kd hF 48 rfl) ⟨_, rfl, by decide, rfl⟩ rfl rfl rfl (zcat (Nat.le_of_ble_eq_true rfl)) (Nat.le_of_ble_eq_true rfl) (Nat.le_of_ble_eq_true rfl) (Nat.le_of_ble_eq_true rfl) (Nat.le_of_ble_eq_true rfl) (fun hp14 => ?_)
      have hr12 := hp14
      refine j_if_ne hC dX11_canFollow_39 rfl (w_id hr12) (fun c15 => ?_) (fun c15 => ?_)
      · have h := zf c15 h
        refine j_aload_n hC 0 dX11_canFollow_56 rfl rfl ?_
        obtain ⟨M16, hy, h⟩ := zb1_ex h
        refine j_callVv (ci := 8) hC hE lk_X11_301 dX11_canFollow_57 (c_X11_findFollows l hlt g M13 S hF hy) [] [] (zFx_kd hF 48 rfl) ⟨_, rfl, by decide, rfl⟩ rfl rfl rfl (zcat (Nat.le_of_ble_eq_true rfl)) (Nat.le_of_ble_eq_true rfl) (Nat.le_of_ble_eq_true rfl) (Nat.le_of_ble_eq_true rfl) (Nat.le_of_ble_eq_true rfl) (fun hp17 => ?_)
        refine j_aload_n hC 0 dX11_canFollow_60 rfl rfl ?_
        refine j_getq (q := 60) hC dX11_canFollow_61 f_X11_55 (zFx_kd hF 48 rfl) rfl 25 rfl (zFx_rf hF 48 25 rfl) ?_
        refine j_iload_n hC 1 dX11_canFollow_64 rfl rfl ?_
        obtain ⟨c18, h⟩ := zchk_ex h
        refine j_iald (n := 5) hC dX11_canFollow_65 (w_id hv1) (zFx_kd hF 60 rfl) (zFx_ln hF 60 rfl) c18.1 c18.2 (fun hg19 => ?_)
        refine j_iload_n hC 2 dX11_canFollow_66 rfl rfl ?_
        refine j_ishr hC dX11_canFollow_67 ?_
        refine j_iconst hC dX11_canFollow_68 ?_
        refine j_iand hC dX11_canFollow_69 ?_
        refine j_iconst hC dX11_canFollow_70 ?_
        refine j_icmp_ne hC dX11_canFollow_71 rfl (w_id (cR_zand _ _)) (w_id kR_1) (fun c20 => ?_) (fun c20 => ?_)
        · have h := zf c20 h
          refine j_iconst hC dX11_canFollow_78 ?_
          obtain ⟨e1, e2⟩ := zpr2 (Option.some.inj h)
          exact j_iret hC hE dX11_canFollow_79 (w_id kR_0) (zn_z zb01_0) (by rw [← e1]) e2 rfl (by rw [← e1]; exact kR_0) (Nat.le_of_ble_eq_true rfl) (Nat.le_of_ble_eq_true rfl)
        · have h := zt c20 h
          refine j_iconst hC dX11_canFollow_74 ?_
          refine j_goto hC dX11_canFollow_75 rfl ?_
          obtain ⟨e1, e2⟩ := zpr2 (Option.some.inj h)
          exact j_iret hC hE dX11_canFollow_79 (w_id kR_1) (zn_z zb01_1) (by rw [← e1]) e2 rfl (by rw [← e1]; exact kR_1) (Nat.le_of_ble_eq_true rfl) (Nat.le_of_ble_eq_true rfl)
      · have h := zt c15 h
        refine j_aload_n hC 0 dX11_canFollow_42 rfl rfl ?_
        refine j_iconst hC dX11_canFollow_43 ?_
        obtain ⟨r21, M22, hy, h⟩ := zb2_ex h
        refine j_callVi (ci := 8) hC hE lk_X11_134 dX11_canFollow_44 (c_X11_fail l hlt g 2 kR_2 M13 S hF hy) [.int (zi 2)] [] (zFx_kd hF 48 rfl) ⟨_, rfl, by decide, rfl⟩ rfl rfl rfl (zcat (Nat.le_of_ble_eq_true rfl)) (Nat.le_of_ble_eq_true rfl) (Nat.le_of_ble_eq_true rfl) (Nat.le_of_ble_eq_true rfl) (Nat.le_of_ble_eq_true rfl) (fun hp23 => ?_)
        have hr21 := hp23
        refine j_if_le hC dX11_canFollow_47 rfl (w_id hr21) (fun c24 => ?_) (fun c24 => ?_)
        · have h := zf c24 h
          refine j_iconst hC dX11_canFollow_54 ?_
          obtain ⟨e1, e2⟩ := zpr2 (Option.some.inj h)
          exact j_iret hC hE dX11_canFollow_55 (w_id kR_0) (zn_z zb01_0) (by rw [← e1]) e2 rfl (by rw [← e1]; exact kR_0) (Nat.le_of_ble_eq_true rfl) (Nat.le_of_ble_eq_true rfl)
        · have h := zt c24 h
          refine j_iconst hC dX11_canFollow_50 ?_
          refine j_goto hC dX11_canFollow_51 rfl ?_
          obtain ⟨e1, e2⟩ := zpr2 (Option.some.inj h)
          exact j_iret hC hE dX11_canFollow_55 (w_id kR_1) (zn_z zb01_1) (by rw [← e1]) e2 rfl (by rw [← e1]; exact kR_1) (Nat.le_of_ble_eq_true rfl) (Nat.le_of_ble_eq_true rfl)
    · have h := zt c11 h
      refine j_sub [0] rfl ?_
      exact J_21 M5 h
set_option maxHeartbeats 4000000 in
set_option maxRecDepth 100000 in
theorem c_X11_shortestLoop (l : Launch) (hlt : l.stackTraces = false) (g : zG) (v1 : Int) (hv1 : inR v1) (M : zM) (S : zS) (hF : zFx S) {r : Int} {M' : zM} (h : F_X11_shortestLoop v1 M = some (r, M')) : zMet l g yX11_shortestLoop cX11_shortestLoop 6 (some .int) 11 0 0 [zr g 48, .int (zi v1)] M S (.inl (some (.int (zi r)))) M' S (inR r) := by
  refine zMet_of (by decide) hlt [(0, zr g 48), (1, .int (zi v1))] rfl (Nat.le_of_ble_eq_true rfl) (fun K hC hE hN => ?_)
  unfold F_X11_shortestLoop at h
  have J_112 : ∀ (M : zM) (_ : F_X11_shortestLoop_J112 M = some (r, M')), zJ K g 0 0 112 6 [(0, zr g 48)] [] M S := by
    intro M h
    unfold F_X11_shortestLoop_J112 at h
    refine j_aload_n hC 0 dX11_shortestLoop_112 rfl rfl ?_
    refine j_iconst hC dX11_shortestLoop_113 ?_
    obtain ⟨r1, M2, hy, h⟩ := zb2_ex h
    refine j_callVi (ci := 8) hC hE lk_X11_134 dX11_shortestLoop_114 (c_X11_fail l hlt g 3 kR_3 M S hF hy) [.int (zi 3)] [] (zFx_kd hF 48 rfl) ⟨_, rfl, by decide, rfl⟩ rfl rfl rfl (zcat (Nat.le_of_ble_eq_true rfl)) (Nat.le_of_ble_eq_true rfl) (Nat.le_of_ble_eq_true rfl) (Nat.le_of_ble_eq_true rfl) (Nat.le_of_ble_eq_true rfl) (fun hp3 => ?_)
    have hr1 := hp3
    obtain ⟨e1, e2⟩ := zpr2 (Option.some.inj h)
    exact j_iret hC hE dX11_shortestLoop_117 (w_id hr1) (zn_i _) (by rw [← e1]) e2 rfl (by rw [← e1]; exact hr1) (Nat.le_of_ble_eq_true rfl) (Nat.le_of_ble_eq_true rfl)
  have J_101 : ∀ (v3 : Int) (hv3 : inR v3) (M : zM) (_ : F_X11_shortestLoop_J101 v3 M = some (r, M')), zJ K g 0 0 101 6 [(3, .int (zi v3))] [] M S := by
    intro v3 hv3 M h
    unfold F_X11_shortestLoop_J101 at h
    refine j_iload_n hC 0 dX11_shortestLoop_101 rfl rfl ?_
    obtain ⟨e1, e2⟩ := zpr2 (Option.some.inj h)
    exact j_iret hC hE dX11_shortestLoop_102 (w_id hv3) (zn_i _) (by rw [← e1]) e2 rfl (by rw [← e1]; exact hv3) (Nat.le_of_ble_eq_true rfl) (Nat.le_of_ble_eq_true rfl)
  have L_42 : ∀ (v1 : Int) (v2 : Int) (v3 : Int) (hv1 : inR v1) (hv2 : inR v2) (hv3 : inR v3) (M : zM) (_ : F_X11_shortestLoop_L42 v1 v2 v3 M = some (r, M')), zJ K g 0 0 42 6 [(0, zr g 48), (1, .int (zi v1)), (2, .int (zi v2)), (3, .int (zi v3))] [] M S := by
    intro v1 v2 v3 hv1 hv2 hv3 M h
    unfold F_X11_shortestLoop_L42 at h
    obtain ⟨ex42, hl, hd42⟩ := zb1_ex h
    obtain ⟨bd42, ebd⟩ : ∃ f, f = (fun (s : Int × Int) => F_X11_shortestLoop_B42 v1 s.1 s.2 M) := ⟨_, rfl⟩
    rw [← ebd] at hl
    have main : ∀ (n42 : Nat) (v2 : Int) (v3 : Int) (hv2 : inR v2) (hv3 : inR v3) (_ : zloop bd42 n42 (v2, v3) = some ex42), zJ K g 0 0 42 6 [(0, zr g 48), (1, .int (zi v1)), (2, .int (zi v2)), (3, .int (zi v3))] [] M S := by
      intro n42
      induction n42 with
      | zero => intro v2 v3 hv2 hv3 hl; exact zloop_0 hl
      | succ n42 ih42 =>
        have J_91 : ∀ (v3 : Int) (v4 : Int) (hv3 : inR v3) (hv4 : inR v4) (o : _) (_ : F_X11_shortestLoop_J91 v1 v3 v4 M = some o), zAft (bd42) n42 ex42 o → zJ K g 0 0 91 6 [(0, zr g 48), (1, .int (zi v1)), (3, .int (zi v3)), (4, .int (zi v4))] [] M S := by
          intro v3 v4 hv3 hv4 o h hT
          unfold F_X11_shortestLoop_J91 at h
          refine j_iload hC 3 dX11_shortestLoop_91 rfl ?_
          refine j_iload_n hC 1 dX11_shortestLoop_93 rfl rfl ?_
          refine j_ishr hC dX11_shortestLoop_94 ?_
          refine j_iconst hC dX11_shortestLoop_95 ?_
          refine j_iand hC dX11_shortestLoop_96 ?_
          refine j_iconst hC dX11_shortestLoop_97 ?_
          refine j_icmp_ne hC dX11_shortestLoop_98 rfl (w_id (cR_zand _ _)) (w_id kR_1) (fun c4 => ?_) (fun c4 => ?_)
          · have h := zf c4 h
            refine j_iload hC 3 dX11_shortestLoop_103 rfl ?_
            refine j_istore_n hC dX11_shortestLoop_105 rfl (Nat.le_of_ble_eq_true rfl) rfl ?_
            obtain ⟨x5, ex5, h⟩ := zlet_ex h
            have hx5 : inR x5 := by rw [ex5]; exact inR_w _
            refine j_iinc hC 3 dX11_shortestLoop_106 rfl ex5 (Nat.le_of_ble_eq_true rfl) rfl ?_
            refine j_goto hC dX11_shortestLoop_109 rfl ?_
            obtain rfl := Option.some.inj h
            refine j_sub [2, 3, 1, 0] rfl ?_
            exact ih42 v4 x5 hv4 hx5 hT
          · have h := zt c4 h
            obtain rfl := Option.some.inj h
            have hx42 := hd42
            rw [← show _ = ex42 from hT] at hx42
            dsimp only [Sum.elim] at hx42
            refine j_sub [2] rfl ?_
            exact J_101 v3 hv3 M hx42
        have L_53 : ∀ (v2 : Int) (v3 : Int) (v4 : Int) (v5 : Int) (hv2 : inR v2) (hv3 : inR v3) (hv4 : inR v4) (hv5 : inR v5) (o : _) (_ : F_X11_shortestLoop_L53 v1 v2 v3 v4 v5 M = some o), zAft (bd42) n42 ex42 o → zJ K g 0 0 53 6 [(0, zr g 48), (1, .int (zi v1)), (2, .int (zi v2)), (3, .int (zi v3)), (4, .int (zi v4)), (5, .int (zi v5))] [] M S := by
          intro v2 v3 v4 v5 hv2 hv3 hv4 hv5 oh53 h hT53
          unfold F_X11_shortestLoop_L53 at h
          obtain ⟨ex53, hl, hd53⟩ := zb1_ex h
          obtain ⟨bd53, ebd⟩ : ∃ f, f = (fun (s : Int × Int) => F_X11_shortestLoop_B53 v1 v2 v3 s.1 s.2 M) := ⟨_, rfl⟩
          rw [← ebd] at hl
          have main : ∀ (n53 : Nat) (v4 : Int) (v5 : Int) (hv4 : inR v4) (hv5 : inR v5) (_ : zloop bd53 n53 (v4, v5) = some ex53), zJ K g 0 0 53 6 [(0, zr g 48), (1, .int (zi v1)), (2, .int (zi v2)), (3, .int (zi v3)), (4, .int (zi v4)), (5, .int (zi v5))] [] M S := by
            intro n53
            induction n53 with
            | zero => intro v4 v5 hv4 hv5 hl; exact zloop_0 hl
            | succ n53 ih53 =>
              have J_82 : ∀ (v5 : Int) (t0 : Int) (t1 : Int) (hv5 : inR v5) (ht0 : inR t0) (ht1 : inR t1) (o : _) (_ : F_X11_shortestLoop_J82 v1 v2 v3 v5 t0 t1 M = some o), zAft (bd53) n53 ex53 o → zJ K g 0 0 82 6 [(0, zr g 48), (1, .int (zi v1)), (2, .int (zi v2)), (3, .int (zi v3)), (5, .int (zi v5))] [.int (zi t1), .int (zi t0)] M S := by
                intro v5 t0 t1 hv5 ht0 ht1 o h hT
                unfold F_X11_shortestLoop_J82 at h
                refine j_ior hC dX11_shortestLoop_82 ?_
                obtain ⟨x6, ex6, h⟩ := zlet_ex h
                have hx6 : inR x6 := by rw [ex6]; exact (cR_zor _ _)
                refine j_names ex6 ?_
                refine j_istore hC dX11_shortestLoop_83 (Nat.le_of_ble_eq_true rfl) rfl ?_
                obtain ⟨x7, ex7, h⟩ := zlet_ex h
                have hx7 : inR x7 := by rw [ex7]; exact inR_w _
                refine j_iinc hC 5 dX11_shortestLoop_85 rfl ex7 (Nat.le_of_ble_eq_true rfl) rfl ?_
                refine j_goto hC dX11_shortestLoop_88 rfl ?_
                obtain rfl := Option.some.inj h
                refine j_sub [2, 3, 4, 5, 1, 0] rfl ?_
                exact ih53 x6 x7 hx6 hx7 hT
              intro v4 v5 hv4 hv5 hl
              obtain ⟨o, h, hT⟩ := zloop_ex hl
              have h : F_X11_shortestLoop_B53 v1 v2 v3 v4 v5 M = some o := by rw [ebd] at h; exact h
              unfold F_X11_shortestLoop_B53 at h
              refine j_iload hC 5 dX11_shortestLoop_53 rfl ?_
              refine j_iconst hC dX11_shortestLoop_55 ?_
              refine j_icmp_ge hC dX11_shortestLoop_56 rfl (w_id hv5) (w_id kR_5) (fun c8 => ?_) (fun c8 => ?_)
              · have h := zf c8 h
                obtain rfl := Option.some.inj h
                have hx53 := hd53
                rw [← show _ = ex53 from hT] at hx53
                refine j_sub [0, 1, 3, 4] rfl ?_
                exact J_91 v3 v4 hv3 hv4 _ hx53 hT53
              · have h := zt c8 h
                refine j_iload hC 4 dX11_shortestLoop_59 rfl ?_
                refine j_iload_n hC 2 dX11_shortestLoop_61 rfl rfl ?_
                refine j_iload hC 5 dX11_shortestLoop_62 rfl ?_
                refine j_ishr hC dX11_shortestLoop_64 ?_
                refine j_iconst hC dX11_shortestLoop_65 ?_
                refine j_iand hC dX11_shortestLoop_66 ?_
                refine j_iconst hC dX11_shortestLoop_67 ?_
                refine j_icmp_ne hC dX11_shortestLoop_68 rfl (w_id (cR_zand _ _)) (w_id kR_1) (fun c9 => ?_) (fun c9 => ?_)
                · have h := zf c9 h
                  refine j_iconst hC dX11_shortestLoop_81 ?_
                  refine j_sub [0, 1, 2, 3, 5] rfl ?_
                  exact J_82 v5 v4 0 hv5 hv4 kR_0 _ h hT
                · have h := zt c9 h
                  refine j_aload_n hC 0 dX11_shortestLoop_71 rfl rfl ?_
                  refine j_getq (q := 60) hC dX11_shortestLoop_72 f_X11_55 (zFx_kd hF 48 rfl) rfl 25 rfl (zFx_rf hF 48 25 rfl) ?_
                  refine j_iload hC 5 dX11_shortestLoop_75 rfl ?_
                  obtain ⟨c10, h⟩ := zchk_ex h
                  refine j_iald (n := 5) hC dX11_shortestLoop_77 (w_id hv5) (zFx_kd hF 60 rfl) (zFx_ln hF 60 rfl) c10.1 c10.2 (fun hg11 => ?_)
                  refine j_goto hC dX11_shortestLoop_78 rfl ?_
                  refine j_sub [0, 1, 2, 3, 5] rfl ?_
                  exact J_82 v5 v4 (M 60 v5) hv5 hv4 hg11 _ h hT
          exact main zN v4 v5 hv4 hv5 hl
        intro v2 v3 hv2 hv3 hl
        obtain ⟨o, h, hT⟩ := zloop_ex hl
        have h : F_X11_shortestLoop_B42 v1 v2 v3 M = some o := by rw [ebd] at h; exact h
        unfold F_X11_shortestLoop_B42 at h
        refine j_iload_n hC 3 dX11_shortestLoop_42 rfl rfl ?_
        refine j_iconst hC dX11_shortestLoop_43 ?_
        refine j_icmp_gt hC dX11_shortestLoop_44 rfl (w_id hv3) (w_id kR_5) (fun c12 => ?_) (fun c12 => ?_)
        · have h := zt c12 h
          obtain rfl := Option.some.inj h
          have hx42 := hd42
          rw [← show _ = ex42 from hT] at hx42
          dsimp only [Sum.elim] at hx42
          refine j_sub [0] rfl ?_
          exact J_112 M hx42
        · have h := zf c12 h
          refine j_iconst hC dX11_shortestLoop_47 ?_
          refine j_istore hC dX11_shortestLoop_48 (Nat.le_of_ble_eq_true rfl) rfl ?_
          refine j_iconst hC dX11_shortestLoop_50 ?_
          refine j_istore hC dX11_shortestLoop_51 (Nat.le_of_ble_eq_true rfl) rfl ?_
          refine j_sub [2, 3, 4, 5, 1, 0] rfl ?_
          exact L_53 v2 v3 0 0 hv2 hv3 kR_0 kR_0 _ h hT
    exact main zN v2 v3 hv2 hv3 hl
  refine j_aload_n hC 0 dX11_shortestLoop_0 rfl rfl ?_
  refine j_iconst hC dX11_shortestLoop_1 ?_
  obtain ⟨M13, eM13, h⟩ := zlet_ex h
  refine j_put hC dX11_shortestLoop_2 f_X11_104 pF_X11 (zFx_kd hF 48 rfl) (Or.inl rfl) rfl 0 rfl (w_id kR_0) kR_0 eM13 ?_
  refine j_aload_n hC 0 dX11_shortestLoop_5 rfl rfl ?_
  refine j_iload_n hC 1 dX11_shortestLoop_6 rfl rfl ?_
  obtain ⟨r14, hy, h⟩ := zb1_ex h
  refine j_callVi (ci := 8) hC hE lk_X11_137 dX11_shortestLoop_7 (c_X11_isContext l hlt g v1 hv1 M13 S hF hy) [.int (zi v1)] [] (zFx_kd hF 48 rfl) ⟨_, rfl, by decide, rfl⟩ rfl rfl rfl (zcat (Nat.le_of_ble_eq_true rfl)) (Nat.le_of_ble_eq_true rfl) (Nat.le_of_ble_eq_true rfl) (Nat.le_of_ble_eq_true rfl) (Nat.le_of_ble_eq_true rfl) (fun hp15 => ?_)
  have hr14 := hp15
  refine j_if_ne hC dX11_shortestLoop_10 rfl (w_id hr14) (fun c16 => ?_) (fun c16 => ?_)
  · have h := zf c16 h
    refine j_aload_n hC 0 dX11_shortestLoop_19 rfl rfl ?_
    obtain ⟨r17, M18, hy, h⟩ := zb2_ex h
    refine j_callVi (ci := 8) hC hE lk_X11_278 dX11_shortestLoop_20 (c_X11_findAll l hlt g M13 S hF hy) [] [] (zFx_kd hF 48 rfl) ⟨_, rfl, by decide, rfl⟩ rfl rfl rfl (zcat (Nat.le_of_ble_eq_true rfl)) (Nat.le_of_ble_eq_true rfl) (Nat.le_of_ble_eq_true rfl) (Nat.le_of_ble_eq_true rfl) (Nat.le_of_ble_eq_true rfl) (fun hp19 => ?_)
    have hr17 := hp19
    refine j_if_ne hC dX11_shortestLoop_23 rfl (w_id hr17) (fun c20 => ?_) (fun c20 => ?_)
    · have h := zf c20 h
      refine j_aload_n hC 0 dX11_shortestLoop_32 rfl rfl ?_
      obtain ⟨M21, hy, h⟩ := zb1_ex h
      refine j_callVv (ci := 8) hC hE lk_X11_301 dX11_shortestLoop_33 (c_X11_findFollows l hlt g M18 S hF hy) [] [] (zFx_kd hF 48 rfl) ⟨_, rfl, by decide, rfl⟩ rfl rfl rfl (zcat (Nat.le_of_ble_eq_true rfl)) (Nat.le_of_ble_eq_true rfl) (Nat.le_of_ble_eq_true rfl) (Nat.le_of_ble_eq_true rfl) (Nat.le_of_ble_eq_true rfl) (fun hp22 => ?_)
      refine j_iconst hC dX11_shortestLoop_36 ?_
      refine j_iload_n hC 1 dX11_shortestLoop_37 rfl rfl ?_
      refine j_ishl hC dX11_shortestLoop_38 ?_
      obtain ⟨x23, ex23, h⟩ := zlet_ex h
      have hx23 : inR x23 := by rw [ex23]; exact (cR_zshl _ _)
      refine j_names ex23 ?_
      refine j_istore_n hC dX11_shortestLoop_39 rfl (Nat.le_of_ble_eq_true rfl) rfl ?_
      refine j_iconst hC dX11_shortestLoop_40 ?_
      refine j_istore_n hC dX11_shortestLoop_41 rfl (Nat.le_of_ble_eq_true rfl) rfl ?_
      refine j_sub [2, 3, 1, 0] rfl ?_
      exact L_42 v1 x23 1 hv1 hx23 kR_1 M21 h
    · have h := zt c20 h
      refine j_aload_n hC 0 dX11_shortestLoop_26 rfl rfl ?_
      refine j_iconst hC dX11_shortestLoop_27 ?_
      obtain ⟨r24, M25, hy, h⟩ := zb2_ex h
      refine j_callVi (ci := 8) hC hE lk_X11_134 dX11_shortestLoop_28 (c_X11_fail l hlt g 2 kR_2 M18 S hF hy) [.int (zi 2)] [] (zFx_kd hF 48 rfl) ⟨_, rfl, by decide, rfl⟩ rfl rfl rfl (zcat (Nat.le_of_ble_eq_true rfl)) (Nat.le_of_ble_eq_true rfl) (Nat.le_of_ble_eq_true rfl) (Nat.le_of_ble_eq_true rfl) (Nat.le_of_ble_eq_true rfl) (fun hp26 => ?_)
      have hr24 := hp26
      obtain ⟨e1, e2⟩ := zpr2 (Option.some.inj h)
      exact j_iret hC hE dX11_shortestLoop_31 (w_id hr24) (zn_i _) (by rw [← e1]) e2 rfl (by rw [← e1]; exact hr24) (Nat.le_of_ble_eq_true rfl) (Nat.le_of_ble_eq_true rfl)
  · have h := zt c16 h
    refine j_aload_n hC 0 dX11_shortestLoop_13 rfl rfl ?_
    refine j_iconst hC dX11_shortestLoop_14 ?_
    obtain ⟨r27, M28, hy, h⟩ := zb2_ex h
    refine j_callVi (ci := 8) hC hE lk_X11_134 dX11_shortestLoop_15 (c_X11_fail l hlt g 1 kR_1 M13 S hF hy) [.int (zi 1)] [] (zFx_kd hF 48 rfl) ⟨_, rfl, by decide, rfl⟩ rfl rfl rfl (zcat (Nat.le_of_ble_eq_true rfl)) (Nat.le_of_ble_eq_true rfl) (Nat.le_of_ble_eq_true rfl) (Nat.le_of_ble_eq_true rfl) (Nat.le_of_ble_eq_true rfl) (fun hp29 => ?_)
    have hr27 := hp29
    obtain ⟨e1, e2⟩ := zpr2 (Option.some.inj h)
    exact j_iret hC hE dX11_shortestLoop_18 (w_id hr27) (zn_i _) (by rw [← e1]) e2 rfl (by rw [← e1]; exact hr27) (Nat.le_of_ble_eq_true rfl) (Nat.le_of_ble_eq_true rfl)
set_option maxHeartbeats 4000000 in
set_option maxRecDepth 100000 in
theorem c_X11_reduces (l : Launch) (hlt : l.stackTraces = false) (g : zG) (v1 : Int) (v2 : Int) (v3 : Int) (v4 : Int) (hv1 : inR v1) (hv2 : inR v2) (hv3 : inR v3) (hv4 : inR v4) (M : zM) (S : zS) (hF : zFx S) {r : Int} {M' : zM} (h : F_X11_reduces v1 v2 v3 v4 M = some (r, M')) : zMet l g yX11_reduces cX11_reduces 9 (some .boolean) 8 0 0 [zr g 48, .int (zi v1), .int (zi v2), .int (zi v3), .int (zi v4)] M S (.inl (some (.int (zi r)))) M' S (inR r) := by
  refine zMet_of (by decide) hlt [(0, zr g 48), (1, .int (zi v1)), (2, .int (zi v2)), (3, .int (zi v3)), (4, .int (zi v4))] rfl (Nat.le_of_ble_eq_true rfl) (fun K hC hE hN => ?_)
  unfold F_X11_reduces at h
  refine j_iload_n hC 1 dX11_reduces_0 rfl rfl ?_
  obtain ⟨r1, hy, h⟩ := zb1_ex h
  refine j_callSi hC hE lk_X11_114 dX11_reduces_1 (c_X11_lengthOf l hlt g v1 hv1 M S hy) [.int (zi v1)] [] rfl rfl rfl (zcat (Nat.le_of_ble_eq_true rfl)) (Nat.le_of_ble_eq_true rfl) (Nat.le_of_ble_eq_true rfl) (Nat.le_of_ble_eq_true rfl) (Nat.le_of_ble_eq_true rfl) (fun hp2 => ?_)
  have hr1 := hp2
  refine j_istore hC dX11_reduces_4 (Nat.le_of_ble_eq_true rfl) rfl ?_
  refine j_aload_n hC 1 dX11_reduces_6 rfl rfl ?_
  refine j_getq (q := 50) hC dX11_reduces_7 f_X11_13 (zFx_kd hF 48 rfl) rfl 3 rfl (zFx_rf hF 48 3 rfl) ?_
  refine j_iload_n hC 3 dX11_reduces_10 rfl rfl ?_
  obtain ⟨c3, h⟩ := zchk_ex h
  refine j_iald (n := 5) hC dX11_reduces_11 (w_id hv2) (zFx_kd hF 50 rfl) (zFx_ln hF 50 rfl) c3.1 c3.2 (fun hg4 => ?_)
  obtain ⟨r5, hy, h⟩ := zb1_ex h
  refine j_callSi hC hE lk_X11_114 dX11_reduces_12 (c_X11_lengthOf l hlt g (M 50 v2) hg4 M S hy) [.int (zi (M 50 v2))] [] rfl rfl rfl (zcat (Nat.le_of_ble_eq_true rfl)) (Nat.le_of_ble_eq_true rfl) (Nat.le_of_ble_eq_true rfl) (Nat.le_of_ble_eq_true rfl) (Nat.le_of_ble_eq_true rfl) (fun hp6 => ?_)
  have hr5 := hp6
  refine j_istore hC dX11_reduces_15 (Nat.le_of_ble_eq_true rfl) rfl ?_
  refine j_aload_n hC 2 dX11_reduces_17 rfl rfl ?_
  refine j_getq (q := 51) hC dX11_reduces_18 f_X11_16 (zFx_kd hF 48 rfl) rfl 4 rfl (zFx_rf hF 48 4 rfl) ?_
  refine j_iload_n hC 4 dX11_reduces_21 rfl rfl ?_
  obtain ⟨c7, h⟩ := zchk_ex h
  refine j_iald (n := 5) hC dX11_reduces_22 (w_id hv2) (zFx_kd hF 51 rfl) (zFx_ln hF 51 rfl) c7.1 c7.2 (fun hg8 => ?_)
  obtain ⟨r9, hy, h⟩ := zb1_ex h
  refine j_callSi hC hE lk_X11_114 dX11_reduces_23 (c_X11_lengthOf l hlt g (M 51 v2) hg8 M S hy) [.int (zi (M 51 v2))] [] rfl rfl rfl (zcat (Nat.le_of_ble_eq_true rfl)) (Nat.le_of_ble_eq_true rfl) (Nat.le_of_ble_eq_true rfl) (Nat.le_of_ble_eq_true rfl) (Nat.le_of_ble_eq_true rfl) (fun hp10 => ?_)
  have hr9 := hp10
  refine j_istore hC dX11_reduces_26 (Nat.le_of_ble_eq_true rfl) rfl ?_
  refine j_iload hC 7 dX11_reduces_28 rfl ?_
  refine j_iload hC 1 dX11_reduces_30 rfl ?_
  refine j_iadd hC dX11_reduces_32 ?_
  refine j_iload hC 0 dX11_reduces_33 rfl ?_
  refine j_iadd hC dX11_reduces_35 ?_
  obtain ⟨x11, ex11, h⟩ := zlet_ex h
  have hx11 : inR x11 := by rw [ex11]; exact inR_w _
  refine j_namei ex11 ?_
  refine j_istore hC dX11_reduces_36 (Nat.le_of_ble_eq_true rfl) rfl ?_
  refine j_iload hC 3 dX11_reduces_38 rfl ?_
  refine j_aload_n hC 4 dX11_reduces_40 rfl rfl ?_
  refine j_get hC dX11_reduces_41 f_X11_29 (zFx_kd hF 48 rfl) rfl 9 rfl (fun hg12 => ?_)
  refine j_icmp_gt hC dX11_reduces_44 rfl (w_id hr1) (w_id hg12) (fun c13 => ?_) (fun c13 => ?_)
  · have h := zt c13 h
    refine j_iconst hC dX11_reduces_96 ?_
    obtain ⟨e1, e2⟩ := zpr2 (Option.some.inj h)
    exact j_iret hC hE dX11_reduces_97 (w_id kR_0) (zn_z zb01_0) (by rw [← e1]) e2 rfl (by rw [← e1]; exact kR_0) (Nat.le_of_ble_eq_true rfl) (Nat.le_of_ble_eq_true rfl)
  · have h := zf c13 h
    refine j_iload hC 0 dX11_reduces_47 rfl ?_
    refine j_iload hC 3 dX11_reduces_49 rfl ?_
    refine j_icmp_gt hC dX11_reduces_51 rfl (w_id hx11) (w_id hr1) (fun c14 => ?_) (fun c14 => ?_)
    · have h := zt c14 h
      refine j_iconst hC dX11_reduces_96 ?_
      obtain ⟨e1, e2⟩ := zpr2 (Option.some.inj h)
      exact j_iret hC hE dX11_reduces_97 (w_id kR_0) (zn_z zb01_0) (by rw [← e1]) e2 rfl (by rw [← e1]; exact kR_0) (Nat.le_of_ble_eq_true rfl) (Nat.le_of_ble_eq_true rfl)
    · have h := zf c14 h
      refine j_iload_n hC 5 dX11_reduces_54 rfl rfl ?_
      refine j_iload hC 3 dX11_reduces_55 rfl ?_
      refine j_iload_n hC 7 dX11_reduces_57 rfl rfl ?_
      refine j_iload_n hC 7 dX11_reduces_58 rfl rfl ?_
      refine j_iload hC 2 dX11_reduces_59 rfl ?_
      refine j_iadd hC dX11_reduces_61 ?_
      obtain ⟨r15, hy, h⟩ := zb1_ex h
      refine j_callSi hC hE lk_X11_117 dX11_reduces_62 (c_X11_part l hlt g v1 r1 v3 (w (v3 + r5)) hv1 hr1 hv3 (inR_w _) M S hy) [.int (zi v1), .int (zi r1), .int (zi v3), .int (zi (v3 + r5))] [] rfl (by simp only [zi_w, zl_wl]) rfl (zcat (Nat.le_of_ble_eq_true rfl)) (Nat.le_of_ble_eq_true rfl) (Nat.le_of_ble_eq_true rfl) (Nat.le_of_ble_eq_true rfl) (Nat.le_of_ble_eq_true rfl) (fun hp16 => ?_)
      have hr15 := hp16
      refine j_aload_n hC 4 dX11_reduces_65 rfl rfl ?_
      refine j_getq (q := 50) hC dX11_reduces_66 f_X11_13 (zFx_kd hF 48 rfl) rfl 3 rfl (zFx_rf hF 48 3 rfl) ?_
      refine j_iload_n hC 6 dX11_reduces_69 rfl rfl ?_
      obtain ⟨c17, h⟩ := zchk_ex h
      refine j_iald (n := 5) hC dX11_reduces_70 (w_id hv2) (zFx_kd hF 50 rfl) (zFx_ln hF 50 rfl) c17.1 c17.2 (fun hg18 => ?_)
      refine j_icmp_ne hC dX11_reduces_71 rfl (w_id hr15) (w_id hg18) (fun c19 => ?_) (fun c19 => ?_)
      · have h := zf c19 h
        refine j_iconst hC dX11_reduces_96 ?_
        obtain ⟨e1, e2⟩ := zpr2 (Option.some.inj h)
        exact j_iret hC hE dX11_reduces_97 (w_id kR_0) (zn_z zb01_0) (by rw [← e1]) e2 rfl (by rw [← e1]; exact kR_0) (Nat.le_of_ble_eq_true rfl) (Nat.le_of_ble_eq_true rfl)
      · have h := zt c19 h
        refine j_iload_n hC 5 dX11_reduces_74 rfl rfl ?_
        refine j_iload hC 3 dX11_reduces_75 rfl ?_
        refine j_iload hC 8 dX11_reduces_77 rfl ?_
        refine j_iload hC 2 dX11_reduces_79 rfl ?_
        refine j_iadd hC dX11_reduces_81 ?_
        refine j_iload hC 0 dX11_reduces_82 rfl ?_
        obtain ⟨r20, hy, h⟩ := zb1_ex h
        refine j_callSi hC hE lk_X11_117 dX11_reduces_84 (c_X11_part l hlt g v1 r1 (w (v4 + r5)) x11 hv1 hr1 (inR_w _) hx11 M S hy) [.int (zi v1), .int (zi r1), .int (zi (v4 + r5)), .int (zi x11)] [] rfl (by simp only [zi_w, zl_wl]) rfl (zcat (Nat.le_of_ble_eq_true rfl)) (Nat.le_of_ble_eq_true rfl) (Nat.le_of_ble_eq_true rfl) (Nat.le_of_ble_eq_true rfl) (Nat.le_of_ble_eq_true rfl) (fun hp21 => ?_)
        have hr20 := hp21
        refine j_aload_n hC 4 dX11_reduces_87 rfl rfl ?_
        refine j_getq (q := 51) hC dX11_reduces_88 f_X11_16 (zFx_kd hF 48 rfl) rfl 4 rfl (zFx_rf hF 48 4 rfl) ?_
        refine j_iload_n hC 6 dX11_reduces_91 rfl rfl ?_
        obtain ⟨c22, h⟩ := zchk_ex h
        refine j_iald (n := 5) hC dX11_reduces_92 (w_id hv2) (zFx_kd hF 51 rfl) (zFx_ln hF 51 rfl) c22.1 c22.2 (fun hg23 => ?_)
        refine j_icmp_eq hC dX11_reduces_93 rfl (w_id hr20) (w_id hg23) (fun c24 => ?_) (fun c24 => ?_)
        · have h := zt c24 h
          refine j_aload_n hC 4 dX11_reduces_98 rfl rfl ?_
          refine j_iload_n hC 5 dX11_reduces_99 rfl rfl ?_
          refine j_iload hC 3 dX11_reduces_100 rfl ?_
          refine j_iconst hC dX11_reduces_102 ?_
          refine j_iload_n hC 7 dX11_reduces_103 rfl rfl ?_
          obtain ⟨r25, hy, h⟩ := zb1_ex h
          refine j_callSi hC hE lk_X11_117 dX11_reduces_104 (c_X11_part l hlt g v1 r1 0 v3 hv1 hr1 kR_0 hv3 M S hy) [.int (zi v1), .int (zi r1), .int (zi 0), .int (zi v3)] [zr g 48] rfl rfl rfl (zcat (Nat.le_of_ble_eq_true rfl)) (Nat.le_of_ble_eq_true rfl) (Nat.le_of_ble_eq_true rfl) (Nat.le_of_ble_eq_true rfl) (Nat.le_of_ble_eq_true rfl) (fun hp26 => ?_)
          have hr25 := hp26
          refine j_iload_n hC 5 dX11_reduces_107 rfl rfl ?_
          refine j_iload hC 3 dX11_reduces_108 rfl ?_
          refine j_iload_n hC 7 dX11_reduces_110 rfl rfl ?_
          refine j_iload hC 2 dX11_reduces_111 rfl ?_
          refine j_iadd hC dX11_reduces_113 ?_
          refine j_iload hC 8 dX11_reduces_114 rfl ?_
          refine j_iload hC 2 dX11_reduces_116 rfl ?_
          refine j_iadd hC dX11_reduces_118 ?_
          obtain ⟨r27, hy, h⟩ := zb1_ex h
          refine j_callSi hC hE lk_X11_117 dX11_reduces_119 (c_X11_part l hlt g v1 r1 (w (v3 + r5)) (w (v4 + r5)) hv1 hr1 (inR_w _) (inR_w _) M S hy) [.int (zi v1), .int (zi r1), .int (zi (v3 + r5)), .int (zi (v4 + r5))] [.int (zi r25), zr g 48] rfl (by simp only [zi_w, zl_wl]) rfl (zcat (Nat.le_of_ble_eq_true rfl)) (Nat.le_of_ble_eq_true rfl) (Nat.le_of_ble_eq_true rfl) (Nat.le_of_ble_eq_true rfl) (Nat.le_of_ble_eq_true rfl) (fun hp28 => ?_)
          have hr27 := hp28
          obtain ⟨r29, hy, h⟩ := zb1_ex h
          refine j_callSi hC hE lk_X11_159 dX11_reduces_122 (c_X11_joined l hlt g r25 r27 hr25 hr27 M S hy) [.int (zi r25), .int (zi r27)] [zr g 48] rfl rfl rfl (zcat (Nat.le_of_ble_eq_true rfl)) (Nat.le_of_ble_eq_true rfl) (Nat.le_of_ble_eq_true rfl) (Nat.le_of_ble_eq_true rfl) (Nat.le_of_ble_eq_true rfl) (fun hp30 => ?_)
          have hr29 := hp30
          refine j_iload_n hC 5 dX11_reduces_125 rfl rfl ?_
          refine j_iload hC 3 dX11_reduces_126 rfl ?_
          refine j_iload hC 0 dX11_reduces_128 rfl ?_
          refine j_iload hC 3 dX11_reduces_130 rfl ?_
          obtain ⟨r31, hy, h⟩ := zb1_ex h
          refine j_callSi hC hE lk_X11_117 dX11_reduces_132 (c_X11_part l hlt g v1 r1 x11 r1 hv1 hr1 hx11 hr1 M S hy) [.int (zi v1), .int (zi r1), .int (zi x11), .int (zi r1)] [.int (zi r29), zr g 48] rfl rfl rfl (zcat (Nat.le_of_ble_eq_true rfl)) (Nat.le_of_ble_eq_true rfl) (Nat.le_of_ble_eq_true rfl) (Nat.le_of_ble_eq_true rfl) (Nat.le_of_ble_eq_true rfl) (fun hp32 => ?_)
          have hr31 := hp32
          obtain ⟨r33, hy, h⟩ := zb1_ex h
          refine j_callSi hC hE lk_X11_159 dX11_reduces_135 (c_X11_joined l hlt g r29 r31 hr29 hr31 M S hy) [.int (zi r29), .int (zi r31)] [zr g 48] rfl rfl rfl (zcat (Nat.le_of_ble_eq_true rfl)) (Nat.le_of_ble_eq_true rfl) (Nat.le_of_ble_eq_true rfl) (Nat.le_of_ble_eq_true rfl) (Nat.le_of_ble_eq_true rfl) (fun hp34 => ?_)
          have hr33 := hp34
          obtain ⟨M35, eM35, h⟩ := zlet_ex h
          refine j_put hC dX11_reduces_138 f_X11_304 pF_X11 (zFx_kd hF 48 rfl) (Or.inl rfl) rfl 26 rfl (w_id hr33) hr33 eM35 ?_
          refine j_aload_n hC 4 dX11_reduces_141 rfl rfl ?_
          refine j_aload_n hC 4 dX11_reduces_142 rfl rfl ?_
          refine j_get hC dX11_reduces_143 f_X11_304 (zFx_kd hF 48 rfl) rfl 26 rfl (fun hg36 => ?_)
          refine j_iload_n hC 6 dX11_reduces_146 rfl rfl ?_
          obtain ⟨M37, hy, h⟩ := zb1_ex h
          refine j_callVv (ci := 8) hC hE lk_X11_260 dX11_reduces_147 (c_X11_fit l hlt g (M35 48 26) v2 hg36 hv2 M35 S hF hy) [.int (zi (M35 48 26)), .int (zi v2)] [] (zFx_kd hF 48 rfl) ⟨_, rfl, by decide, rfl⟩ rfl rfl rfl (zcat (Nat.le_of_ble_eq_true rfl)) (Nat.le_of_ble_eq_true rfl) (Nat.le_of_ble_eq_true rfl) (Nat.le_of_ble_eq_true rfl) (Nat.le_of_ble_eq_true rfl) (fun hp38 => ?_)
          refine j_aload_n hC 4 dX11_reduces_150 rfl rfl ?_
          refine j_iload_n hC 7 dX11_reduces_151 rfl rfl ?_
          refine j_iload hC 8 dX11_reduces_152 rfl ?_
          obtain ⟨r39, hy, h⟩ := zb1_ex h
          refine j_callVi (ci := 8) hC hE lk_X11_269 dX11_reduces_154 (c_X11_isSelected l hlt g v3 v4 hv3 hv4 M37 S hF hy) [.int (zi v3), .int (zi v4)] [] (zFx_kd hF 48 rfl) ⟨_, rfl, by decide, rfl⟩ rfl rfl rfl (zcat (Nat.le_of_ble_eq_true rfl)) (Nat.le_of_ble_eq_true rfl) (Nat.le_of_ble_eq_true rfl) (Nat.le_of_ble_eq_true rfl) (Nat.le_of_ble_eq_true rfl) (fun hp40 => ?_)
          have hr39 := hp40
          obtain ⟨c41, h⟩ := zchk_ex h
          obtain ⟨e1, e2⟩ := zpr2 (Option.some.inj h)
          exact j_iret hC hE dX11_reduces_157 (w_id hr39) (zn_z c41) (by rw [← e1]) e2 rfl (by rw [← e1]; exact hr39) (Nat.le_of_ble_eq_true rfl) (Nat.le_of_ble_eq_true rfl)
        · have h := zf c24 h
          refine j_iconst hC dX11_reduces_96 ?_
          obtain ⟨e1, e2⟩ := zpr2 (Option.some.inj h)
          exact j_iret hC hE dX11_reduces_97 (w_id kR_0) (zn_z zb01_0) (by rw [← e1]) e2 rfl (by rw [← e1]; exact kR_0) (Nat.le_of_ble_eq_true rfl) (Nat.le_of_ble_eq_true rfl)
set_option maxHeartbeats 4000000 in
set_option maxRecDepth 100000 in
theorem c_X11_isPlace (l : Launch) (hlt : l.stackTraces = false) (g : zG) (v0 : Int) (hv0 : inR v0) (M : zM) (S : zS) {r : Int} (h : F_X11_isPlace v0 = some r) : zMet l g yX11_isPlace cX11_isPlace 1 (some .boolean) 1 0 0 [.int (zi v0)] M S (.inl (some (.int (zi r)))) M S (inR r) := by
  refine zMet_of (by decide) hlt [(0, .int (zi v0))] rfl (Nat.le_of_ble_eq_true rfl) (fun K hC hE hN => ?_)
  unfold F_X11_isPlace at h
  refine j_iload_n hC 0 dX11_isPlace_0 rfl rfl ?_
  refine j_bipush hC dX11_isPlace_1 rfl ?_
  refine j_idiv hC dX11_isPlace_3 (w_id kR_10) (by decide) ?_
  refine j_bipush hC dX11_isPlace_4 rfl ?_
  refine j_irem hC dX11_isPlace_6 (w_id kR_10) (by decide) ?_
  refine j_iload_n hC 0 dX11_isPlace_7 rfl rfl ?_
  refine j_bipush hC dX11_isPlace_8 rfl ?_
  refine j_irem hC dX11_isPlace_10 (w_id kR_10) (by decide) ?_
  refine j_icmp_gt hC dX11_isPlace_11 rfl (w_id (cR_zrem _ _)) (w_id (cR_zrem _ _)) (fun c1 => ?_) (fun c1 => ?_)
  · have h := zt c1 h
    refine j_iconst hC dX11_isPlace_18 ?_
    have e1 := Option.some.inj h
    exact j_iret hC hE dX11_isPlace_19 (w_id kR_0) (zn_z zb01_0) (by rw [← e1]) rfl rfl (by rw [← e1]; exact kR_0) (Nat.le_of_ble_eq_true rfl) (Nat.le_of_ble_eq_true rfl)
  · have h := zf c1 h
    refine j_iconst hC dX11_isPlace_14 ?_
    refine j_goto hC dX11_isPlace_15 rfl ?_
    have e1 := Option.some.inj h
    exact j_iret hC hE dX11_isPlace_19 (w_id kR_1) (zn_z zb01_1) (by rw [← e1]) rfl rfl (by rw [← e1]; exact kR_1) (Nat.le_of_ble_eq_true rfl) (Nat.le_of_ble_eq_true rfl)
set_option maxHeartbeats 4000000 in
set_option maxRecDepth 100000 in
theorem c_X11_countReductions (l : Launch) (hlt : l.stackTraces = false) (g : zG) (v1 : Int) (hv1 : inR v1) (M : zM) (S : zS) (hF : zFx S) {r : Int} {M' : zM} (h : F_X11_countReductions v1 M = some (r, M')) : zMet l g yX11_countReductions cX11_countReductions 4 (some .int) 9 0 0 [zr g 48, .int (zi v1)] M S (.inl (some (.int (zi r)))) M' S (inR r) := by
  refine zMet_of (by decide) hlt [(0, zr g 48), (1, .int (zi v1))] rfl (Nat.le_of_ble_eq_true rfl) (fun K hC hE hN => ?_)
  unfold F_X11_countReductions at h
  have J_59 : ∀ (v2 : Int) (hv2 : inR v2) (M : zM) (_ : F_X11_countReductions_J59 v2 M = some (r, M')), zJ K g 0 0 59 4 [(2, .int (zi v2))] [] M S := by
    intro v2 hv2 M h
    unfold F_X11_countReductions_J59 at h
    refine j_iload_n hC 0 dX11_countReductions_59 rfl rfl ?_
    obtain ⟨e1, e2⟩ := zpr2 (Option.some.inj h)
    exact j_iret hC hE dX11_countReductions_60 (w_id hv2) (zn_i _) (by rw [← e1]) e2 rfl (by rw [← e1]; exact hv2) (Nat.le_of_ble_eq_true rfl) (Nat.le_of_ble_eq_true rfl)
  have L_4 : ∀ (v1 : Int) (v2 : Int) (v3 : Int) (hv1 : inR v1) (hv2 : inR v2) (hv3 : inR v3) (M : zM) (_ : F_X11_countReductions_L4 v1 v2 v3 M = some (r, M')), zJ K g 0 0 4 4 [(0, zr g 48), (1, .int (zi v1)), (2, .int (zi v2)), (3, .int (zi v3))] [] M S := by
    intro v1 v2 v3 hv1 hv2 hv3 M h
    unfold F_X11_countReductions_L4 at h
    obtain ⟨ex4, hl, hd4⟩ := zb1_ex h
    obtain ⟨bd4, ebd⟩ : ∃ f, f = (fun (s : Int × Int × zM) => F_X11_countReductions_B4 v1 s.1 s.2.1 s.2.2) := ⟨_, rfl⟩
    rw [← ebd] at hl
    have main : ∀ (n4 : Nat) (v2 : Int) (v3 : Int) (hv2 : inR v2) (hv3 : inR v3) (M : zM) (_ : zloop bd4 n4 (v2, v3, M) = some ex4), zJ K g 0 0 4 4 [(0, zr g 48), (1, .int (zi v1)), (2, .int (zi v2)), (3, .int (zi v3))] [] M S := by
      intro n4
      induction n4 with
      | zero => intro v2 v3 hv2 hv3 M hl; exact zloop_0 hl
      | succ n4 ih4 =>
        have J_51 : ∀ (v3 : Int) (t0 : Int) (t1 : Int) (hv3 : inR v3) (ht0 : inR t0) (ht1 : inR t1) (M : zM) (o : _) (_ : F_X11_countReductions_J51 v1 v3 t0 t1 M = some o), zAft (bd4) n4 ex4 o → zJ K g 0 0 51 4 [(0, zr g 48), (1, .int (zi v1)), (3, .int (zi v3))] [.int (zi t1), .int (zi t0)] M S := by
          intro v3 t0 t1 hv3 ht0 ht1 M o h hT
          unfold F_X11_countReductions_J51 at h
          refine j_iadd hC dX11_countReductions_51 ?_
          obtain ⟨x1, ex1, h⟩ := zlet_ex h
          have hx1 : inR x1 := by rw [ex1]; exact inR_w _
          refine j_namei ex1 ?_
          refine j_istore_n hC dX11_countReductions_52 rfl (Nat.le_of_ble_eq_true rfl) rfl ?_
          obtain ⟨x2, ex2, h⟩ := zlet_ex h
          have hx2 : inR x2 := by rw [ex2]; exact inR_w _
          refine j_iinc hC 3 dX11_countReductions_53 rfl ex2 (Nat.le_of_ble_eq_true rfl) rfl ?_
          refine j_goto hC dX11_countReductions_56 rfl ?_
          obtain rfl := Option.some.inj h
          refine j_sub [2, 3, 1, 0] rfl ?_
          exact ih4 x1 x2 hx1 hx2 M hT
        have J_50 : ∀ (v3 : Int) (t0 : Int) (hv3 : inR v3) (ht0 : inR t0) (M : zM) (o : _) (_ : F_X11_countReductions_J50 v1 v3 t0 M = some o), zAft (bd4) n4 ex4 o → zJ K g 0 0 50 4 [(0, zr g 48), (1, .int (zi v1)), (3, .int (zi v3))] [.int (zi t0)] M S := by
          intro v3 t0 hv3 ht0 M o h hT
          unfold F_X11_countReductions_J50 at h
          refine j_iconst hC dX11_countReductions_50 ?_
          exact J_51 v3 t0 0 hv3 ht0 kR_0 M _ h hT
        intro v2 v3 hv2 hv3 M hl
        obtain ⟨o, h, hT⟩ := zloop_ex hl
        have h : F_X11_countReductions_B4 v1 v2 v3 M = some o := by rw [ebd] at h; exact h
        unfold F_X11_countReductions_B4 at h
        refine j_iload_n hC 3 dX11_countReductions_4 rfl rfl ?_
        refine j_bipush hC dX11_countReductions_5 rfl ?_
        refine j_aload_n hC 0 dX11_countReductions_7 rfl rfl ?_
        refine j_get hC dX11_countReductions_8 f_X11_121 (zFx_kd hF 48 rfl) rfl 7 rfl (fun hg3 => ?_)
        refine j_imul hC dX11_countReductions_11 ?_
        refine j_icmp_ge hC dX11_countReductions_12 rfl (w_id hv3) rfl (fun c4 => ?_) (fun c4 => ?_)
        · have h := zf c4 h
          obtain rfl := Option.some.inj h
          have hx4 := hd4
          rw [← show _ = ex4 from hT] at hx4
          refine j_sub [2] rfl ?_
          exact J_59 v2 hv2 M hx4
        · have h := zt c4 h
          refine j_iload_n hC 2 dX11_countReductions_15 rfl rfl ?_
          refine j_iload_n hC 3 dX11_countReductions_16 rfl rfl ?_
          obtain ⟨r5, hy, h⟩ := zb1_ex h
          refine j_callSi hC hE lk_X11_307 dX11_countReductions_17 (c_X11_isPlace l hlt g v3 hv3 M S hy) [.int (zi v3)] [.int (zi v2)] rfl rfl rfl (zcat (Nat.le_of_ble_eq_true rfl)) (Nat.le_of_ble_eq_true rfl) (Nat.le_of_ble_eq_true rfl) (Nat.le_of_ble_eq_true rfl) (Nat.le_of_ble_eq_true rfl) (fun hp6 => ?_)
          have hr5 := hp6
          refine j_if_eq hC dX11_countReductions_20 rfl (w_id hr5) (fun c7 => ?_) (fun c7 => ?_)
          · have h := zt c7 h
            refine j_sub [0, 1, 3] rfl ?_
            exact J_50 v3 v2 hv3 hv2 M _ h hT
          · have h := zf c7 h
            refine j_aload_n hC 0 dX11_countReductions_23 rfl rfl ?_
            refine j_iload_n hC 1 dX11_countReductions_24 rfl rfl ?_
            refine j_iload_n hC 3 dX11_countReductions_25 rfl rfl ?_
            refine j_bipush hC dX11_countReductions_26 rfl ?_
            refine j_idiv hC dX11_countReductions_28 (w_id kR_100) (by decide) ?_
            refine j_iload_n hC 3 dX11_countReductions_29 rfl rfl ?_
            refine j_bipush hC dX11_countReductions_30 rfl ?_
            refine j_idiv hC dX11_countReductions_32 (w_id kR_10) (by decide) ?_
            refine j_bipush hC dX11_countReductions_33 rfl ?_
            refine j_irem hC dX11_countReductions_35 (w_id kR_10) (by decide) ?_
            refine j_iload_n hC 3 dX11_countReductions_36 rfl rfl ?_
            refine j_bipush hC dX11_countReductions_37 rfl ?_
            refine j_irem hC dX11_countReductions_39 (w_id kR_10) (by decide) ?_
            obtain ⟨r8, M9, hy, h⟩ := zb2_ex h
            refine j_callVi (ci := 8) hC hE lk_X11_310 dX11_countReductions_40 (c_X11_reduces l hlt g v1 (zdiv v3 100) (zrem (zdiv v3 10) 10) (zrem v3 10) hv1 (cR_zdiv _ _) (cR_zrem _ _) (cR_zrem _ _) M S hF hy) [.int (zi v1), .int (zi (zdiv v3 100)), .int (zi (zrem (zdiv v3 10) 10)), .int (zi (zrem v3 10))] [.int (zi v2)] (zFx_kd hF 48 rfl) ⟨_, rfl, by decide, rfl⟩ rfl rfl rfl (zcat (Nat.le_of_ble_eq_true rfl)) (Nat.le_of_ble_eq_true rfl) (Nat.le_of_ble_eq_true rfl) (Nat.le_of_ble_eq_true rfl) (Nat.le_of_ble_eq_true rfl) (fun hp10 => ?_)
            have hr8 := hp10
            refine j_if_eq hC dX11_countReductions_43 rfl (w_id hr8) (fun c11 => ?_) (fun c11 => ?_)
            · have h := zt c11 h
              refine j_sub [0, 1, 3] rfl ?_
              exact J_50 v3 v2 hv3 hv2 M9 _ h hT
            · have h := zf c11 h
              refine j_iconst hC dX11_countReductions_46 ?_
              refine j_goto hC dX11_countReductions_47 rfl ?_
              refine j_sub [0, 1, 3] rfl ?_
              exact J_51 v3 v2 1 hv3 hv2 kR_1 M9 _ h hT
    exact main zN v2 v3 hv2 hv3 M hl
  refine j_iconst hC dX11_countReductions_0 ?_
  refine j_istore_n hC dX11_countReductions_1 rfl (Nat.le_of_ble_eq_true rfl) rfl ?_
  refine j_iconst hC dX11_countReductions_2 ?_
  refine j_istore_n hC dX11_countReductions_3 rfl (Nat.le_of_ble_eq_true rfl) rfl ?_
  refine j_sub [2, 3, 1, 0] rfl ?_
  exact L_4 v1 0 0 hv1 kR_0 kR_0 M h
set_option maxHeartbeats 4000000 in
set_option maxRecDepth 100000 in
theorem c_X11_meet (l : Launch) (hlt : l.stackTraces = false) (g : zG) (v1 : Int) (hv1 : inR v1) (M : zM) (S : zS) (hF : zFx S) {M' : zM} (h : F_X11_meet v1 M = some M') : zMet l g yX11_meet cX11_meet 5 none 9 0 0 [zr g 48, .int (zi v1)] M S (.inl none) M' S (True) := by
  refine zMet_of (by decide) hlt [(0, zr g 48), (1, .int (zi v1))] rfl (Nat.le_of_ble_eq_true rfl) (fun K hC hE hN => ?_)
  unfold F_X11_meet at h
  have J_148 : ∀ (M : zM) (_ : F_X11_meet_J148 M = some M'), zJ K g 0 0 148 5 [] [] M S := by
    intro M h
    unfold F_X11_meet_J148 at h
    have e1 := Option.some.inj h
    exact j_vret hC hE dX11_meet_148 rfl e1 rfl trivial (Nat.le_of_ble_eq_true rfl) (Nat.le_of_ble_eq_true rfl)
  have L_40 : ∀ (v2 : Int) (hv2 : inR v2) (M : zM) (_ : F_X11_meet_L40 v2 M = some M'), zJ K g 0 0 40 5 [(0, zr g 48), (2, .int (zi v2))] [] M S := by
    intro v2 hv2 M h
    unfold F_X11_meet_L40 at h
    obtain ⟨ex40, hl, hd40⟩ := zb1_ex h
    obtain ⟨bd40, ebd⟩ : ∃ f, f = (fun (s : Int × zM) => F_X11_meet_B40 s.1 s.2) := ⟨_, rfl⟩
    rw [← ebd] at hl
    have main : ∀ (n40 : Nat) (v2 : Int) (hv2 : inR v2) (M : zM) (_ : zloop bd40 n40 (v2, M) = some ex40), zJ K g 0 0 40 5 [(0, zr g 48), (2, .int (zi v2))] [] M S := by
      intro n40
      induction n40 with
      | zero => intro v2 hv2 M hl; exact zloop_0 hl
      | succ n40 ih40 =>
        have J_141 : ∀ (v2 : Int) (t1 : Int) (t2 : Int) (hv2 : inR v2) (ht1 : inR t1) (ht2 : inR t2) (M : zM) (o : _) (_ : F_X11_meet_J141 v2 t1 t2 M = some o), zAft (bd40) n40 ex40 o → zJ K g 0 0 141 5 [(0, zr g 48), (2, .int (zi v2))] [.int (zi t2), .int (zi t1), zr g 62] M S := by
          intro v2 t1 t2 hv2 ht1 ht2 M o h hT
          unfold F_X11_meet_J141 at h
          obtain ⟨c1, h⟩ := zchk_ex h
          obtain ⟨M2, eM2, h⟩ := zlet_ex h
          refine j_iast (n := 29524) hC dX11_meet_141 (w_id ht1) (w_id ht2) ht2 (zFx_kd hF 62 rfl) (zFx_ln hF 62 rfl) c1.1 c1.2 eM2 ?_
          obtain ⟨x3, ex3, h⟩ := zlet_ex h
          have hx3 : inR x3 := by rw [ex3]; exact inR_w _
          refine j_iinc hC 1 dX11_meet_142 rfl ex3 (Nat.le_of_ble_eq_true rfl) rfl ?_
          refine j_goto hC dX11_meet_145 rfl ?_
          obtain rfl := Option.some.inj h
          refine j_sub [1, 0] rfl ?_
          exact ih40 x3 hx3 M2 hT
        have J_127 : ∀ (v2 : Int) (v3 : Int) (hv2 : inR v2) (hv3 : inR v3) (M : zM) (o : _) (_ : F_X11_meet_J127 v2 v3 M = some o), zAft (bd40) n40 ex40 o → zJ K g 0 0 127 5 [(0, zr g 48), (2, .int (zi v2)), (3, .int (zi v3))] [] M S := by
          intro v2 v3 hv2 hv3 M o h hT
          unfold F_X11_meet_J127 at h
          refine j_aload_n hC 0 dX11_meet_127 rfl rfl ?_
          refine j_getq (q := 62) hC dX11_meet_128 f_X11_61 (zFx_kd hF 48 rfl) rfl 28 rfl (zFx_rf hF 48 28 rfl) ?_
          refine j_iload_n hC 1 dX11_meet_131 rfl rfl ?_
          refine j_iload_n hC 2 dX11_meet_132 rfl rfl ?_
          refine j_if_eq hC dX11_meet_133 rfl (w_id hv3) (fun c4 => ?_) (fun c4 => ?_)
          · have h := zt c4 h
            refine j_iconst hC dX11_meet_140 ?_
            refine j_sub [0, 1] rfl ?_
            exact J_141 v2 v2 0 hv2 hv2 kR_0 M _ h hT
          · have h := zf c4 h
            refine j_iconst hC dX11_meet_136 ?_
            refine j_goto hC dX11_meet_137 rfl ?_
            refine j_sub [0, 1] rfl ?_
            exact J_141 v2 v2 1 hv2 hv2 kR_1 M _ h hT
        have L_54 : ∀ (v2 : Int) (v3 : Int) (v4 : Int) (hv2 : inR v2) (hv3 : inR v3) (hv4 : inR v4) (M : zM) (o : _) (_ : F_X11_meet_L54 v2 v3 v4 M = some o), zAft (bd40) n40 ex40 o → zJ K g 0 0 54 5 [(0, zr g 48), (2, .int (zi v2)), (3, .int (zi v3)), (4, .int (zi v4))] [] M S := by
          intro v2 v3 v4 hv2 hv3 hv4 M oh54 h hT54
          unfold F_X11_meet_L54 at h
          obtain ⟨ex54, hl, hd54⟩ := zb1_ex h
          obtain ⟨bd54, ebd⟩ : ∃ f, f = (fun (s : Int × Int × zM) => F_X11_meet_B54 v2 s.1 s.2.1 s.2.2) := ⟨_, rfl⟩
          rw [← ebd] at hl
          have main : ∀ (n54 : Nat) (v3 : Int) (v4 : Int) (hv3 : inR v3) (hv4 : inR v4) (M : zM) (_ : zloop bd54 n54 (v3, v4, M) = some ex54), zJ K g 0 0 54 5 [(0, zr g 48), (2, .int (zi v2)), (3, .int (zi v3)), (4, .int (zi v4))] [] M S := by
            intro n54
            induction n54 with
            | zero => intro v3 v4 hv3 hv4 M hl; exact zloop_0 hl
            | succ n54 ih54 =>
              have J_121 : ∀ (v3 : Int) (v4 : Int) (hv3 : inR v3) (hv4 : inR v4) (M : zM) (o : _) (_ : F_X11_meet_J121 v2 v3 v4 M = some o), zAft (bd54) n54 ex54 o → zJ K g 0 0 121 5 [(0, zr g 48), (2, .int (zi v2)), (3, .int (zi v3)), (4, .int (zi v4))] [] M S := by
                intro v3 v4 hv3 hv4 M o h hT
                unfold F_X11_meet_J121 at h
                obtain ⟨x5, ex5, h⟩ := zlet_ex h
                have hx5 : inR x5 := by rw [ex5]; exact inR_w _
                refine j_iinc hC 3 dX11_meet_121 rfl ex5 (Nat.le_of_ble_eq_true rfl) rfl ?_
                refine j_goto hC dX11_meet_124 rfl ?_
                obtain rfl := Option.some.inj h
                refine j_sub [1, 2, 3, 0] rfl ?_
                exact ih54 v3 x5 hv3 hx5 M hT
              intro v3 v4 hv3 hv4 M hl
              obtain ⟨o, h, hT⟩ := zloop_ex hl
              have h : F_X11_meet_B54 v2 v3 v4 M = some o := by rw [ebd] at h; exact h
              unfold F_X11_meet_B54 at h
              refine j_iload hC 3 dX11_meet_54 rfl ?_
              refine j_bipush hC dX11_meet_56 rfl ?_
              refine j_aload_n hC 0 dX11_meet_58 rfl rfl ?_
              refine j_get hC dX11_meet_59 f_X11_121 (zFx_kd hF 48 rfl) rfl 7 rfl (fun hg6 => ?_)
              refine j_imul hC dX11_meet_62 ?_
              refine j_icmp_ge hC dX11_meet_63 rfl (w_id hv4) rfl (fun c7 => ?_) (fun c7 => ?_)
              · have h := zf c7 h
                obtain rfl := Option.some.inj h
                have hx54 := hd54
                rw [← show _ = ex54 from hT] at hx54
                refine j_sub [0, 1, 2] rfl ?_
                exact J_127 v2 v3 hv2 hv3 M _ hx54 hT54
              · have h := zt c7 h
                refine j_aload_n hC 0 dX11_meet_66 rfl rfl ?_
                refine j_getq (q := 61) hC dX11_meet_67 f_X11_58 (zFx_kd hF 48 rfl) rfl 27 rfl (zFx_rf hF 48 27 rfl) ?_
                refine j_iload_n hC 1 dX11_meet_70 rfl rfl ?_
                obtain ⟨c8, h⟩ := zchk_ex h
                refine j_zald (n := 29524) hC dX11_meet_71 (w_id hv2) (zFx_kd hF 61 rfl) (zFx_ln hF 61 rfl) c8.1 c8.2 (fun hg9 => ?_)
                refine j_if_eq hC dX11_meet_72 rfl (w_id (inR_b hg9)) (fun c10 => ?_) (fun c10 => ?_)
                · have h := zt c10 h
                  obtain rfl := Option.some.inj h
                  have hx54 := hd54
                  rw [← show _ = ex54 from hT] at hx54
                  refine j_sub [0, 1, 2] rfl ?_
                  exact J_127 v2 v3 hv2 hv3 M _ hx54 hT54
                · have h := zf c10 h
                  refine j_iload hC 3 dX11_meet_75 rfl ?_
                  obtain ⟨r11, hy, h⟩ := zb1_ex h
                  refine j_callSi hC hE lk_X11_307 dX11_meet_77 (c_X11_isPlace l hlt g v4 hv4 M S hy) [.int (zi v4)] [] rfl rfl rfl (zcat (Nat.le_of_ble_eq_true rfl)) (Nat.le_of_ble_eq_true rfl) (Nat.le_of_ble_eq_true rfl) (Nat.le_of_ble_eq_true rfl) (Nat.le_of_ble_eq_true rfl) (fun hp12 => ?_)
                  have hr11 := hp12
                  refine j_if_eq hC dX11_meet_80 rfl (w_id hr11) (fun c13 => ?_) (fun c13 => ?_)
                  · have h := zt c13 h
                    exact J_121 v3 v4 hv3 hv4 M _ h hT
                  · have h := zf c13 h
                    refine j_aload_n hC 0 dX11_meet_83 rfl rfl ?_
                    refine j_iload_n hC 1 dX11_meet_84 rfl rfl ?_
                    refine j_iload hC 3 dX11_meet_85 rfl ?_
                    refine j_bipush hC dX11_meet_87 rfl ?_
                    refine j_idiv hC dX11_meet_89 (w_id kR_100) (by decide) ?_
                    refine j_iload hC 3 dX11_meet_90 rfl ?_
                    refine j_bipush hC dX11_meet_92 rfl ?_
                    refine j_idiv hC dX11_meet_94 (w_id kR_10) (by decide) ?_
                    refine j_bipush hC dX11_meet_95 rfl ?_
                    refine j_irem hC dX11_meet_97 (w_id kR_10) (by decide) ?_
                    refine j_iload hC 3 dX11_meet_98 rfl ?_
                    refine j_bipush hC dX11_meet_100 rfl ?_
                    refine j_irem hC dX11_meet_102 (w_id kR_10) (by decide) ?_
                    obtain ⟨r14, M15, hy, h⟩ := zb2_ex h
                    refine j_callVi (ci := 8) hC hE lk_X11_310 dX11_meet_103 (c_X11_reduces l hlt g v2 (zdiv v4 100) (zrem (zdiv v4 10) 10) (zrem v4 10) hv2 (cR_zdiv _ _) (cR_zrem _ _) (cR_zrem _ _) M S hF hy) [.int (zi v2), .int (zi (zdiv v4 100)), .int (zi (zrem (zdiv v4 10) 10)), .int (zi (zrem v4 10))] [] (zFx_kd hF 48 rfl) ⟨_, rfl, by decide, rfl⟩ rfl rfl rfl (zcat (Nat.le_of_ble_eq_true rfl)) (Nat.le_of_ble_eq_true rfl) (Nat.le_of_ble_eq_true rfl) (Nat.le_of_ble_eq_true rfl) (Nat.le_of_ble_eq_true rfl) (fun hp16 => ?_)
                    have hr14 := hp16
                    refine j_if_eq hC dX11_meet_106 rfl (w_id hr14) (fun c17 => ?_) (fun c17 => ?_)
                    · have h := zt c17 h
                      exact J_121 v3 v4 hv3 hv4 M15 _ h hT
                    · have h := zf c17 h
                      refine j_aload_n hC 0 dX11_meet_109 rfl rfl ?_
                      refine j_getq (q := 61) hC dX11_meet_110 f_X11_58 (zFx_kd hF 48 rfl) rfl 27 rfl (zFx_rf hF 48 27 rfl) ?_
                      refine j_aload_n hC 0 dX11_meet_113 rfl rfl ?_
                      refine j_get hC dX11_meet_114 f_X11_304 (zFx_kd hF 48 rfl) rfl 26 rfl (fun hg18 => ?_)
                      refine j_iconst hC dX11_meet_117 ?_
                      obtain ⟨c19, h⟩ := zchk_ex h
                      obtain ⟨M20, eM20, h⟩ := zlet_ex h
                      refine j_zast (n := 29524) hC dX11_meet_118 (w_id hg18) (w_id kR_1) zb01_1 (zFx_kd hF 61 rfl) (zFx_ln hF 61 rfl) c19.1 c19.2 eM20 ?_
                      refine j_iconst hC dX11_meet_119 ?_
                      refine j_istore_n hC dX11_meet_120 rfl (Nat.le_of_ble_eq_true rfl) rfl ?_
                      refine j_sub [1, 2, 0, 3] rfl ?_
                      exact J_121 0 v4 kR_0 hv4 M20 _ h hT
          exact main zN v3 v4 hv3 hv4 M hl
        intro v2 hv2 M hl
        obtain ⟨o, h, hT⟩ := zloop_ex hl
        have h : F_X11_meet_B40 v2 M = some o := by rw [ebd] at h; exact h
        unfold F_X11_meet_B40 at h
        refine j_iload_n hC 1 dX11_meet_40 rfl rfl ?_
        refine j_if_lt hC dX11_meet_41 rfl (w_id hv2) (fun c21 => ?_) (fun c21 => ?_)
        · have h := zt c21 h
          obtain rfl := Option.some.inj h
          have hx40 := hd40
          rw [← show _ = ex40 from hT] at hx40
          refine j_sub [] rfl ?_
          exact J_148 M hx40
        · have h := zf c21 h
          refine j_aload_n hC 0 dX11_meet_44 rfl rfl ?_
          refine j_getq (q := 61) hC dX11_meet_45 f_X11_58 (zFx_kd hF 48 rfl) rfl 27 rfl (zFx_rf hF 48 27 rfl) ?_
          refine j_iload_n hC 1 dX11_meet_48 rfl rfl ?_
          obtain ⟨c22, h⟩ := zchk_ex h
          refine j_zald (n := 29524) hC dX11_meet_49 (w_id hv2) (zFx_kd hF 61 rfl) (zFx_ln hF 61 rfl) c22.1 c22.2 (fun hg23 => ?_)
          obtain ⟨x24, ex24, h⟩ := zlet_ex h
          have hx24 : inR x24 := by rw [ex24]; exact (inR_b hg23)
          refine j_names ex24 ?_
          have bx24 : 0 ≤ x24 ∧ x24 ≤ 1 := by rw [ex24]; exact hg23
          refine j_istore_n hC dX11_meet_50 rfl (Nat.le_of_ble_eq_true rfl) rfl ?_
          refine j_iconst hC dX11_meet_51 ?_
          refine j_istore hC dX11_meet_52 (Nat.le_of_ble_eq_true rfl) rfl ?_
          refine j_sub [2, 3, 1, 0] rfl ?_
          exact L_54 v2 x24 0 hv2 hx24 kR_0 M _ h hT
    exact main zN v2 hv2 M hl
  have J_38 : ∀ (v1 : Int) (hv1 : inR v1) (M : zM) (_ : F_X11_meet_J38 v1 M = some M'), zJ K g 0 0 38 5 [(0, zr g 48), (1, .int (zi v1))] [] M S := by
    intro v1 hv1 M h
    unfold F_X11_meet_J38 at h
    refine j_iload_n hC 1 dX11_meet_38 rfl rfl ?_
    refine j_istore_n hC dX11_meet_39 rfl (Nat.le_of_ble_eq_true rfl) rfl ?_
    refine j_sub [1, 0] rfl ?_
    exact L_40 v1 hv1 M h
  have L_2 : ∀ (v1 : Int) (v2 : Int) (hv1 : inR v1) (hv2 : inR v2) (M : zM) (_ : F_X11_meet_L2 v1 v2 M = some M'), zJ K g 0 0 2 5 [(0, zr g 48), (1, .int (zi v1)), (2, .int (zi v2))] [] M S := by
    intro v1 v2 hv1 hv2 M h
    unfold F_X11_meet_L2 at h
    obtain ⟨ex2, hl, hd2⟩ := zb1_ex h
    obtain ⟨bd2, ebd⟩ : ∃ f, f = (fun (s : Int × zM) => F_X11_meet_B2 v1 s.1 s.2) := ⟨_, rfl⟩
    rw [← ebd] at hl
    have main : ∀ (n2 : Nat) (v2 : Int) (hv2 : inR v2) (M : zM) (_ : zloop bd2 n2 (v2, M) = some ex2), zJ K g 0 0 2 5 [(0, zr g 48), (1, .int (zi v1)), (2, .int (zi v2))] [] M S := by
      intro n2
      induction n2 with
      | zero => intro v2 hv2 M hl; exact zloop_0 hl
      | succ n2 ih2 =>
        have J_24 : ∀ (v2 : Int) (t1 : Int) (t2 : Int) (hv2 : inR v2) (ht1 : inR t1) (ht2 : inR t2) (M : zM) (o : _) (_ : F_X11_meet_J24 v1 v2 t1 t2 M = some o), zAft (bd2) n2 ex2 o → zJ K g 0 0 24 5 [(0, zr g 48), (1, .int (zi v1)), (2, .int (zi v2))] [.int (zi t2), .int (zi t1), zr g 61] M S := by
          intro v2 t1 t2 hv2 ht1 ht2 M o h hT
          unfold F_X11_meet_J24 at h
          obtain ⟨c25, h⟩ := zchk_ex h
          obtain ⟨c26, h⟩ := zchk_ex h
          obtain ⟨M27, eM27, h⟩ := zlet_ex h
          refine j_zast (n := 29524) hC dX11_meet_24 (w_id ht1) (w_id ht2) c26 (zFx_kd hF 61 rfl) (zFx_ln hF 61 rfl) c25.1 c25.2 eM27 ?_
          refine j_aload_n hC 0 dX11_meet_25 rfl rfl ?_
          refine j_getq (q := 62) hC dX11_meet_26 f_X11_61 (zFx_kd hF 48 rfl) rfl 28 rfl (zFx_rf hF 48 28 rfl) ?_
          refine j_iload_n hC 2 dX11_meet_29 rfl rfl ?_
          refine j_iconst hC dX11_meet_30 ?_
          obtain ⟨c28, h⟩ := zchk_ex h
          obtain ⟨M29, eM29, h⟩ := zlet_ex h
          refine j_iast (n := 29524) hC dX11_meet_31 (w_id hv2) (w_id kR_0) kR_0 (zFx_kd hF 62 rfl) (zFx_ln hF 62 rfl) c28.1 c28.2 eM29 ?_
          obtain ⟨x30, ex30, h⟩ := zlet_ex h
          have hx30 : inR x30 := by rw [ex30]; exact inR_w _
          refine j_iinc hC 2 dX11_meet_32 rfl ex30 (Nat.le_of_ble_eq_true rfl) rfl ?_
          refine j_goto hC dX11_meet_35 rfl ?_
          obtain rfl := Option.some.inj h
          refine j_sub [1, 2, 0] rfl ?_
          exact ih2 x30 hx30 M29 hT
        intro v2 hv2 M hl
        obtain ⟨o, h, hT⟩ := zloop_ex hl
        have h : F_X11_meet_B2 v1 v2 M = some o := by rw [ebd] at h; exact h
        unfold F_X11_meet_B2 at h
        refine j_iload_n hC 2 dX11_meet_2 rfl rfl ?_
        refine j_sipush hC dX11_meet_3 rfl ?_
        refine j_icmp_ge hC dX11_meet_6 rfl (w_id hv2) (w_id kR_29524) (fun c31 => ?_) (fun c31 => ?_)
        · have h := zf c31 h
          obtain rfl := Option.some.inj h
          have hx2 := hd2
          rw [← show _ = ex2 from hT] at hx2
          refine j_sub [0, 1] rfl ?_
          exact J_38 v1 hv1 M hx2
        · have h := zt c31 h
          refine j_aload_n hC 0 dX11_meet_9 rfl rfl ?_
          refine j_getq (q := 61) hC dX11_meet_10 f_X11_58 (zFx_kd hF 48 rfl) rfl 27 rfl (zFx_rf hF 48 27 rfl) ?_
          refine j_iload_n hC 2 dX11_meet_13 rfl rfl ?_
          refine j_iload_n hC 2 dX11_meet_14 rfl rfl ?_
          refine j_iload_n hC 1 dX11_meet_15 rfl rfl ?_
          refine j_icmp_ne hC dX11_meet_16 rfl (w_id hv2) (w_id hv1) (fun c32 => ?_) (fun c32 => ?_)
          · have h := zf c32 h
            refine j_iconst hC dX11_meet_23 ?_
            exact J_24 v2 v2 0 hv2 hv2 kR_0 M _ h hT
          · have h := zt c32 h
            refine j_iconst hC dX11_meet_19 ?_
            refine j_goto hC dX11_meet_20 rfl ?_
            exact J_24 v2 v2 1 hv2 hv2 kR_1 M _ h hT
    exact main zN v2 hv2 M hl
  refine j_iconst hC dX11_meet_0 ?_
  refine j_istore_n hC dX11_meet_1 rfl (Nat.le_of_ble_eq_true rfl) rfl ?_
  refine j_sub [1, 2, 0] rfl ?_
  exact L_2 v1 0 hv1 kR_0 M h
set_option maxHeartbeats 8000000 in
set_option maxRecDepth 100000 in
theorem c_GN (l : Launch) (hlt : l.stackTraces = false) (g : zG) : ∀ n : Nat, (∀ (v1 : Int) (hv1 : inR v1) (M : zM) (S : zS) (_ : zFx S) (r : Int) (M' : zM) (_ : F_GN n 0 v1 M = some (r, M')), zMet l g yX11_onlyForm cX11_onlyForm 5 (some .int) (9 + n) 0 0 [zr g 48, .int (zi v1)] M S (.inl (some (.int (zi r)))) M' S (inR r)) := by
  intro n
  induction n with
  | zero => intro v1 hv1 M S hF r M' h; cases h
  | succ n ih =>
    have ihG0 := ih
    have erc : ∃ rc, rc = F_GN n := ⟨_, rfl⟩
    obtain ⟨rc, erc⟩ := erc
    intro v1 hv1 M S hF r M' h
    have h : F_X11_onlyForm rc v1 M = some (r, M') := by rw [erc]; exact h
    rw [← erc] at ihG0
    refine zMet_of (by decide) hlt [(0, zr g 48), (1, .int (zi v1))] rfl (Nat.le_of_ble_eq_true rfl) (fun K hC hE hN => ?_)
    unfold F_X11_onlyForm at h
    have J_118 : ∀ (v1 : Int) (t1 : Int) (t2 : Int) (hv1 : inR v1) (ht1 : inR t1) (ht2 : inR t2) (M : zM) (_ : F_X11_onlyForm_J118 rc v1 t1 t2 M = some (r, M')), zJ K g 0 0 118 5 [(0, zr g 48), (1, .int (zi v1))] [.int (zi t2), .int (zi t1), zr g 62] M S := by
      intro v1 t1 t2 hv1 ht1 ht2 M h
      unfold F_X11_onlyForm_J118 at h
      obtain ⟨c1, h⟩ := zchk_ex h
      obtain ⟨M2, eM2, h⟩ := zlet_ex h
      refine j_iast (n := 29524) hC dX11_onlyForm_118 (w_id ht1) (w_id ht2) ht2 (zFx_kd hF 62 rfl) (zFx_ln hF 62 rfl) c1.1 c1.2 eM2 ?_
      refine j_aload_n hC 0 dX11_onlyForm_119 rfl rfl ?_
      refine j_getq (q := 62) hC dX11_onlyForm_120 f_X11_61 (zFx_kd hF 48 rfl) rfl 28 rfl (zFx_rf hF 48 28 rfl) ?_
      refine j_iload_n hC 1 dX11_onlyForm_123 rfl rfl ?_
      obtain ⟨c3, h⟩ := zchk_ex h
      refine j_iald (n := 29524) hC dX11_onlyForm_124 (w_id hv1) (zFx_kd hF 62 rfl) (zFx_ln hF 62 rfl) c3.1 c3.2 (fun hg4 => ?_)
      obtain ⟨e1, e2⟩ := zpr2 (Option.some.inj h)
      exact j_iret hC hE dX11_onlyForm_125 (w_id hg4) (zn_i _) (by rw [← e1]) e2 rfl (by rw [← e1]; exact hg4) (Nat.le_of_ble_eq_true rfl) (Nat.le_of_ble_eq_true rfl)
    have J_103 : ∀ (v1 : Int) (v2 : Int) (hv1 : inR v1) (hv2 : inR v2) (M : zM) (_ : F_X11_onlyForm_J103 rc v1 v2 M = some (r, M')), zJ K g 0 0 103 5 [(0, zr g 48), (1, .int (zi v1)), (2, .int (zi v2))] [] M S := by
      intro v1 v2 hv1 hv2 M h
      unfold F_X11_onlyForm_J103 at h
      refine j_aload_n hC 0 dX11_onlyForm_103 rfl rfl ?_
      refine j_getq (q := 62) hC dX11_onlyForm_104 f_X11_61 (zFx_kd hF 48 rfl) rfl 28 rfl (zFx_rf hF 48 28 rfl) ?_
      refine j_iload_n hC 1 dX11_onlyForm_107 rfl rfl ?_
      refine j_iload_n hC 2 dX11_onlyForm_108 rfl rfl ?_
      refine j_iconst hC dX11_onlyForm_109 ?_
      refine j_icmp_ne hC dX11_onlyForm_110 rfl (w_id hv2) (w_id kR_m1) (fun c5 => ?_) (fun c5 => ?_)
      · have h := zf c5 h
        refine j_iload_n hC 2 dX11_onlyForm_117 rfl rfl ?_
        refine j_sub [0, 1] rfl ?_
        exact J_118 v1 v1 v2 hv1 hv1 hv2 M h
      · have h := zt c5 h
        refine j_iload_n hC 1 dX11_onlyForm_113 rfl rfl ?_
        refine j_goto hC dX11_onlyForm_114 rfl ?_
        refine j_sub [0, 1] rfl ?_
        exact J_118 v1 v1 v1 hv1 hv1 hv1 M h
    have L_21 : ∀ (v1 : Int) (v2 : Int) (v3 : Int) (hv1 : inR v1) (hv2 : inR v2) (hv3 : inR v3) (M : zM) (_ : F_X11_onlyForm_L21 rc v1 v2 v3 M = some (r, M')), zJ K g 0 0 21 5 [(0, zr g 48), (1, .int (zi v1)), (2, .int (zi v2)), (3, .int (zi v3))] [] M S := by
      intro v1 v2 v3 hv1 hv2 hv3 M h
      unfold F_X11_onlyForm_L21 at h
      obtain ⟨ex21, hl, hd21⟩ := zb1_ex h
      obtain ⟨bd21, ebd⟩ : ∃ f, f = (fun (s : Int × Int × zM) => F_X11_onlyForm_B21 rc v1 s.1 s.2.1 s.2.2) := ⟨_, rfl⟩
      rw [← ebd] at hl
      have main : ∀ (n21 : Nat) (v2 : Int) (v3 : Int) (hv2 : inR v2) (hv3 : inR v3) (M : zM) (_ : zloop bd21 n21 (v2, v3, M) = some ex21), zJ K g 0 0 21 5 [(0, zr g 48), (1, .int (zi v1)), (2, .int (zi v2)), (3, .int (zi v3))] [] M S := by
        intro n21
        induction n21 with
        | zero => intro v2 v3 hv2 hv3 M hl; exact zloop_0 hl
        | succ n21 ih21 =>
          have J_97 : ∀ (v2 : Int) (v3 : Int) (hv2 : inR v2) (hv3 : inR v3) (M : zM) (o : _) (_ : F_X11_onlyForm_J97 rc v1 v2 v3 M = some o), zAft (bd21) n21 ex21 o → zJ K g 0 0 97 5 [(0, zr g 48), (1, .int (zi v1)), (2, .int (zi v2)), (3, .int (zi v3))] [] M S := by
            intro v2 v3 hv2 hv3 M o h hT
            unfold F_X11_onlyForm_J97 at h
            obtain ⟨x6, ex6, h⟩ := zlet_ex h
            have hx6 : inR x6 := by rw [ex6]; exact inR_w _
            refine j_iinc hC 3 dX11_onlyForm_97 rfl ex6 (Nat.le_of_ble_eq_true rfl) rfl ?_
            refine j_goto hC dX11_onlyForm_100 rfl ?_
            obtain rfl := Option.some.inj h
            refine j_sub [1, 2, 3, 0] rfl ?_
            exact ih21 v2 x6 hv2 hx6 M hT
          have J_96 : ∀ (v3 : Int) (t0 : Int) (hv3 : inR v3) (ht0 : inR t0) (M : zM) (o : _) (_ : F_X11_onlyForm_J96 rc v1 v3 t0 M = some o), zAft (bd21) n21 ex21 o → zJ K g 0 0 96 5 [(0, zr g 48), (1, .int (zi v1)), (3, .int (zi v3))] [.int (zi t0)] M S := by
            intro v3 t0 hv3 ht0 M o h hT
            unfold F_X11_onlyForm_J96 at h
            refine j_istore_n hC dX11_onlyForm_96 rfl (Nat.le_of_ble_eq_true rfl) rfl ?_
            refine j_sub [1, 2, 0, 3] rfl ?_
            exact J_97 t0 v3 ht0 hv3 M _ h hT
          have J_89 : ∀ (v3 : Int) (v4 : Int) (hv3 : inR v3) (hv4 : inR v4) (M : zM) (o : _) (_ : F_X11_onlyForm_J89 rc v1 v3 v4 M = some o), zAft (bd21) n21 ex21 o → zJ K g 0 0 89 5 [(0, zr g 48), (1, .int (zi v1)), (3, .int (zi v3)), (4, .int (zi v4))] [] M S := by
            intro v3 v4 hv3 hv4 M o h hT
            unfold F_X11_onlyForm_J89 at h
            refine j_iload hC 3 dX11_onlyForm_89 rfl ?_
            refine j_goto hC dX11_onlyForm_91 rfl ?_
            refine j_sub [0, 1, 2] rfl ?_
            exact J_96 v3 v4 hv3 hv4 M _ h hT
          intro v2 v3 hv2 hv3 M hl
          obtain ⟨o, h, hT⟩ := zloop_ex hl
          have h : F_X11_onlyForm_B21 rc v1 v2 v3 M = some o := by rw [ebd] at h; exact h
          unfold F_X11_onlyForm_B21 at h
          refine j_iload_n hC 3 dX11_onlyForm_21 rfl rfl ?_
          refine j_bipush hC dX11_onlyForm_22 rfl ?_
          refine j_aload_n hC 0 dX11_onlyForm_24 rfl rfl ?_
          refine j_get hC dX11_onlyForm_25 f_X11_121 (zFx_kd hF 48 rfl) rfl 7 rfl (fun hg7 => ?_)
          refine j_imul hC dX11_onlyForm_28 ?_
          refine j_icmp_ge hC dX11_onlyForm_29 rfl (w_id hv3) rfl (fun c8 => ?_) (fun c8 => ?_)
          · have h := zf c8 h
            obtain rfl := Option.some.inj h
            have hx21 := hd21
            rw [← show _ = ex21 from hT] at hx21
            refine j_sub [0, 1, 2] rfl ?_
            exact J_103 v1 v2 hv1 hv2 M hx21
          · have h := zt c8 h
            refine j_iload_n hC 2 dX11_onlyForm_32 rfl rfl ?_
            refine j_bipush hC dX11_onlyForm_33 rfl ?_
            refine j_icmp_eq hC dX11_onlyForm_35 rfl (w_id hv2) (w_id kR_m2) (fun c9 => ?_) (fun c9 => ?_)
            · have h := zt c9 h
              obtain rfl := Option.some.inj h
              have hx21 := hd21
              rw [← show _ = ex21 from hT] at hx21
              refine j_sub [0, 1, 2] rfl ?_
              exact J_103 v1 v2 hv1 hv2 M hx21
            · have h := zf c9 h
              refine j_iload_n hC 3 dX11_onlyForm_38 rfl rfl ?_
              obtain ⟨r10, hy, h⟩ := zb1_ex h
              refine j_callSi hC hE lk_X11_307 dX11_onlyForm_39 (c_X11_isPlace l hlt g v3 hv3 M S hy) [.int (zi v3)] [] rfl rfl rfl (zcat (Nat.le_of_ble_eq_true rfl)) (Nat.le_of_ble_eq_true rfl) (by omega) (Nat.le_of_ble_eq_true rfl) (Nat.le_of_ble_eq_true rfl) (fun hp11 => ?_)
              have hr10 := hp11
              refine j_if_eq hC dX11_onlyForm_42 rfl (w_id hr10) (fun c12 => ?_) (fun c12 => ?_)
              · have h := zt c12 h
                exact J_97 v2 v3 hv2 hv3 M _ h hT
              · have h := zf c12 h
                refine j_aload_n hC 0 dX11_onlyForm_45 rfl rfl ?_
                refine j_iload_n hC 1 dX11_onlyForm_46 rfl rfl ?_
                refine j_iload_n hC 3 dX11_onlyForm_47 rfl rfl ?_
                refine j_bipush hC dX11_onlyForm_48 rfl ?_
                refine j_idiv hC dX11_onlyForm_50 (w_id kR_100) (by decide) ?_
                refine j_iload_n hC 3 dX11_onlyForm_51 rfl rfl ?_
                refine j_bipush hC dX11_onlyForm_52 rfl ?_
                refine j_idiv hC dX11_onlyForm_54 (w_id kR_10) (by decide) ?_
                refine j_bipush hC dX11_onlyForm_55 rfl ?_
                refine j_irem hC dX11_onlyForm_57 (w_id kR_10) (by decide) ?_
                refine j_iload_n hC 3 dX11_onlyForm_58 rfl rfl ?_
                refine j_bipush hC dX11_onlyForm_59 rfl ?_
                refine j_irem hC dX11_onlyForm_61 (w_id kR_10) (by decide) ?_
                obtain ⟨r13, M14, hy, h⟩ := zb2_ex h
                refine j_callVi (ci := 8) hC hE lk_X11_310 dX11_onlyForm_62 (c_X11_reduces l hlt g v1 (zdiv v3 100) (zrem (zdiv v3 10) 10) (zrem v3 10) hv1 (cR_zdiv _ _) (cR_zrem _ _) (cR_zrem _ _) M S hF hy) [.int (zi v1), .int (zi (zdiv v3 100)), .int (zi (zrem (zdiv v3 10) 10)), .int (zi (zrem v3 10))] [] (zFx_kd hF 48 rfl) ⟨_, rfl, by decide, rfl⟩ rfl rfl rfl (zcat (Nat.le_of_ble_eq_true rfl)) (Nat.le_of_ble_eq_true rfl) (by omega) (Nat.le_of_ble_eq_true rfl) (Nat.le_of_ble_eq_true rfl) (fun hp15 => ?_)
                have hr13 := hp15
                refine j_if_eq hC dX11_onlyForm_65 rfl (w_id hr13) (fun c16 => ?_) (fun c16 => ?_)
                · have h := zt c16 h
                  exact J_97 v2 v3 hv2 hv3 M14 _ h hT
                · have h := zf c16 h
                  refine j_aload_n hC 0 dX11_onlyForm_68 rfl rfl ?_
                  refine j_aload_n hC 0 dX11_onlyForm_69 rfl rfl ?_
                  refine j_get hC dX11_onlyForm_70 f_X11_304 (zFx_kd hF 48 rfl) rfl 26 rfl (fun hg17 => ?_)
                  obtain ⟨r18, M19, hy, h⟩ := zb2_ex h
                  refine j_callVi (ci := 8) hC hE lk_X11_314 dX11_onlyForm_73 (ihG0 (M14 48 26) hg17 M14 S hF _ _ hy) [.int (zi (M14 48 26))] [] (zFx_kd hF 48 rfl) ⟨_, rfl, by decide, rfl⟩ rfl rfl rfl (zcat (Nat.le_of_ble_eq_true rfl)) (Nat.le_of_ble_eq_true rfl) (by omega) (Nat.le_of_ble_eq_true rfl) (Nat.le_of_ble_eq_true rfl) (fun hp20 => ?_)
                  have hr18 := hp20
                  refine j_istore hC dX11_onlyForm_76 (Nat.le_of_ble_eq_true rfl) rfl ?_
                  refine j_iload_n hC 3 dX11_onlyForm_78 rfl rfl ?_
                  refine j_iconst hC dX11_onlyForm_79 ?_
                  refine j_icmp_eq hC dX11_onlyForm_80 rfl (w_id hv2) (w_id kR_m1) (fun c21 => ?_) (fun c21 => ?_)
                  · have h := zt c21 h
                    refine j_sub [1, 2, 4, 0] rfl ?_
                    exact J_89 v3 r18 hv3 hr18 M19 _ h hT
                  · have h := zf c21 h
                    refine j_iload_n hC 3 dX11_onlyForm_83 rfl rfl ?_
                    refine j_iload hC 0 dX11_onlyForm_84 rfl ?_
                    refine j_icmp_ne hC dX11_onlyForm_86 rfl (w_id hv2) (w_id hr18) (fun c22 => ?_) (fun c22 => ?_)
                    · have h := zf c22 h
                      refine j_bipush hC dX11_onlyForm_94 rfl ?_
                      refine j_sub [1, 2, 4] rfl ?_
                      exact J_96 v3 (-2) hv3 kR_m2 M19 _ h hT
                    · have h := zt c22 h
                      refine j_sub [1, 2, 4, 0] rfl ?_
                      exact J_89 v3 r18 hv3 hr18 M19 _ h hT
      exact main zN v2 v3 hv2 hv3 M hl
    refine j_aload_n hC 0 dX11_onlyForm_0 rfl rfl ?_
    refine j_getq (q := 62) hC dX11_onlyForm_1 f_X11_61 (zFx_kd hF 48 rfl) rfl 28 rfl (zFx_rf hF 48 28 rfl) ?_
    refine j_iload_n hC 1 dX11_onlyForm_4 rfl rfl ?_
    obtain ⟨c23, h⟩ := zchk_ex h
    refine j_iald (n := 29524) hC dX11_onlyForm_5 (w_id hv1) (zFx_kd hF 62 rfl) (zFx_ln hF 62 rfl) c23.1 c23.2 (fun hg24 => ?_)
    refine j_iconst hC dX11_onlyForm_6 ?_
    refine j_icmp_eq hC dX11_onlyForm_7 rfl (w_id hg24) (w_id kR_m1) (fun c25 => ?_) (fun c25 => ?_)
    · have h := zt c25 h
      refine j_iconst hC dX11_onlyForm_17 ?_
      refine j_istore_n hC dX11_onlyForm_18 rfl (Nat.le_of_ble_eq_true rfl) rfl ?_
      refine j_iconst hC dX11_onlyForm_19 ?_
      refine j_istore_n hC dX11_onlyForm_20 rfl (Nat.le_of_ble_eq_true rfl) rfl ?_
      refine j_sub [2, 3, 1, 0] rfl ?_
      exact L_21 v1 (-1) 0 hv1 kR_m1 kR_0 M h
    · have h := zf c25 h
      refine j_aload_n hC 0 dX11_onlyForm_10 rfl rfl ?_
      refine j_getq (q := 62) hC dX11_onlyForm_11 f_X11_61 (zFx_kd hF 48 rfl) rfl 28 rfl (zFx_rf hF 48 28 rfl) ?_
      refine j_iload_n hC 1 dX11_onlyForm_14 rfl rfl ?_
      obtain ⟨c26, h⟩ := zchk_ex h
      refine j_iald (n := 29524) hC dX11_onlyForm_15 (w_id hv1) (zFx_kd hF 62 rfl) (zFx_ln hF 62 rfl) c26.1 c26.2 (fun hg27 => ?_)
      obtain ⟨e1, e2⟩ := zpr2 (Option.some.inj h)
      exact j_iret hC hE dX11_onlyForm_16 (w_id hg27) (zn_i _) (by rw [← e1]) e2 rfl (by rw [← e1]; exact hg27) (Nat.le_of_ble_eq_true rfl) (Nat.le_of_ble_eq_true rfl)
theorem c_GN_0 (l : Launch) (hlt : l.stackTraces = false) (g : zG) (n : Nat) (v1 : Int) (hv1 : inR v1) (M : zM) (S : zS) (hF : zFx S) {r : Int} {M' : zM} (h : F_GN n 0 v1 M = some (r, M')) : zMet l g yX11_onlyForm cX11_onlyForm 5 (some .int) (9 + n) 0 0 [zr g 48, .int (zi v1)] M S (.inl (some (.int (zi r)))) M' S (inR r) := (c_GN l hlt g n) v1 hv1 M S hF _ _ h
set_option maxHeartbeats 4000000 in
set_option maxRecDepth 100000 in
theorem c_X11_isConfluent (l : Launch) (hlt : l.stackTraces = false) (g : zG) (M : zM) (S : zS) (hF : zFx S) {r : Int} {M' : zM} (h : F_X11_isConfluent M = some (r, M')) : zMet l g yX11_isConfluent cX11_isConfluent 2 (some .boolean) 50 0 0 [zr g 48] M S (.inl (some (.int (zi r)))) M' S (inR r) := by
  refine zMet_of (by decide) hlt [(0, zr g 48)] rfl (Nat.le_of_ble_eq_true rfl) (fun K hC hE hN => ?_)
  unfold F_X11_isConfluent at h
  have J_84 : ∀ (M : zM) (_ : F_X11_isConfluent_J84 M = some (r, M')), zJ K g 0 0 84 2 [] [] M S := by
    intro M h
    unfold F_X11_isConfluent_J84 at h
    refine j_iconst hC dX11_isConfluent_84 ?_
    obtain ⟨e1, e2⟩ := zpr2 (Option.some.inj h)
    exact j_iret hC hE dX11_isConfluent_85 (w_id kR_1) (zn_z zb01_1) (by rw [← e1]) e2 rfl (by rw [← e1]; exact kR_1) (Nat.le_of_ble_eq_true rfl) (Nat.le_of_ble_eq_true rfl)
  have J_76 : ∀ (M : zM) (_ : F_X11_isConfluent_J76 M = some (r, M')), zJ K g 0 0 76 2 [] [] M S := by
    intro M h
    unfold F_X11_isConfluent_J76 at h
    refine j_iconst hC dX11_isConfluent_76 ?_
    obtain ⟨e1, e2⟩ := zpr2 (Option.some.inj h)
    exact j_iret hC hE dX11_isConfluent_77 (w_id kR_0) (zn_z zb01_0) (by rw [← e1]) e2 rfl (by rw [← e1]; exact kR_0) (Nat.le_of_ble_eq_true rfl) (Nat.le_of_ble_eq_true rfl)
  have L_50 : ∀ (v1 : Int) (hv1 : inR v1) (M : zM) (_ : F_X11_isConfluent_L50 v1 M = some (r, M')), zJ K g 0 0 50 2 [(0, zr g 48), (1, .int (zi v1))] [] M S := by
    intro v1 hv1 M h
    unfold F_X11_isConfluent_L50 at h
    obtain ⟨ex50, hl, hd50⟩ := zb1_ex h
    obtain ⟨bd50, ebd⟩ : ∃ f, f = (fun (s : Int × zM) => F_X11_isConfluent_B50 s.1 s.2) := ⟨_, rfl⟩
    rw [← ebd] at hl
    have main : ∀ (n50 : Nat) (v1 : Int) (hv1 : inR v1) (M : zM) (_ : zloop bd50 n50 (v1, M) = some ex50), zJ K g 0 0 50 2 [(0, zr g 48), (1, .int (zi v1))] [] M S := by
      intro n50
      induction n50 with
      | zero => intro v1 hv1 M hl; exact zloop_0 hl
      | succ n50 ih50 =>
        have J_78 : ∀ (v1 : Int) (hv1 : inR v1) (M : zM) (o : _) (_ : F_X11_isConfluent_J78 v1 M = some o), zAft (bd50) n50 ex50 o → zJ K g 0 0 78 2 [(0, zr g 48), (1, .int (zi v1))] [] M S := by
          intro v1 hv1 M o h hT
          unfold F_X11_isConfluent_J78 at h
          obtain ⟨x1, ex1, h⟩ := zlet_ex h
          have hx1 : inR x1 := by rw [ex1]; exact inR_w _
          refine j_iinc hC 1 dX11_isConfluent_78 rfl ex1 (Nat.le_of_ble_eq_true rfl) rfl ?_
          refine j_goto hC dX11_isConfluent_81 rfl ?_
          obtain rfl := Option.some.inj h
          refine j_sub [1, 0] rfl ?_
          exact ih50 x1 hx1 M hT
        intro v1 hv1 M hl
        obtain ⟨o, h, hT⟩ := zloop_ex hl
        have h : F_X11_isConfluent_B50 v1 M = some o := by rw [ebd] at h; exact h
        unfold F_X11_isConfluent_B50 at h
        refine j_iload_n hC 1 dX11_isConfluent_50 rfl rfl ?_
        refine j_sipush hC dX11_isConfluent_51 rfl ?_
        refine j_icmp_ge hC dX11_isConfluent_54 rfl (w_id hv1) (w_id kR_29524) (fun c2 => ?_) (fun c2 => ?_)
        · have h := zf c2 h
          obtain rfl := Option.some.inj h
          have hx50 := hd50
          rw [← show _ = ex50 from hT] at hx50
          dsimp only [Sum.elim] at hx50
          refine j_sub [] rfl ?_
          exact J_84 M hx50
        · have h := zt c2 h
          refine j_aload_n hC 0 dX11_isConfluent_57 rfl rfl ?_
          refine j_getq (q := 58) hC dX11_isConfluent_58 f_X11_49 (zFx_kd hF 48 rfl) rfl 22 rfl (zFx_rf hF 48 22 rfl) ?_
          refine j_iload_n hC 1 dX11_isConfluent_61 rfl rfl ?_
          obtain ⟨c3, h⟩ := zchk_ex h
          refine j_zald (n := 29524) hC dX11_isConfluent_62 (w_id hv1) (zFx_kd hF 58 rfl) (zFx_ln hF 58 rfl) c3.1 c3.2 (fun hg4 => ?_)
          refine j_if_eq hC dX11_isConfluent_63 rfl (w_id (inR_b hg4)) (fun c5 => ?_) (fun c5 => ?_)
          · have h := zt c5 h
            exact J_78 v1 hv1 M _ h hT
          · have h := zf c5 h
            refine j_aload_n hC 0 dX11_isConfluent_66 rfl rfl ?_
            refine j_iload_n hC 1 dX11_isConfluent_67 rfl rfl ?_
            obtain ⟨r6, M7, hy, h⟩ := zb2_ex h
            refine j_callVi (ci := 8) hC hE lk_X11_314 dX11_isConfluent_68 (c_GN_0 l hlt g 40 v1 hv1 M S hF hy) [.int (zi v1)] [] (zFx_kd hF 48 rfl) ⟨_, rfl, by decide, rfl⟩ rfl rfl rfl (zcat (Nat.le_of_ble_eq_true rfl)) (Nat.le_of_ble_eq_true rfl) (Nat.le_of_ble_eq_true rfl) (Nat.le_of_ble_eq_true rfl) (Nat.le_of_ble_eq_true rfl) (fun hp8 => ?_)
            have hr6 := hp8
            refine j_bipush hC dX11_isConfluent_71 rfl ?_
            refine j_icmp_ne hC dX11_isConfluent_73 rfl (w_id hr6) (w_id kR_m2) (fun c9 => ?_) (fun c9 => ?_)
            · have h := zf c9 h
              exact J_78 v1 hv1 M7 _ h hT
            · have h := zt c9 h
              obtain rfl := Option.some.inj h
              have hx50 := hd50
              rw [← show _ = ex50 from hT] at hx50
              dsimp only [Sum.elim] at hx50
              refine j_sub [] rfl ?_
              exact J_76 M7 hx50
    exact main zN v1 hv1 M hl
  have J_48 : ∀ (M : zM) (_ : F_X11_isConfluent_J48 M = some (r, M')), zJ K g 0 0 48 2 [(0, zr g 48)] [] M S := by
    intro M h
    unfold F_X11_isConfluent_J48 at h
    refine j_iconst hC dX11_isConfluent_48 ?_
    refine j_istore_n hC dX11_isConfluent_49 rfl (Nat.le_of_ble_eq_true rfl) rfl ?_
    refine j_sub [1, 0] rfl ?_
    exact L_50 0 kR_0 M h
  have L_28 : ∀ (v1 : Int) (hv1 : inR v1) (M : zM) (_ : F_X11_isConfluent_L28 v1 M = some (r, M')), zJ K g 0 0 28 2 [(0, zr g 48), (1, .int (zi v1))] [] M S := by
    intro v1 hv1 M h
    unfold F_X11_isConfluent_L28 at h
    obtain ⟨ex28, hl, hd28⟩ := zb1_ex h
    obtain ⟨bd28, ebd⟩ : ∃ f, f = (fun (s : Int × zM) => F_X11_isConfluent_B28 s.1 s.2) := ⟨_, rfl⟩
    rw [← ebd] at hl
    have main : ∀ (n28 : Nat) (v1 : Int) (hv1 : inR v1) (M : zM) (_ : zloop bd28 n28 (v1, M) = some ex28), zJ K g 0 0 28 2 [(0, zr g 48), (1, .int (zi v1))] [] M S := by
      intro n28
      induction n28 with
      | zero => intro v1 hv1 M hl; exact zloop_0 hl
      | succ n28 ih28 =>
        intro v1 hv1 M hl
        obtain ⟨o, h, hT⟩ := zloop_ex hl
        have h : F_X11_isConfluent_B28 v1 M = some o := by rw [ebd] at h; exact h
        unfold F_X11_isConfluent_B28 at h
        refine j_iload_n hC 1 dX11_isConfluent_28 rfl rfl ?_
        refine j_sipush hC dX11_isConfluent_29 rfl ?_
        refine j_icmp_ge hC dX11_isConfluent_32 rfl (w_id hv1) (w_id kR_29524) (fun c10 => ?_) (fun c10 => ?_)
        · have h := zf c10 h
          obtain rfl := Option.some.inj h
          have hx28 := hd28
          rw [← show _ = ex28 from hT] at hx28
          refine j_sub [0] rfl ?_
          exact J_48 M hx28
        · have h := zt c10 h
          refine j_aload_n hC 0 dX11_isConfluent_35 rfl rfl ?_
          refine j_getq (q := 62) hC dX11_isConfluent_36 f_X11_61 (zFx_kd hF 48 rfl) rfl 28 rfl (zFx_rf hF 48 28 rfl) ?_
          refine j_iload_n hC 1 dX11_isConfluent_39 rfl rfl ?_
          refine j_iconst hC dX11_isConfluent_40 ?_
          obtain ⟨c11, h⟩ := zchk_ex h
          obtain ⟨M12, eM12, h⟩ := zlet_ex h
          refine j_iast (n := 29524) hC dX11_isConfluent_41 (w_id hv1) (w_id kR_m1) kR_m1 (zFx_kd hF 62 rfl) (zFx_ln hF 62 rfl) c11.1 c11.2 eM12 ?_
          obtain ⟨x13, ex13, h⟩ := zlet_ex h
          have hx13 : inR x13 := by rw [ex13]; exact inR_w _
          refine j_iinc hC 1 dX11_isConfluent_42 rfl ex13 (Nat.le_of_ble_eq_true rfl) rfl ?_
          refine j_goto hC dX11_isConfluent_45 rfl ?_
          obtain rfl := Option.some.inj h
          refine j_sub [1, 0] rfl ?_
          exact ih28 x13 hx13 M12 hT
    exact main zN v1 hv1 M hl
  refine j_aload_n hC 0 dX11_isConfluent_0 rfl rfl ?_
  refine j_iconst hC dX11_isConfluent_1 ?_
  obtain ⟨M14, eM14, h⟩ := zlet_ex h
  refine j_put hC dX11_isConfluent_2 f_X11_104 pF_X11 (zFx_kd hF 48 rfl) (Or.inl rfl) rfl 0 rfl (w_id kR_0) kR_0 eM14 ?_
  refine j_aload_n hC 0 dX11_isConfluent_5 rfl rfl ?_
  obtain ⟨r15, M16, hy, h⟩ := zb2_ex h
  refine j_callVi (ci := 8) hC hE lk_X11_278 dX11_isConfluent_6 (c_X11_findAll l hlt g M14 S hF hy) [] [] (zFx_kd hF 48 rfl) ⟨_, rfl, by decide, rfl⟩ rfl rfl rfl (zcat (Nat.le_of_ble_eq_true rfl)) (Nat.le_of_ble_eq_true rfl) (Nat.le_of_ble_eq_true rfl) (Nat.le_of_ble_eq_true rfl) (Nat.le_of_ble_eq_true rfl) (fun hp17 => ?_)
  have hr15 := hp17
  refine j_if_ne hC dX11_isConfluent_9 rfl (w_id hr15) (fun c18 => ?_) (fun c18 => ?_)
  · have h := zf c18 h
    refine j_iconst hC dX11_isConfluent_26 ?_
    refine j_istore_n hC dX11_isConfluent_27 rfl (Nat.le_of_ble_eq_true rfl) rfl ?_
    refine j_sub [1, 0] rfl ?_
    exact L_28 0 kR_0 M16 h
  · have h := zt c18 h
    refine j_aload_n hC 0 dX11_isConfluent_12 rfl rfl ?_
    refine j_iconst hC dX11_isConfluent_13 ?_
    obtain ⟨r19, M20, hy, h⟩ := zb2_ex h
    refine j_callVi (ci := 8) hC hE lk_X11_134 dX11_isConfluent_14 (c_X11_fail l hlt g 1 kR_1 M16 S hF hy) [.int (zi 1)] [] (zFx_kd hF 48 rfl) ⟨_, rfl, by decide, rfl⟩ rfl rfl rfl (zcat (Nat.le_of_ble_eq_true rfl)) (Nat.le_of_ble_eq_true rfl) (Nat.le_of_ble_eq_true rfl) (Nat.le_of_ble_eq_true rfl) (Nat.le_of_ble_eq_true rfl) (fun hp21 => ?_)
    have hr19 := hp21
    refine j_if_le hC dX11_isConfluent_17 rfl (w_id hr19) (fun c22 => ?_) (fun c22 => ?_)
    · have h := zf c22 h
      refine j_iconst hC dX11_isConfluent_24 ?_
      obtain ⟨e1, e2⟩ := zpr2 (Option.some.inj h)
      exact j_iret hC hE dX11_isConfluent_25 (w_id kR_0) (zn_z zb01_0) (by rw [← e1]) e2 rfl (by rw [← e1]; exact kR_0) (Nat.le_of_ble_eq_true rfl) (Nat.le_of_ble_eq_true rfl)
    · have h := zt c22 h
      refine j_iconst hC dX11_isConfluent_20 ?_
      refine j_goto hC dX11_isConfluent_21 rfl ?_
      obtain ⟨e1, e2⟩ := zpr2 (Option.some.inj h)
      exact j_iret hC hE dX11_isConfluent_25 (w_id kR_1) (zn_z zb01_1) (by rw [← e1]) e2 rfl (by rw [← e1]; exact kR_1) (Nat.le_of_ble_eq_true rfl) (Nat.le_of_ble_eq_true rfl)
set_option maxHeartbeats 4000000 in
set_option maxRecDepth 100000 in
theorem c_X11_clearWord (l : Launch) (hlt : l.stackTraces = false) (g : zG) (M : zM) (S : zS) (hF : zFx S) {M' : zM} (h : F_X11_clearWord M = some M') : zMet l g yX11_clearWord cX11_clearWord 1 none 1 0 0 [zr g 48] M S (.inl none) M' S (True) := by
  refine zMet_of (by decide) hlt [(0, zr g 48)] rfl (Nat.le_of_ble_eq_true rfl) (fun K hC hE hN => ?_)
  unfold F_X11_clearWord at h
  refine j_aload_n hC 0 dX11_clearWord_0 rfl rfl ?_
  refine j_iconst hC dX11_clearWord_1 ?_
  obtain ⟨M1, eM1, h⟩ := zlet_ex h
  refine j_put hC dX11_clearWord_2 f_X11_104 pF_X11 (zFx_kd hF 48 rfl) (Or.inl rfl) rfl 0 rfl (w_id kR_0) kR_0 eM1 ?_
  refine j_aload_n hC 0 dX11_clearWord_5 rfl rfl ?_
  refine j_iconst hC dX11_clearWord_6 ?_
  obtain ⟨M2, eM2, h⟩ := zlet_ex h
  refine j_put hC dX11_clearWord_7 f_X11_317 pF_X11 (zFx_kd hF 48 rfl) (Or.inl rfl) rfl 29 rfl (w_id kR_0) kR_0 eM2 ?_
  have e1 := Option.some.inj h
  exact j_vret hC hE dX11_clearWord_10 rfl e1 rfl trivial (Nat.le_of_ble_eq_true rfl) (Nat.le_of_ble_eq_true rfl)
set_option maxHeartbeats 4000000 in
set_option maxRecDepth 100000 in
theorem c_X11_addLetter (l : Launch) (hlt : l.stackTraces = false) (g : zG) (v1 : Int) (hv1 : inR v1) (M : zM) (S : zS) (hF : zFx S) {M' : zM} (h : F_X11_addLetter v1 M = some M') : zMet l g yX11_addLetter cX11_addLetter 2 none 5 0 0 [zr g 48, .int (zi v1)] M S (.inl none) M' S (True) := by
  refine zMet_of (by decide) hlt [(0, zr g 48), (1, .int (zi v1))] rfl (Nat.le_of_ble_eq_true rfl) (fun K hC hE hN => ?_)
  unfold F_X11_addLetter at h
  have J_64 : ∀ (t1 : Int) (ht1 : inR t1) (M : zM) (_ : F_X11_addLetter_J64 t1 M = some M'), zJ K g 0 0 64 2 [] [.int (zi t1), zr g 48] M S := by
    intro t1 ht1 M h
    unfold F_X11_addLetter_J64 at h
    obtain ⟨M1, eM1, h⟩ := zlet_ex h
    refine j_put hC dX11_addLetter_64 f_X11_317 pF_X11 (zFx_kd hF 48 rfl) (Or.inl rfl) rfl 29 rfl (w_id ht1) ht1 eM1 ?_
    have e1 := Option.some.inj h
    exact j_vret hC hE dX11_addLetter_67 rfl e1 rfl trivial (Nat.le_of_ble_eq_true rfl) (Nat.le_of_ble_eq_true rfl)
  have J_33 : ∀ (v1 : Int) (t1 : Int) (hv1 : inR v1) (ht1 : inR t1) (M : zM) (_ : F_X11_addLetter_J33 v1 t1 M = some M'), zJ K g 0 0 33 2 [(0, zr g 48), (1, .int (zi v1))] [.int (zi t1), zr g 48] M S := by
    intro v1 t1 hv1 ht1 M h
    unfold F_X11_addLetter_J33 at h
    obtain ⟨M2, eM2, h⟩ := zlet_ex h
    refine j_put hC dX11_addLetter_33 f_X11_104 pF_X11 (zFx_kd hF 48 rfl) (Or.inl rfl) rfl 0 rfl (w_id ht1) ht1 eM2 ?_
    refine j_aload_n hC 0 dX11_addLetter_36 rfl rfl ?_
    refine j_aload_n hC 0 dX11_addLetter_37 rfl rfl ?_
    refine j_get hC dX11_addLetter_38 f_X11_104 (zFx_kd hF 48 rfl) rfl 0 rfl (fun hg3 => ?_)
    refine j_if_ne hC dX11_addLetter_41 rfl (w_id hg3) (fun c4 => ?_) (fun c4 => ?_)
    · have h := zf c4 h
      refine j_aload_n hC 0 dX11_addLetter_60 rfl rfl ?_
      refine j_get hC dX11_addLetter_61 f_X11_317 (zFx_kd hF 48 rfl) rfl 29 rfl (fun hg5 => ?_)
      refine j_sub [] rfl ?_
      exact J_64 (M2 48 29) hg5 M2 h
    · have h := zt c4 h
      refine j_aload_n hC 0 dX11_addLetter_44 rfl rfl ?_
      refine j_get hC dX11_addLetter_45 f_X11_317 (zFx_kd hF 48 rfl) rfl 29 rfl (fun hg6 => ?_)
      refine j_iconst hC dX11_addLetter_48 ?_
      refine j_iload_n hC 1 dX11_addLetter_49 rfl rfl ?_
      refine j_iadd hC dX11_addLetter_50 ?_
      refine j_bipush hC dX11_addLetter_51 rfl ?_
      refine j_isub hC dX11_addLetter_53 ?_
      obtain ⟨r7, hy, h⟩ := zb1_ex h
      refine j_callSi hC hE lk_X11_159 dX11_addLetter_54 (c_X11_joined l hlt g (M2 48 29) (w ((1 + v1) - 97)) hg6 (inR_w _) M2 S hy) [.int (zi (M2 48 29)), .int (zi ((1 + v1) - 97))] [zr g 48] rfl (by simp only [zi_w, zl_wl]) rfl (zcat (Nat.le_of_ble_eq_true rfl)) (Nat.le_of_ble_eq_true rfl) (Nat.le_of_ble_eq_true rfl) (Nat.le_of_ble_eq_true rfl) (Nat.le_of_ble_eq_true rfl) (fun hp8 => ?_)
      have hr7 := hp8
      refine j_goto hC dX11_addLetter_57 rfl ?_
      refine j_sub [] rfl ?_
      exact J_64 r7 hr7 M2 h
  refine j_aload_n hC 0 dX11_addLetter_0 rfl rfl ?_
  refine j_iload_n hC 1 dX11_addLetter_1 rfl rfl ?_
  refine j_bipush hC dX11_addLetter_2 rfl ?_
  refine j_bipush hC dX11_addLetter_4 rfl ?_
  obtain ⟨r9, hy, h⟩ := zb1_ex h
  refine j_callSi hC hE lk_X11_124 dX11_addLetter_6 (c_X11_isIn l hlt g v1 97 99 hv1 kR_97 kR_99 M S hy) [.int (zi v1), .int (zi 97), .int (zi 99)] [zr g 48] rfl rfl rfl (zcat (Nat.le_of_ble_eq_true rfl)) (Nat.le_of_ble_eq_true rfl) (Nat.le_of_ble_eq_true rfl) (Nat.le_of_ble_eq_true rfl) (Nat.le_of_ble_eq_true rfl) (fun hp10 => ?_)
  have hr9 := hp10
  refine j_if_ne hC dX11_addLetter_9 rfl (w_id hr9) (fun c11 => ?_) (fun c11 => ?_)
  · have h := zf c11 h
    refine j_aload_n hC 0 dX11_addLetter_16 rfl rfl ?_
    refine j_get hC dX11_addLetter_17 f_X11_317 (zFx_kd hF 48 rfl) rfl 29 rfl (fun hg12 => ?_)
    obtain ⟨r13, hy, h⟩ := zb1_ex h
    refine j_callSi hC hE lk_X11_114 dX11_addLetter_20 (c_X11_lengthOf l hlt g (M 48 29) hg12 M S hy) [.int (zi (M 48 29))] [zr g 48] rfl rfl rfl (zcat (Nat.le_of_ble_eq_true rfl)) (Nat.le_of_ble_eq_true rfl) (Nat.le_of_ble_eq_true rfl) (Nat.le_of_ble_eq_true rfl) (Nat.le_of_ble_eq_true rfl) (fun hp14 => ?_)
    have hr13 := hp14
    refine j_bipush hC dX11_addLetter_23 rfl ?_
    refine j_icmp_ne hC dX11_addLetter_25 rfl (w_id hr13) (w_id kR_9) (fun c15 => ?_) (fun c15 => ?_)
    · have h := zf c15 h
      refine j_iconst hC dX11_addLetter_32 ?_
      exact J_33 v1 0 hv1 kR_0 M h
    · have h := zt c15 h
      refine j_iconst hC dX11_addLetter_28 ?_
      refine j_goto hC dX11_addLetter_29 rfl ?_
      exact J_33 v1 2 hv1 kR_2 M h
  · have h := zt c11 h
    refine j_iconst hC dX11_addLetter_12 ?_
    refine j_goto hC dX11_addLetter_13 rfl ?_
    exact J_33 v1 1 hv1 kR_1 M h
set_option maxHeartbeats 4000000 in
set_option maxRecDepth 100000 in
theorem c_X11_takeAxiom (l : Launch) (hlt : l.stackTraces = false) (g : zG) (v1 : Int) (hv1 : inR v1) (M : zM) (S : zS) (hF : zFx S) {M' : zM} (h : F_X11_takeAxiom v1 M = some M') : zMet l g yX11_takeAxiom cX11_takeAxiom 2 none 2 0 0 [zr g 48, .int (zi v1)] M S (.inl none) M' S (True) := by
  refine zMet_of (by decide) hlt [(0, zr g 48), (1, .int (zi v1))] rfl (Nat.le_of_ble_eq_true rfl) (fun K hC hE hN => ?_)
  unfold F_X11_takeAxiom at h
  have J_44 : ∀ (t1 : Int) (ht1 : inR t1) (M : zM) (_ : F_X11_takeAxiom_J44 t1 M = some M'), zJ K g 0 0 44 2 [] [.int (zi t1), zr g 48] M S := by
    intro t1 ht1 M h
    unfold F_X11_takeAxiom_J44 at h
    obtain ⟨M1, eM1, h⟩ := zlet_ex h
    refine j_put hC dX11_takeAxiom_44 f_X11_317 pF_X11 (zFx_kd hF 48 rfl) (Or.inl rfl) rfl 29 rfl (w_id ht1) ht1 eM1 ?_
    have e1 := Option.some.inj h
    exact j_vret hC hE dX11_takeAxiom_47 rfl e1 rfl trivial (Nat.le_of_ble_eq_true rfl) (Nat.le_of_ble_eq_true rfl)
  have J_20 : ∀ (v1 : Int) (t1 : Int) (hv1 : inR v1) (ht1 : inR t1) (M : zM) (_ : F_X11_takeAxiom_J20 v1 t1 M = some M'), zJ K g 0 0 20 2 [(0, zr g 48), (1, .int (zi v1))] [.int (zi t1), zr g 48] M S := by
    intro v1 t1 hv1 ht1 M h
    unfold F_X11_takeAxiom_J20 at h
    obtain ⟨M2, eM2, h⟩ := zlet_ex h
    refine j_put hC dX11_takeAxiom_20 f_X11_104 pF_X11 (zFx_kd hF 48 rfl) (Or.inl rfl) rfl 0 rfl (w_id ht1) ht1 eM2 ?_
    refine j_aload_n hC 0 dX11_takeAxiom_23 rfl rfl ?_
    refine j_aload_n hC 0 dX11_takeAxiom_24 rfl rfl ?_
    refine j_get hC dX11_takeAxiom_25 f_X11_104 (zFx_kd hF 48 rfl) rfl 0 rfl (fun hg3 => ?_)
    refine j_if_ne hC dX11_takeAxiom_28 rfl (w_id hg3) (fun c4 => ?_) (fun c4 => ?_)
    · have h := zf c4 h
      refine j_aload_n hC 0 dX11_takeAxiom_40 rfl rfl ?_
      refine j_get hC dX11_takeAxiom_41 f_X11_317 (zFx_kd hF 48 rfl) rfl 29 rfl (fun hg5 => ?_)
      refine j_sub [] rfl ?_
      exact J_44 (M2 48 29) hg5 M2 h
    · have h := zt c4 h
      refine j_aload_n hC 0 dX11_takeAxiom_31 rfl rfl ?_
      refine j_getq (q := 49) hC dX11_takeAxiom_32 f_X11_7 (zFx_kd hF 48 rfl) rfl 1 rfl (zFx_rf hF 48 1 rfl) ?_
      refine j_iload_n hC 1 dX11_takeAxiom_35 rfl rfl ?_
      obtain ⟨c6, h⟩ := zchk_ex h
      refine j_iald (n := 6) hC dX11_takeAxiom_36 (w_id hv1) (zFx_kd hF 49 rfl) (zFx_ln hF 49 rfl) c6.1 c6.2 (fun hg7 => ?_)
      refine j_goto hC dX11_takeAxiom_37 rfl ?_
      refine j_sub [] rfl ?_
      exact J_44 (M2 49 v1) hg7 M2 h
  refine j_aload_n hC 0 dX11_takeAxiom_0 rfl rfl ?_
  refine j_iload_n hC 1 dX11_takeAxiom_1 rfl rfl ?_
  refine j_iconst hC dX11_takeAxiom_2 ?_
  refine j_aload_n hC 0 dX11_takeAxiom_3 rfl rfl ?_
  refine j_get hC dX11_takeAxiom_4 f_X11_128 (zFx_kd hF 48 rfl) rfl 2 rfl (fun hg8 => ?_)
  refine j_iconst hC dX11_takeAxiom_7 ?_
  refine j_isub hC dX11_takeAxiom_8 ?_
  obtain ⟨r9, hy, h⟩ := zb1_ex h
  refine j_callSi hC hE lk_X11_124 dX11_takeAxiom_9 (c_X11_isIn l hlt g v1 0 (w ((M 48 2) - 1)) hv1 kR_0 (inR_w _) M S hy) [.int (zi v1), .int (zi 0), .int (zi ((M 48 2) - 1))] [zr g 48] rfl (by simp only [zi_w, zl_wl]) rfl (zcat (Nat.le_of_ble_eq_true rfl)) (Nat.le_of_ble_eq_true rfl) (Nat.le_of_ble_eq_true rfl) (Nat.le_of_ble_eq_true rfl) (Nat.le_of_ble_eq_true rfl) (fun hp10 => ?_)
  have hr9 := hp10
  refine j_if_eq hC dX11_takeAxiom_12 rfl (w_id hr9) (fun c11 => ?_) (fun c11 => ?_)
  · have h := zt c11 h
    refine j_iconst hC dX11_takeAxiom_19 ?_
    exact J_20 v1 1 hv1 kR_1 M h
  · have h := zf c11 h
    refine j_iconst hC dX11_takeAxiom_15 ?_
    refine j_goto hC dX11_takeAxiom_16 rfl ?_
    exact J_20 v1 0 hv1 kR_0 M h
set_option maxHeartbeats 4000000 in
set_option maxRecDepth 100000 in
theorem c_X11_takeWord (l : Launch) (hlt : l.stackTraces = false) (g : zG) (v1 : Int) (hv1 : inR v1) (M : zM) (S : zS) (hF : zFx S) {M' : zM} (h : F_X11_takeWord v1 M = some M') : zMet l g yX11_takeWord cX11_takeWord 4 none 11 0 0 [zr g 48, .int (zi v1)] M S (.inl none) M' S (True) := by
  refine zMet_of (by decide) hlt [(0, zr g 48), (1, .int (zi v1))] rfl (Nat.le_of_ble_eq_true rfl) (fun K hC hE hN => ?_)
  unfold F_X11_takeWord at h
  have J_78 : ∀ (v3 : Int) (hv3 : inR v3) (M : zM) (_ : F_X11_takeWord_J78 v3 M = some M'), zJ K g 0 0 78 4 [(0, zr g 48), (3, .int (zi v3))] [] M S := by
    intro v3 hv3 M h
    unfold F_X11_takeWord_J78 at h
    refine j_aload_n hC 0 dX11_takeWord_78 rfl rfl ?_
    refine j_iload_n hC 1 dX11_takeWord_79 rfl rfl ?_
    obtain ⟨M1, eM1, h⟩ := zlet_ex h
    refine j_put hC dX11_takeWord_80 f_X11_317 pF_X11 (zFx_kd hF 48 rfl) (Or.inl rfl) rfl 29 rfl (w_id hv3) hv3 eM1 ?_
    have e1 := Option.some.inj h
    exact j_vret hC hE dX11_takeWord_83 rfl e1 rfl trivial (Nat.le_of_ble_eq_true rfl) (Nat.le_of_ble_eq_true rfl)
  have L_42 : ∀ (v2 : Int) (v3 : Int) (hv2 : inR v2) (hv3 : inR v3) (M : zM) (_ : F_X11_takeWord_L42 v2 v3 M = some M'), zJ K g 0 0 42 4 [(0, zr g 48), (2, .int (zi v2)), (3, .int (zi v3))] [] M S := by
    intro v2 v3 hv2 hv3 M h
    unfold F_X11_takeWord_L42 at h
    obtain ⟨ex42, hl, hd42⟩ := zb1_ex h
    obtain ⟨bd42, ebd⟩ : ∃ f, f = (fun (s : Int × Int) => F_X11_takeWord_B42 s.1 s.2 M) := ⟨_, rfl⟩
    rw [← ebd] at hl
    have main : ∀ (n42 : Nat) (v2 : Int) (v3 : Int) (hv2 : inR v2) (hv3 : inR v3) (_ : zloop bd42 n42 (v2, v3) = some ex42), zJ K g 0 0 42 4 [(0, zr g 48), (2, .int (zi v2)), (3, .int (zi v3))] [] M S := by
      intro n42
      induction n42 with
      | zero => intro v2 v3 hv2 hv3 hl; exact zloop_0 hl
      | succ n42 ih42 =>
        have J_70 : ∀ (v3 : Int) (t0 : Int) (t1 : Int) (hv3 : inR v3) (ht0 : inR t0) (ht1 : inR t1) (o : _) (_ : F_X11_takeWord_J70 v3 t0 t1 M = some o), zAft (bd42) n42 ex42 o → zJ K g 0 0 70 4 [(0, zr g 48), (3, .int (zi v3))] [.int (zi t1), .int (zi t0)] M S := by
          intro v3 t0 t1 hv3 ht0 ht1 o h hT
          unfold F_X11_takeWord_J70 at h
          refine j_isub hC dX11_takeWord_70 ?_
          obtain ⟨x2, ex2, h⟩ := zlet_ex h
          have hx2 : inR x2 := by rw [ex2]; exact inR_w _
          refine j_namei ex2 ?_
          refine j_istore_n hC dX11_takeWord_71 rfl (Nat.le_of_ble_eq_true rfl) rfl ?_
          obtain ⟨x3, ex3, h⟩ := zlet_ex h
          have hx3 : inR x3 := by rw [ex3]; exact inR_w _
          refine j_iinc hC 2 dX11_takeWord_72 rfl ex3 (Nat.le_of_ble_eq_true rfl) rfl ?_
          refine j_goto hC dX11_takeWord_75 rfl ?_
          obtain rfl := Option.some.inj h
          refine j_sub [2, 1, 0] rfl ?_
          exact ih42 x2 x3 hx2 hx3 hT
        have J_55 : ∀ (v2 : Int) (v3 : Int) (hv2 : inR v2) (hv3 : inR v3) (o : _) (_ : F_X11_takeWord_J55 v2 v3 M = some o), zAft (bd42) n42 ex42 o → zJ K g 0 0 55 4 [(0, zr g 48), (2, .int (zi v2)), (3, .int (zi v3))] [] M S := by
          intro v2 v3 hv2 hv3 o h hT
          unfold F_X11_takeWord_J55 at h
          refine j_iload_n hC 1 dX11_takeWord_55 rfl rfl ?_
          refine j_aload_n hC 0 dX11_takeWord_56 rfl rfl ?_
          refine j_getq (q := 58) hC dX11_takeWord_57 f_X11_49 (zFx_kd hF 48 rfl) rfl 22 rfl (zFx_rf hF 48 22 rfl) ?_
          refine j_iload_n hC 2 dX11_takeWord_60 rfl rfl ?_
          obtain ⟨c4, h⟩ := zchk_ex h
          refine j_zald (n := 29524) hC dX11_takeWord_61 (w_id hv3) (zFx_kd hF 58 rfl) (zFx_ln hF 58 rfl) c4.1 c4.2 (fun hg5 => ?_)
          refine j_if_eq hC dX11_takeWord_62 rfl (w_id (inR_b hg5)) (fun c6 => ?_) (fun c6 => ?_)
          · have h := zt c6 h
            refine j_iconst hC dX11_takeWord_69 ?_
            refine j_sub [0, 2] rfl ?_
            exact J_70 v3 v2 0 hv3 hv2 kR_0 _ h hT
          · have h := zf c6 h
            refine j_iconst hC dX11_takeWord_65 ?_
            refine j_goto hC dX11_takeWord_66 rfl ?_
            refine j_sub [0, 2] rfl ?_
            exact J_70 v3 v2 1 hv3 hv2 kR_1 _ h hT
        intro v2 v3 hv2 hv3 hl
        obtain ⟨o, h, hT⟩ := zloop_ex hl
        have h : F_X11_takeWord_B42 v2 v3 M = some o := by rw [ebd] at h; exact h
        unfold F_X11_takeWord_B42 at h
        refine j_iload_n hC 1 dX11_takeWord_42 rfl rfl ?_
        refine j_if_gt hC dX11_takeWord_43 rfl (w_id hv2) (fun c7 => ?_) (fun c7 => ?_)
        · have h := zt c7 h
          exact J_55 v2 v3 hv2 hv3 _ h hT
        · have h := zf c7 h
          refine j_aload_n hC 0 dX11_takeWord_46 rfl rfl ?_
          refine j_getq (q := 58) hC dX11_takeWord_47 f_X11_49 (zFx_kd hF 48 rfl) rfl 22 rfl (zFx_rf hF 48 22 rfl) ?_
          refine j_iload_n hC 2 dX11_takeWord_50 rfl rfl ?_
          obtain ⟨c8, h⟩ := zchk_ex h
          refine j_zald (n := 29524) hC dX11_takeWord_51 (w_id hv3) (zFx_kd hF 58 rfl) (zFx_ln hF 58 rfl) c8.1 c8.2 (fun hg9 => ?_)
          refine j_if_ne hC dX11_takeWord_52 rfl (w_id (inR_b hg9)) (fun c10 => ?_) (fun c10 => ?_)
          · have h := zf c10 h
            obtain rfl := Option.some.inj h
            have hx42 := hd42
            rw [← show _ = ex42 from hT] at hx42
            refine j_sub [0, 2] rfl ?_
            exact J_78 v3 hv3 M hx42
          · have h := zt c10 h
            exact J_55 v2 v3 hv2 hv3 _ h hT
    exact main zN v2 v3 hv2 hv3 hl
  refine j_aload_n hC 0 dX11_takeWord_0 rfl rfl ?_
  refine j_iconst hC dX11_takeWord_1 ?_
  obtain ⟨M11, eM11, h⟩ := zlet_ex h
  refine j_put hC dX11_takeWord_2 f_X11_104 pF_X11 (zFx_kd hF 48 rfl) (Or.inl rfl) rfl 0 rfl (w_id kR_0) kR_0 eM11 ?_
  refine j_aload_n hC 0 dX11_takeWord_5 rfl rfl ?_
  obtain ⟨r12, M13, hy, h⟩ := zb2_ex h
  refine j_callVi (ci := 8) hC hE lk_X11_278 dX11_takeWord_6 (c_X11_findAll l hlt g M11 S hF hy) [] [] (zFx_kd hF 48 rfl) ⟨_, rfl, by decide, rfl⟩ rfl rfl rfl (zcat (Nat.le_of_ble_eq_true rfl)) (Nat.le_of_ble_eq_true rfl) (Nat.le_of_ble_eq_true rfl) (Nat.le_of_ble_eq_true rfl) (Nat.le_of_ble_eq_true rfl) (fun hp14 => ?_)
  have hr12 := hp14
  refine j_if_ne hC dX11_takeWord_9 rfl (w_id hr12) (fun c15 => ?_) (fun c15 => ?_)
  · have h := zf c15 h
    refine j_iload_n hC 1 dX11_takeWord_18 rfl rfl ?_
    refine j_iconst hC dX11_takeWord_19 ?_
    refine j_aload_n hC 0 dX11_takeWord_20 rfl rfl ?_
    refine j_get hC dX11_takeWord_21 f_X11_250 (zFx_kd hF 48 rfl) rfl 23 rfl (fun hg16 => ?_)
    refine j_iconst hC dX11_takeWord_24 ?_
    refine j_isub hC dX11_takeWord_25 ?_
    obtain ⟨r17, hy, h⟩ := zb1_ex h
    refine j_callSi hC hE lk_X11_124 dX11_takeWord_26 (c_X11_isIn l hlt g v1 0 (w ((M13 48 23) - 1)) hv1 kR_0 (inR_w _) M13 S hy) [.int (zi v1), .int (zi 0), .int (zi ((M13 48 23) - 1))] [] rfl (by simp only [zi_w, zl_wl]) rfl (zcat (Nat.le_of_ble_eq_true rfl)) (Nat.le_of_ble_eq_true rfl) (Nat.le_of_ble_eq_true rfl) (Nat.le_of_ble_eq_true rfl) (Nat.le_of_ble_eq_true rfl) (fun hp18 => ?_)
    have hr17 := hp18
    refine j_if_ne hC dX11_takeWord_29 rfl (w_id hr17) (fun c19 => ?_) (fun c19 => ?_)
    · have h := zf c19 h
      refine j_iload_n hC 1 dX11_takeWord_38 rfl rfl ?_
      refine j_istore_n hC dX11_takeWord_39 rfl (Nat.le_of_ble_eq_true rfl) rfl ?_
      refine j_iconst hC dX11_takeWord_40 ?_
      refine j_istore_n hC dX11_takeWord_41 rfl (Nat.le_of_ble_eq_true rfl) rfl ?_
      refine j_sub [2, 1, 0] rfl ?_
      exact L_42 v1 0 hv1 kR_0 M13 h
    · have h := zt c19 h
      refine j_aload_n hC 0 dX11_takeWord_32 rfl rfl ?_
      refine j_iconst hC dX11_takeWord_33 ?_
      obtain ⟨M20, eM20, h⟩ := zlet_ex h
      refine j_put hC dX11_takeWord_34 f_X11_104 pF_X11 (zFx_kd hF 48 rfl) (Or.inl rfl) rfl 0 rfl (w_id kR_2) kR_2 eM20 ?_
      have e1 := Option.some.inj h
      exact j_vret hC hE dX11_takeWord_37 rfl e1 rfl trivial (Nat.le_of_ble_eq_true rfl) (Nat.le_of_ble_eq_true rfl)
  · have h := zt c15 h
    refine j_aload_n hC 0 dX11_takeWord_12 rfl rfl ?_
    refine j_iconst hC dX11_takeWord_13 ?_
    obtain ⟨M21, eM21, h⟩ := zlet_ex h
    refine j_put hC dX11_takeWord_14 f_X11_104 pF_X11 (zFx_kd hF 48 rfl) (Or.inl rfl) rfl 0 rfl (w_id kR_1) kR_1 eM21 ?_
    have e1 := Option.some.inj h
    exact j_vret hC hE dX11_takeWord_17 rfl e1 rfl trivial (Nat.le_of_ble_eq_true rfl) (Nat.le_of_ble_eq_true rfl)
set_option maxHeartbeats 4000000 in
set_option maxRecDepth 100000 in
theorem c_X11_wordLength (l : Launch) (hlt : l.stackTraces = false) (g : zG) (M : zM) (S : zS) (hF : zFx S) {r : Int} {M' : zM} (h : F_X11_wordLength M = some (r, M')) : zMet l g yX11_wordLength cX11_wordLength 1 (some .int) 4 0 0 [zr g 48] M S (.inl (some (.int (zi r)))) M' S (inR r) := by
  refine zMet_of (by decide) hlt [(0, zr g 48)] rfl (Nat.le_of_ble_eq_true rfl) (fun K hC hE hN => ?_)
  unfold F_X11_wordLength at h
  refine j_aload_n hC 0 dX11_wordLength_0 rfl rfl ?_
  refine j_iconst hC dX11_wordLength_1 ?_
  obtain ⟨M1, eM1, h⟩ := zlet_ex h
  refine j_put hC dX11_wordLength_2 f_X11_104 pF_X11 (zFx_kd hF 48 rfl) (Or.inl rfl) rfl 0 rfl (w_id kR_0) kR_0 eM1 ?_
  refine j_aload_n hC 0 dX11_wordLength_5 rfl rfl ?_
  refine j_get hC dX11_wordLength_6 f_X11_317 (zFx_kd hF 48 rfl) rfl 29 rfl (fun hg2 => ?_)
  obtain ⟨r3, hy, h⟩ := zb1_ex h
  refine j_callSi hC hE lk_X11_114 dX11_wordLength_9 (c_X11_lengthOf l hlt g (M1 48 29) hg2 M1 S hy) [.int (zi (M1 48 29))] [] rfl rfl rfl (zcat (Nat.le_of_ble_eq_true rfl)) (Nat.le_of_ble_eq_true rfl) (Nat.le_of_ble_eq_true rfl) (Nat.le_of_ble_eq_true rfl) (Nat.le_of_ble_eq_true rfl) (fun hp4 => ?_)
  have hr3 := hp4
  obtain ⟨e1, e2⟩ := zpr2 (Option.some.inj h)
  exact j_iret hC hE dX11_wordLength_12 (w_id hr3) (zn_i _) (by rw [← e1]) e2 rfl (by rw [← e1]; exact hr3) (Nat.le_of_ble_eq_true rfl) (Nat.le_of_ble_eq_true rfl)
set_option maxHeartbeats 4000000 in
set_option maxRecDepth 100000 in
theorem c_X11_letterAt (l : Launch) (hlt : l.stackTraces = false) (g : zG) (v1 : Int) (hv1 : inR v1) (M : zM) (S : zS) (hF : zFx S) {r : Int} {M' : zM} (h : F_X11_letterAt v1 M = some (r, M')) : zMet l g yX11_letterAt cX11_letterAt 3 (some .char) 5 0 0 [zr g 48, .int (zi v1)] M S (.inl (some (.int (zi r)))) M' S (inR r) := by
  refine zMet_of (by decide) hlt [(0, zr g 48), (1, .int (zi v1))] rfl (Nat.le_of_ble_eq_true rfl) (fun K hC hE hN => ?_)
  unfold F_X11_letterAt at h
  refine j_aload_n hC 0 dX11_letterAt_0 rfl rfl ?_
  refine j_iconst hC dX11_letterAt_1 ?_
  obtain ⟨M1, eM1, h⟩ := zlet_ex h
  refine j_put hC dX11_letterAt_2 f_X11_104 pF_X11 (zFx_kd hF 48 rfl) (Or.inl rfl) rfl 0 rfl (w_id kR_0) kR_0 eM1 ?_
  refine j_aload_n hC 0 dX11_letterAt_5 rfl rfl ?_
  refine j_get hC dX11_letterAt_6 f_X11_317 (zFx_kd hF 48 rfl) rfl 29 rfl (fun hg2 => ?_)
  obtain ⟨r3, hy, h⟩ := zb1_ex h
  refine j_callSi hC hE lk_X11_114 dX11_letterAt_9 (c_X11_lengthOf l hlt g (M1 48 29) hg2 M1 S hy) [.int (zi (M1 48 29))] [] rfl rfl rfl (zcat (Nat.le_of_ble_eq_true rfl)) (Nat.le_of_ble_eq_true rfl) (Nat.le_of_ble_eq_true rfl) (Nat.le_of_ble_eq_true rfl) (Nat.le_of_ble_eq_true rfl) (fun hp4 => ?_)
  have hr3 := hp4
  refine j_istore_n hC dX11_letterAt_12 rfl (Nat.le_of_ble_eq_true rfl) rfl ?_
  refine j_iload_n hC 2 dX11_letterAt_13 rfl rfl ?_
  refine j_iconst hC dX11_letterAt_14 ?_
  refine j_iload_n hC 0 dX11_letterAt_15 rfl rfl ?_
  refine j_iconst hC dX11_letterAt_16 ?_
  refine j_isub hC dX11_letterAt_17 ?_
  obtain ⟨r5, hy, h⟩ := zb1_ex h
  refine j_callSi hC hE lk_X11_124 dX11_letterAt_18 (c_X11_isIn l hlt g v1 0 (w (r3 - 1)) hv1 kR_0 (inR_w _) M1 S hy) [.int (zi v1), .int (zi 0), .int (zi (r3 - 1))] [] rfl (by simp only [zi_w, zl_wl]) rfl (zcat (Nat.le_of_ble_eq_true rfl)) (Nat.le_of_ble_eq_true rfl) (Nat.le_of_ble_eq_true rfl) (Nat.le_of_ble_eq_true rfl) (Nat.le_of_ble_eq_true rfl) (fun hp6 => ?_)
  have hr5 := hp6
  refine j_if_eq hC dX11_letterAt_21 rfl (w_id hr5) (fun c7 => ?_) (fun c7 => ?_)
  · have h := zt c7 h
    refine j_aload_n hC 1 dX11_letterAt_40 rfl rfl ?_
    refine j_iconst hC dX11_letterAt_41 ?_
    obtain ⟨r8, M9, hy, h⟩ := zb2_ex h
    refine j_callVi (ci := 8) hC hE lk_X11_134 dX11_letterAt_42 (c_X11_fail l hlt g 1 kR_1 M1 S hF hy) [.int (zi 1)] [] (zFx_kd hF 48 rfl) ⟨_, rfl, by decide, rfl⟩ rfl rfl rfl (zcat (Nat.le_of_ble_eq_true rfl)) (Nat.le_of_ble_eq_true rfl) (Nat.le_of_ble_eq_true rfl) (Nat.le_of_ble_eq_true rfl) (Nat.le_of_ble_eq_true rfl) (fun hp10 => ?_)
    have hr8 := hp10
    refine j_i2c hC dX11_letterAt_45 ?_
    obtain ⟨c11, h⟩ := zchk_ex h
    obtain ⟨e1, e2⟩ := zpr2 (Option.some.inj h)
    exact j_iret hC hE dX11_letterAt_46 (w_id (cR_zi2c _)) (zn_c c11) (by rw [← e1]) e2 rfl (by rw [← e1]; exact (cR_zi2c _)) (Nat.le_of_ble_eq_true rfl) (Nat.le_of_ble_eq_true rfl)
  · have h := zf c7 h
    refine j_bipush hC dX11_letterAt_24 rfl ?_
    refine j_aload_n hC 1 dX11_letterAt_26 rfl rfl ?_
    refine j_get hC dX11_letterAt_27 f_X11_317 (zFx_kd hF 48 rfl) rfl 29 rfl (fun hg12 => ?_)
    refine j_iload_n hC 0 dX11_letterAt_30 rfl rfl ?_
    refine j_iload_n hC 2 dX11_letterAt_31 rfl rfl ?_
    obtain ⟨r13, hy, h⟩ := zb1_ex h
    refine j_callSi hC hE lk_X11_230 dX11_letterAt_32 (c_X11_letter l hlt g (M1 48 29) r3 v1 hg12 hr3 hv1 M1 S hy) [.int (zi (M1 48 29)), .int (zi r3), .int (zi v1)] [.int (zi 97)] rfl rfl rfl (zcat (Nat.le_of_ble_eq_true rfl)) (Nat.le_of_ble_eq_true rfl) (Nat.le_of_ble_eq_true rfl) (Nat.le_of_ble_eq_true rfl) (Nat.le_of_ble_eq_true rfl) (fun hp14 => ?_)
    have hr13 := hp14
    refine j_iadd hC dX11_letterAt_35 ?_
    refine j_i2c hC dX11_letterAt_36 ?_
    refine j_goto hC dX11_letterAt_37 rfl ?_
    obtain ⟨c15, h⟩ := zchk_ex h
    obtain ⟨e1, e2⟩ := zpr2 (Option.some.inj h)
    exact j_iret hC hE dX11_letterAt_46 (w_id (cR_zi2c _)) (zn_c c15) (by rw [← e1]) e2 rfl (by rw [← e1]; exact (cR_zi2c _)) (Nat.le_of_ble_eq_true rfl) (Nat.le_of_ble_eq_true rfl)
set_option maxHeartbeats 4000000 in
set_option maxRecDepth 100000 in
theorem c_X11_isGenerated (l : Launch) (hlt : l.stackTraces = false) (g : zG) (M : zM) (S : zS) (hF : zFx S) {r : Int} {M' : zM} (h : F_X11_isGenerated M = some (r, M')) : zMet l g yX11_isGenerated cX11_isGenerated 1 (some .boolean) 11 0 0 [zr g 48] M S (.inl (some (.int (zi r)))) M' S (inR r) := by
  refine zMet_of (by decide) hlt [(0, zr g 48)] rfl (Nat.le_of_ble_eq_true rfl) (fun K hC hE hN => ?_)
  unfold F_X11_isGenerated at h
  refine j_aload_n hC 0 dX11_isGenerated_0 rfl rfl ?_
  refine j_iconst hC dX11_isGenerated_1 ?_
  obtain ⟨M1, eM1, h⟩ := zlet_ex h
  refine j_put hC dX11_isGenerated_2 f_X11_104 pF_X11 (zFx_kd hF 48 rfl) (Or.inl rfl) rfl 0 rfl (w_id kR_0) kR_0 eM1 ?_
  refine j_aload_n hC 0 dX11_isGenerated_5 rfl rfl ?_
  obtain ⟨r2, M3, hy, h⟩ := zb2_ex h
  refine j_callVi (ci := 8) hC hE lk_X11_278 dX11_isGenerated_6 (c_X11_findAll l hlt g M1 S hF hy) [] [] (zFx_kd hF 48 rfl) ⟨_, rfl, by decide, rfl⟩ rfl rfl rfl (zcat (Nat.le_of_ble_eq_true rfl)) (Nat.le_of_ble_eq_true rfl) (Nat.le_of_ble_eq_true rfl) (Nat.le_of_ble_eq_true rfl) (Nat.le_of_ble_eq_true rfl) (fun hp4 => ?_)
  have hr2 := hp4
  refine j_if_eq hC dX11_isGenerated_9 rfl (w_id hr2) (fun c5 => ?_) (fun c5 => ?_)
  · have h := zt c5 h
    refine j_aload_n hC 0 dX11_isGenerated_24 rfl rfl ?_
    refine j_iconst hC dX11_isGenerated_25 ?_
    obtain ⟨r6, M7, hy, h⟩ := zb2_ex h
    refine j_callVi (ci := 8) hC hE lk_X11_134 dX11_isGenerated_26 (c_X11_fail l hlt g 1 kR_1 M3 S hF hy) [.int (zi 1)] [] (zFx_kd hF 48 rfl) ⟨_, rfl, by decide, rfl⟩ rfl rfl rfl (zcat (Nat.le_of_ble_eq_true rfl)) (Nat.le_of_ble_eq_true rfl) (Nat.le_of_ble_eq_true rfl) (Nat.le_of_ble_eq_true rfl) (Nat.le_of_ble_eq_true rfl) (fun hp8 => ?_)
    have hr6 := hp8
    refine j_if_le hC dX11_isGenerated_29 rfl (w_id hr6) (fun c9 => ?_) (fun c9 => ?_)
    · have h := zf c9 h
      refine j_iconst hC dX11_isGenerated_36 ?_
      obtain ⟨e1, e2⟩ := zpr2 (Option.some.inj h)
      exact j_iret hC hE dX11_isGenerated_37 (w_id kR_0) (zn_z zb01_0) (by rw [← e1]) e2 rfl (by rw [← e1]; exact kR_0) (Nat.le_of_ble_eq_true rfl) (Nat.le_of_ble_eq_true rfl)
    · have h := zt c9 h
      refine j_iconst hC dX11_isGenerated_32 ?_
      refine j_goto hC dX11_isGenerated_33 rfl ?_
      obtain ⟨e1, e2⟩ := zpr2 (Option.some.inj h)
      exact j_iret hC hE dX11_isGenerated_37 (w_id kR_1) (zn_z zb01_1) (by rw [← e1]) e2 rfl (by rw [← e1]; exact kR_1) (Nat.le_of_ble_eq_true rfl) (Nat.le_of_ble_eq_true rfl)
  · have h := zf c5 h
    refine j_aload_n hC 0 dX11_isGenerated_12 rfl rfl ?_
    refine j_getq (q := 58) hC dX11_isGenerated_13 f_X11_49 (zFx_kd hF 48 rfl) rfl 22 rfl (zFx_rf hF 48 22 rfl) ?_
    refine j_aload_n hC 0 dX11_isGenerated_16 rfl rfl ?_
    refine j_get hC dX11_isGenerated_17 f_X11_317 (zFx_kd hF 48 rfl) rfl 29 rfl (fun hg10 => ?_)
    obtain ⟨c11, h⟩ := zchk_ex h
    refine j_zald (n := 29524) hC dX11_isGenerated_20 (w_id hg10) (zFx_kd hF 58 rfl) (zFx_ln hF 58 rfl) c11.1 c11.2 (fun hg12 => ?_)
    refine j_goto hC dX11_isGenerated_21 rfl ?_
    obtain ⟨e1, e2⟩ := zpr2 (Option.some.inj h)
    exact j_iret hC hE dX11_isGenerated_37 (w_id (inR_b hg12)) (zn_z hg12) (by rw [← e1]) e2 rfl (by rw [← e1]; exact (inR_b hg12)) (Nat.le_of_ble_eq_true rfl) (Nat.le_of_ble_eq_true rfl)
set_option maxHeartbeats 4000000 in
set_option maxRecDepth 100000 in
theorem c_X11_rank (l : Launch) (hlt : l.stackTraces = false) (g : zG) (M : zM) (S : zS) (hF : zFx S) {r : Int} {M' : zM} (h : F_X11_rank M = some (r, M')) : zMet l g yX11_rank cX11_rank 3 (some .int) 11 0 0 [zr g 48] M S (.inl (some (.int (zi r)))) M' S (inR r) := by
  refine zMet_of (by decide) hlt [(0, zr g 48)] rfl (Nat.le_of_ble_eq_true rfl) (fun K hC hE hN => ?_)
  unfold F_X11_rank at h
  have J_71 : ∀ (v1 : Int) (hv1 : inR v1) (M : zM) (_ : F_X11_rank_J71 v1 M = some (r, M')), zJ K g 0 0 71 3 [(1, .int (zi v1))] [] M S := by
    intro v1 hv1 M h
    unfold F_X11_rank_J71 at h
    refine j_iload_n hC 0 dX11_rank_71 rfl rfl ?_
    obtain ⟨e1, e2⟩ := zpr2 (Option.some.inj h)
    exact j_iret hC hE dX11_rank_72 (w_id hv1) (zn_i _) (by rw [← e1]) e2 rfl (by rw [← e1]; exact hv1) (Nat.le_of_ble_eq_true rfl) (Nat.le_of_ble_eq_true rfl)
  have L_40 : ∀ (v1 : Int) (v2 : Int) (hv1 : inR v1) (hv2 : inR v2) (M : zM) (_ : F_X11_rank_L40 v1 v2 M = some (r, M')), zJ K g 0 0 40 3 [(0, zr g 48), (1, .int (zi v1)), (2, .int (zi v2))] [] M S := by
    intro v1 v2 hv1 hv2 M h
    unfold F_X11_rank_L40 at h
    obtain ⟨ex40, hl, hd40⟩ := zb1_ex h
    obtain ⟨bd40, ebd⟩ : ∃ f, f = (fun (s : Int × Int) => F_X11_rank_B40 s.1 s.2 M) := ⟨_, rfl⟩
    rw [← ebd] at hl
    have main : ∀ (n40 : Nat) (v1 : Int) (v2 : Int) (hv1 : inR v1) (hv2 : inR v2) (_ : zloop bd40 n40 (v1, v2) = some ex40), zJ K g 0 0 40 3 [(0, zr g 48), (1, .int (zi v1)), (2, .int (zi v2))] [] M S := by
      intro n40
      induction n40 with
      | zero => intro v1 v2 hv1 hv2 hl; exact zloop_0 hl
      | succ n40 ih40 =>
        have J_63 : ∀ (v2 : Int) (t0 : Int) (t1 : Int) (hv2 : inR v2) (ht0 : inR t0) (ht1 : inR t1) (o : _) (_ : F_X11_rank_J63 v2 t0 t1 M = some o), zAft (bd40) n40 ex40 o → zJ K g 0 0 63 3 [(0, zr g 48), (2, .int (zi v2))] [.int (zi t1), .int (zi t0)] M S := by
          intro v2 t0 t1 hv2 ht0 ht1 o h hT
          unfold F_X11_rank_J63 at h
          refine j_iadd hC dX11_rank_63 ?_
          obtain ⟨x1, ex1, h⟩ := zlet_ex h
          have hx1 : inR x1 := by rw [ex1]; exact inR_w _
          refine j_namei ex1 ?_
          refine j_istore_n hC dX11_rank_64 rfl (Nat.le_of_ble_eq_true rfl) rfl ?_
          obtain ⟨x2, ex2, h⟩ := zlet_ex h
          have hx2 : inR x2 := by rw [ex2]; exact inR_w _
          refine j_iinc hC 2 dX11_rank_65 rfl ex2 (Nat.le_of_ble_eq_true rfl) rfl ?_
          refine j_goto hC dX11_rank_68 rfl ?_
          obtain rfl := Option.some.inj h
          refine j_sub [2, 1, 0] rfl ?_
          exact ih40 x1 x2 hx1 hx2 hT
        intro v1 v2 hv1 hv2 hl
        obtain ⟨o, h, hT⟩ := zloop_ex hl
        have h : F_X11_rank_B40 v1 v2 M = some o := by rw [ebd] at h; exact h
        unfold F_X11_rank_B40 at h
        refine j_iload_n hC 2 dX11_rank_40 rfl rfl ?_
        refine j_aload_n hC 0 dX11_rank_41 rfl rfl ?_
        refine j_get hC dX11_rank_42 f_X11_317 (zFx_kd hF 48 rfl) rfl 29 rfl (fun hg3 => ?_)
        refine j_icmp_ge hC dX11_rank_45 rfl (w_id hv2) (w_id hg3) (fun c4 => ?_) (fun c4 => ?_)
        · have h := zf c4 h
          obtain rfl := Option.some.inj h
          have hx40 := hd40
          rw [← show _ = ex40 from hT] at hx40
          refine j_sub [1] rfl ?_
          exact J_71 v1 hv1 M hx40
        · have h := zt c4 h
          refine j_iload_n hC 1 dX11_rank_48 rfl rfl ?_
          refine j_aload_n hC 0 dX11_rank_49 rfl rfl ?_
          refine j_getq (q := 58) hC dX11_rank_50 f_X11_49 (zFx_kd hF 48 rfl) rfl 22 rfl (zFx_rf hF 48 22 rfl) ?_
          refine j_iload_n hC 2 dX11_rank_53 rfl rfl ?_
          obtain ⟨c5, h⟩ := zchk_ex h
          refine j_zald (n := 29524) hC dX11_rank_54 (w_id hv2) (zFx_kd hF 58 rfl) (zFx_ln hF 58 rfl) c5.1 c5.2 (fun hg6 => ?_)
          refine j_if_eq hC dX11_rank_55 rfl (w_id (inR_b hg6)) (fun c7 => ?_) (fun c7 => ?_)
          · have h := zt c7 h
            refine j_iconst hC dX11_rank_62 ?_
            refine j_sub [0, 2] rfl ?_
            exact J_63 v2 v1 0 hv2 hv1 kR_0 _ h hT
          · have h := zf c7 h
            refine j_iconst hC dX11_rank_58 ?_
            refine j_goto hC dX11_rank_59 rfl ?_
            refine j_sub [0, 2] rfl ?_
            exact J_63 v2 v1 1 hv2 hv1 kR_1 _ h hT
    exact main zN v1 v2 hv1 hv2 hl
  refine j_aload_n hC 0 dX11_rank_0 rfl rfl ?_
  refine j_iconst hC dX11_rank_1 ?_
  obtain ⟨M8, eM8, h⟩ := zlet_ex h
  refine j_put hC dX11_rank_2 f_X11_104 pF_X11 (zFx_kd hF 48 rfl) (Or.inl rfl) rfl 0 rfl (w_id kR_0) kR_0 eM8 ?_
  refine j_aload_n hC 0 dX11_rank_5 rfl rfl ?_
  obtain ⟨r9, M10, hy, h⟩ := zb2_ex h
  refine j_callVi (ci := 8) hC hE lk_X11_278 dX11_rank_6 (c_X11_findAll l hlt g M8 S hF hy) [] [] (zFx_kd hF 48 rfl) ⟨_, rfl, by decide, rfl⟩ rfl rfl rfl (zcat (Nat.le_of_ble_eq_true rfl)) (Nat.le_of_ble_eq_true rfl) (Nat.le_of_ble_eq_true rfl) (Nat.le_of_ble_eq_true rfl) (Nat.le_of_ble_eq_true rfl) (fun hp11 => ?_)
  have hr9 := hp11
  refine j_if_ne hC dX11_rank_9 rfl (w_id hr9) (fun c12 => ?_) (fun c12 => ?_)
  · have h := zf c12 h
    refine j_aload_n hC 0 dX11_rank_18 rfl rfl ?_
    refine j_getq (q := 58) hC dX11_rank_19 f_X11_49 (zFx_kd hF 48 rfl) rfl 22 rfl (zFx_rf hF 48 22 rfl) ?_
    refine j_aload_n hC 0 dX11_rank_22 rfl rfl ?_
    refine j_get hC dX11_rank_23 f_X11_317 (zFx_kd hF 48 rfl) rfl 29 rfl (fun hg13 => ?_)
    obtain ⟨c14, h⟩ := zchk_ex h
    refine j_zald (n := 29524) hC dX11_rank_26 (w_id hg13) (zFx_kd hF 58 rfl) (zFx_ln hF 58 rfl) c14.1 c14.2 (fun hg15 => ?_)
    refine j_if_ne hC dX11_rank_27 rfl (w_id (inR_b hg15)) (fun c16 => ?_) (fun c16 => ?_)
    · have h := zf c16 h
      refine j_iconst hC dX11_rank_36 ?_
      refine j_istore_n hC dX11_rank_37 rfl (Nat.le_of_ble_eq_true rfl) rfl ?_
      refine j_iconst hC dX11_rank_38 ?_
      refine j_istore_n hC dX11_rank_39 rfl (Nat.le_of_ble_eq_true rfl) rfl ?_
      refine j_sub [2, 1, 0] rfl ?_
      exact L_40 0 0 kR_0 kR_0 M10 h
    · have h := zt c16 h
      refine j_aload_n hC 0 dX11_rank_30 rfl rfl ?_
      refine j_iconst hC dX11_rank_31 ?_
      obtain ⟨r17, M18, hy, h⟩ := zb2_ex h
      refine j_callVi (ci := 8) hC hE lk_X11_134 dX11_rank_32 (c_X11_fail l hlt g 2 kR_2 M10 S hF hy) [.int (zi 2)] [] (zFx_kd hF 48 rfl) ⟨_, rfl, by decide, rfl⟩ rfl rfl rfl (zcat (Nat.le_of_ble_eq_true rfl)) (Nat.le_of_ble_eq_true rfl) (Nat.le_of_ble_eq_true rfl) (Nat.le_of_ble_eq_true rfl) (Nat.le_of_ble_eq_true rfl) (fun hp19 => ?_)
      have hr17 := hp19
      obtain ⟨e1, e2⟩ := zpr2 (Option.some.inj h)
      exact j_iret hC hE dX11_rank_35 (w_id hr17) (zn_i _) (by rw [← e1]) e2 rfl (by rw [← e1]; exact hr17) (Nat.le_of_ble_eq_true rfl) (Nat.le_of_ble_eq_true rfl)
  · have h := zt c12 h
    refine j_aload_n hC 0 dX11_rank_12 rfl rfl ?_
    refine j_iconst hC dX11_rank_13 ?_
    obtain ⟨r20, M21, hy, h⟩ := zb2_ex h
    refine j_callVi (ci := 8) hC hE lk_X11_134 dX11_rank_14 (c_X11_fail l hlt g 1 kR_1 M10 S hF hy) [.int (zi 1)] [] (zFx_kd hF 48 rfl) ⟨_, rfl, by decide, rfl⟩ rfl rfl rfl (zcat (Nat.le_of_ble_eq_true rfl)) (Nat.le_of_ble_eq_true rfl) (Nat.le_of_ble_eq_true rfl) (Nat.le_of_ble_eq_true rfl) (Nat.le_of_ble_eq_true rfl) (fun hp22 => ?_)
    have hr20 := hp22
    obtain ⟨e1, e2⟩ := zpr2 (Option.some.inj h)
    exact j_iret hC hE dX11_rank_17 (w_id hr20) (zn_i _) (by rw [← e1]) e2 rfl (by rw [← e1]; exact hr20) (Nat.le_of_ble_eq_true rfl) (Nat.le_of_ble_eq_true rfl)
set_option maxHeartbeats 4000000 in
set_option maxRecDepth 100000 in
theorem c_X11_findFar (l : Launch) (hlt : l.stackTraces = false) (g : zG) (M : zM) (S : zS) (hF : zFx S) {M' : zM} (h : F_X11_findFar M = some M') : zMet l g yX11_findFar cX11_findFar 5 none 8 0 0 [zr g 48] M S (.inl none) M' S (True) := by
  refine zMet_of (by decide) hlt [(0, zr g 48)] rfl (Nat.le_of_ble_eq_true rfl) (fun K hC hE hN => ?_)
  unfold F_X11_findFar at h
  have J_195 : ∀ (M : zM) (_ : F_X11_findFar_J195 M = some M'), zJ K g 0 0 195 5 [] [] M S := by
    intro M h
    unfold F_X11_findFar_J195 at h
    have e1 := Option.some.inj h
    exact j_vret hC hE dX11_findFar_195 rfl e1 rfl trivial (Nat.le_of_ble_eq_true rfl) (Nat.le_of_ble_eq_true rfl)
  have L_41 : ∀ (v1 : Int) (hv1 : inR v1) (M : zM) (_ : F_X11_findFar_L41 v1 M = some M'), zJ K g 0 0 41 5 [(0, zr g 48), (1, .int (zi v1))] [] M S := by
    intro v1 hv1 M h
    unfold F_X11_findFar_L41 at h
    obtain ⟨ex41, hl, hd41⟩ := zb1_ex h
    obtain ⟨bd41, ebd⟩ : ∃ f, f = (fun (s : Int × zM) => F_X11_findFar_B41 s.1 s.2) := ⟨_, rfl⟩
    rw [← ebd] at hl
    have main : ∀ (n41 : Nat) (v1 : Int) (hv1 : inR v1) (M : zM) (_ : zloop bd41 n41 (v1, M) = some ex41), zJ K g 0 0 41 5 [(0, zr g 48), (1, .int (zi v1))] [] M S := by
      intro n41
      induction n41 with
      | zero => intro v1 hv1 M hl; exact zloop_0 hl
      | succ n41 ih41 =>
        have J_189 : ∀ (v1 : Int) (hv1 : inR v1) (M : zM) (o : _) (_ : F_X11_findFar_J189 v1 M = some o), zAft (bd41) n41 ex41 o → zJ K g 0 0 189 5 [(0, zr g 48), (1, .int (zi v1))] [] M S := by
          intro v1 hv1 M o h hT
          unfold F_X11_findFar_J189 at h
          obtain ⟨x1, ex1, h⟩ := zlet_ex h
          have hx1 : inR x1 := by rw [ex1]; exact inR_w _
          refine j_iinc hC 1 dX11_findFar_189 rfl ex1 (Nat.le_of_ble_eq_true rfl) rfl ?_
          refine j_goto hC dX11_findFar_192 rfl ?_
          obtain rfl := Option.some.inj h
          refine j_sub [1, 0] rfl ?_
          exact ih41 x1 hx1 M hT
        have L_47 : ∀ (v1 : Int) (v2 : Int) (hv1 : inR v1) (hv2 : inR v2) (M : zM) (o : _) (_ : F_X11_findFar_L47 v1 v2 M = some o), zAft (bd41) n41 ex41 o → zJ K g 0 0 47 5 [(0, zr g 48), (1, .int (zi v1)), (2, .int (zi v2))] [] M S := by
          intro v1 v2 hv1 hv2 M oh47 h hT47
          unfold F_X11_findFar_L47 at h
          obtain ⟨ex47, hl, hd47⟩ := zb1_ex h
          obtain ⟨bd47, ebd⟩ : ∃ f, f = (fun (s : Int × zM) => F_X11_findFar_B47 v1 s.1 s.2) := ⟨_, rfl⟩
          rw [← ebd] at hl
          have main : ∀ (n47 : Nat) (v2 : Int) (hv2 : inR v2) (M : zM) (_ : zloop bd47 n47 (v2, M) = some ex47), zJ K g 0 0 47 5 [(0, zr g 48), (1, .int (zi v1)), (2, .int (zi v2))] [] M S := by
            intro n47
            induction n47 with
            | zero => intro v2 hv2 M hl; exact zloop_0 hl
            | succ n47 ih47 =>
              have J_183 : ∀ (v2 : Int) (hv2 : inR v2) (M : zM) (o : _) (_ : F_X11_findFar_J183 v1 v2 M = some o), zAft (bd47) n47 ex47 o → zJ K g 0 0 183 5 [(0, zr g 48), (1, .int (zi v1)), (2, .int (zi v2))] [] M S := by
                intro v2 hv2 M o h hT
                unfold F_X11_findFar_J183 at h
                obtain ⟨x2, ex2, h⟩ := zlet_ex h
                have hx2 : inR x2 := by rw [ex2]; exact inR_w _
                refine j_iinc hC 2 dX11_findFar_183 rfl ex2 (Nat.le_of_ble_eq_true rfl) rfl ?_
                refine j_goto hC dX11_findFar_186 rfl ?_
                obtain rfl := Option.some.inj h
                refine j_sub [1, 2, 0] rfl ?_
                exact ih47 x2 hx2 M hT
              have L_72 : ∀ (v2 : Int) (v3 : Int) (hv2 : inR v2) (hv3 : inR v3) (M : zM) (o : _) (_ : F_X11_findFar_L72 v1 v2 v3 M = some o), zAft (bd47) n47 ex47 o → zJ K g 0 0 72 5 [(0, zr g 48), (1, .int (zi v1)), (2, .int (zi v2)), (3, .int (zi v3))] [] M S := by
                intro v2 v3 hv2 hv3 M oh72 h hT72
                unfold F_X11_findFar_L72 at h
                obtain ⟨ex72, hl, hd72⟩ := zb1_ex h
                obtain ⟨bd72, ebd⟩ : ∃ f, f = (fun (s : Int × zM) => F_X11_findFar_B72 v1 v2 s.1 s.2) := ⟨_, rfl⟩
                rw [← ebd] at hl
                have main : ∀ (n72 : Nat) (v3 : Int) (hv3 : inR v3) (M : zM) (_ : zloop bd72 n72 (v3, M) = some ex72), zJ K g 0 0 72 5 [(0, zr g 48), (1, .int (zi v1)), (2, .int (zi v2)), (3, .int (zi v3))] [] M S := by
                  intro n72
                  induction n72 with
                  | zero => intro v3 hv3 M hl; exact zloop_0 hl
                  | succ n72 ih72 =>
                    have J_177 : ∀ (v3 : Int) (hv3 : inR v3) (M : zM) (o : _) (_ : F_X11_findFar_J177 v1 v2 v3 M = some o), zAft (bd72) n72 ex72 o → zJ K g 0 0 177 5 [(0, zr g 48), (1, .int (zi v1)), (2, .int (zi v2)), (3, .int (zi v3))] [] M S := by
                      intro v3 hv3 M o h hT
                      unfold F_X11_findFar_J177 at h
                      obtain ⟨x3, ex3, h⟩ := zlet_ex h
                      have hx3 : inR x3 := by rw [ex3]; exact inR_w _
                      refine j_iinc hC 3 dX11_findFar_177 rfl ex3 (Nat.le_of_ble_eq_true rfl) rfl ?_
                      refine j_goto hC dX11_findFar_180 rfl ?_
                      obtain rfl := Option.some.inj h
                      refine j_sub [1, 2, 3, 0] rfl ?_
                      exact ih72 x3 hx3 M hT
                    have J_176 : ∀ (v3 : Int) (t1 : Int) (t2 : Int) (hv3 : inR v3) (ht1 : inR t1) (ht2 : inR t2) (M : zM) (o : _) (_ : F_X11_findFar_J176 v1 v2 v3 t1 t2 M = some o), zAft (bd72) n72 ex72 o → zJ K g 0 0 176 5 [(0, zr g 48), (1, .int (zi v1)), (2, .int (zi v2)), (3, .int (zi v3))] [.int (zi t2), .int (zi t1), zr g 63] M S := by
                      intro v3 t1 t2 hv3 ht1 ht2 M o h hT
                      unfold F_X11_findFar_J176 at h
                      obtain ⟨c4, h⟩ := zchk_ex h
                      obtain ⟨M5, eM5, h⟩ := zlet_ex h
                      refine j_iast (n := 29524) hC dX11_findFar_176 (w_id ht1) (w_id ht2) ht2 (zFx_kd hF 63 rfl) (zFx_ln hF 63 rfl) c4.1 c4.2 eM5 ?_
                      exact J_177 v3 hv3 M5 _ h hT
                    have J_170 : ∀ (v3 : Int) (t1 : Int) (hv3 : inR v3) (ht1 : inR t1) (M : zM) (o : _) (_ : F_X11_findFar_J170 v1 v2 v3 t1 M = some o), zAft (bd72) n72 ex72 o → zJ K g 0 0 170 5 [(0, zr g 48), (1, .int (zi v1)), (2, .int (zi v2)), (3, .int (zi v3))] [.int (zi t1), zr g 63] M S := by
                      intro v3 t1 hv3 ht1 M o h hT
                      unfold F_X11_findFar_J170 at h
                      refine j_aload_n hC 0 dX11_findFar_170 rfl rfl ?_
                      refine j_getq (q := 63) hC dX11_findFar_171 f_X11_64 (zFx_kd hF 48 rfl) rfl 30 rfl (zFx_rf hF 48 30 rfl) ?_
                      refine j_iload_n hC 1 dX11_findFar_174 rfl rfl ?_
                      obtain ⟨c6, h⟩ := zchk_ex h
                      refine j_iald (n := 29524) hC dX11_findFar_175 (w_id hv1) (zFx_kd hF 63 rfl) (zFx_ln hF 63 rfl) c6.1 c6.2 (fun hg7 => ?_)
                      exact J_176 v3 t1 (M 63 v1) hv3 ht1 hg7 M _ h hT
                    have J_163 : ∀ (v3 : Int) (v4 : Int) (t1 : Int) (hv3 : inR v3) (hv4 : inR v4) (ht1 : inR t1) (M : zM) (o : _) (_ : F_X11_findFar_J163 v1 v2 v3 v4 t1 M = some o), zAft (bd72) n72 ex72 o → zJ K g 0 0 163 5 [(0, zr g 48), (1, .int (zi v1)), (2, .int (zi v2)), (3, .int (zi v3)), (4, .int (zi v4))] [.int (zi t1), zr g 63] M S := by
                      intro v3 v4 t1 hv3 hv4 ht1 M o h hT
                      unfold F_X11_findFar_J163 at h
                      refine j_iload hC 4 dX11_findFar_163 rfl ?_
                      refine j_iconst hC dX11_findFar_165 ?_
                      refine j_iadd hC dX11_findFar_166 ?_
                      refine j_goto hC dX11_findFar_167 rfl ?_
                      refine j_sub [0, 1, 2, 3] rfl ?_
                      refine j_stk (st2 := [.int (zi (w (v4 + 1))), .int (zi t1), zr g 63]) (by simp only [zi_w, zl_wl]) ?_
                      exact J_176 v3 t1 (w (v4 + 1)) hv3 ht1 (inR_w _) M _ h hT
                    intro v3 hv3 M hl
                    obtain ⟨o, h, hT⟩ := zloop_ex hl
                    have h : F_X11_findFar_B72 v1 v2 v3 M = some o := by rw [ebd] at h; exact h
                    unfold F_X11_findFar_B72 at h
                    refine j_iload_n hC 3 dX11_findFar_72 rfl rfl ?_
                    refine j_bipush hC dX11_findFar_73 rfl ?_
                    refine j_icmp_ge hC dX11_findFar_75 rfl (w_id hv3) (w_id kR_100) (fun c8 => ?_) (fun c8 => ?_)
                    · have h := zf c8 h
                      obtain rfl := Option.some.inj h
                      have hx72 := hd72
                      rw [← show _ = ex72 from hT] at hx72
                      refine j_sub [0, 1, 2] rfl ?_
                      exact J_183 v2 hv2 M _ hx72 hT72
                    · have h := zt c8 h
                      refine j_aload_n hC 0 dX11_findFar_78 rfl rfl ?_
                      refine j_iload_n hC 2 dX11_findFar_79 rfl rfl ?_
                      obtain ⟨r9, hy, h⟩ := zb1_ex h
                      refine j_callVi (ci := 8) hC hE lk_X11_263 dX11_findFar_80 (c_X11_hasRoom l hlt g v2 hv2 M S hF hy) [.int (zi v2)] [] (zFx_kd hF 48 rfl) ⟨_, rfl, by decide, rfl⟩ rfl rfl rfl (zcat (Nat.le_of_ble_eq_true rfl)) (Nat.le_of_ble_eq_true rfl) (Nat.le_of_ble_eq_true rfl) (Nat.le_of_ble_eq_true rfl) (Nat.le_of_ble_eq_true rfl) (fun hp10 => ?_)
                      have hr9 := hp10
                      refine j_if_eq hC dX11_findFar_83 rfl (w_id hr9) (fun c11 => ?_) (fun c11 => ?_)
                      · have h := zt c11 h
                        obtain rfl := Option.some.inj h
                        have hx72 := hd72
                        rw [← show _ = ex72 from hT] at hx72
                        refine j_sub [0, 1, 2] rfl ?_
                        exact J_183 v2 hv2 M _ hx72 hT72
                      · have h := zf c11 h
                        refine j_aload_n hC 0 dX11_findFar_86 rfl rfl ?_
                        refine j_iload_n hC 3 dX11_findFar_87 rfl rfl ?_
                        obtain ⟨r12, hy, h⟩ := zb1_ex h
                        refine j_callVi (ci := 8) hC hE lk_X11_266 dX11_findFar_88 (c_X11_isFactor l hlt g v3 hv3 M S hF hy) [.int (zi v3)] [] (zFx_kd hF 48 rfl) ⟨_, rfl, by decide, rfl⟩ rfl rfl rfl (zcat (Nat.le_of_ble_eq_true rfl)) (Nat.le_of_ble_eq_true rfl) (Nat.le_of_ble_eq_true rfl) (Nat.le_of_ble_eq_true rfl) (Nat.le_of_ble_eq_true rfl) (fun hp13 => ?_)
                        have hr12 := hp13
                        refine j_if_eq hC dX11_findFar_91 rfl (w_id hr12) (fun c14 => ?_) (fun c14 => ?_)
                        · have h := zt c14 h
                          exact J_177 v3 hv3 M _ h hT
                        · have h := zf c14 h
                          refine j_aload_n hC 0 dX11_findFar_94 rfl rfl ?_
                          refine j_iload_n hC 3 dX11_findFar_95 rfl rfl ?_
                          refine j_bipush hC dX11_findFar_96 rfl ?_
                          refine j_idiv hC dX11_findFar_98 (w_id kR_10) (by decide) ?_
                          refine j_iload_n hC 3 dX11_findFar_99 rfl rfl ?_
                          refine j_bipush hC dX11_findFar_100 rfl ?_
                          refine j_irem hC dX11_findFar_102 (w_id kR_10) (by decide) ?_
                          obtain ⟨r15, hy, h⟩ := zb1_ex h
                          refine j_callVi (ci := 8) hC hE lk_X11_269 dX11_findFar_103 (c_X11_isSelected l hlt g (zdiv v3 10) (zrem v3 10) (cR_zdiv _ _) (cR_zrem _ _) M S hF hy) [.int (zi (zdiv v3 10)), .int (zi (zrem v3 10))] [] (zFx_kd hF 48 rfl) ⟨_, rfl, by decide, rfl⟩ rfl rfl rfl (zcat (Nat.le_of_ble_eq_true rfl)) (Nat.le_of_ble_eq_true rfl) (Nat.le_of_ble_eq_true rfl) (Nat.le_of_ble_eq_true rfl) (Nat.le_of_ble_eq_true rfl) (fun hp16 => ?_)
                          have hr15 := hp16
                          refine j_if_eq hC dX11_findFar_106 rfl (w_id hr15) (fun c17 => ?_) (fun c17 => ?_)
                          · have h := zt c17 h
                            exact J_177 v3 hv3 M _ h hT
                          · have h := zf c17 h
                            refine j_aload_n hC 0 dX11_findFar_109 rfl rfl ?_
                            refine j_getq (q := 63) hC dX11_findFar_110 f_X11_64 (zFx_kd hF 48 rfl) rfl 30 rfl (zFx_rf hF 48 30 rfl) ?_
                            refine j_aload_n hC 0 dX11_findFar_113 rfl rfl ?_
                            refine j_iload_n hC 2 dX11_findFar_114 rfl rfl ?_
                            refine j_iload_n hC 3 dX11_findFar_115 rfl rfl ?_
                            refine j_bipush hC dX11_findFar_116 rfl ?_
                            refine j_idiv hC dX11_findFar_118 (w_id kR_10) (by decide) ?_
                            refine j_iload_n hC 3 dX11_findFar_119 rfl rfl ?_
                            refine j_bipush hC dX11_findFar_120 rfl ?_
                            refine j_irem hC dX11_findFar_122 (w_id kR_10) (by decide) ?_
                            obtain ⟨r18, hy, h⟩ := zb1_ex h
                            refine j_callVi (ci := 8) hC hE lk_X11_272 dX11_findFar_123 (c_X11_inserted l hlt g v2 (zdiv v3 10) (zrem v3 10) hv2 (cR_zdiv _ _) (cR_zrem _ _) M S hF hy) [.int (zi v2), .int (zi (zdiv v3 10)), .int (zi (zrem v3 10))] [zr g 63] (zFx_kd hF 48 rfl) ⟨_, rfl, by decide, rfl⟩ rfl rfl rfl (zcat (Nat.le_of_ble_eq_true rfl)) (Nat.le_of_ble_eq_true rfl) (Nat.le_of_ble_eq_true rfl) (Nat.le_of_ble_eq_true rfl) (Nat.le_of_ble_eq_true rfl) (fun hp19 => ?_)
                            have hr18 := hp19
                            obtain ⟨c20, h⟩ := zchk_ex h
                            refine j_iald (n := 29524) hC dX11_findFar_126 (w_id hr18) (zFx_kd hF 63 rfl) (zFx_ln hF 63 rfl) c20.1 c20.2 (fun hg21 => ?_)
                            obtain ⟨x22, ex22, h⟩ := zlet_ex h
                            have hx22 : inR x22 := by rw [ex22]; exact hg21
                            refine j_names ex22 ?_
                            refine j_istore hC dX11_findFar_127 (Nat.le_of_ble_eq_true rfl) rfl ?_
                            refine j_aload_n hC 1 dX11_findFar_129 rfl rfl ?_
                            refine j_getq (q := 63) hC dX11_findFar_130 f_X11_64 (zFx_kd hF 48 rfl) rfl 30 rfl (zFx_rf hF 48 30 rfl) ?_
                            refine j_iload_n hC 2 dX11_findFar_133 rfl rfl ?_
                            refine j_iload hC 0 dX11_findFar_134 rfl ?_
                            refine j_iconst hC dX11_findFar_136 ?_
                            refine j_icmp_eq hC dX11_findFar_137 rfl (w_id hx22) (w_id kR_m1) (fun c23 => ?_) (fun c23 => ?_)
                            · have h := zt c23 h
                              refine j_sub [1, 2, 3, 4] rfl ?_
                              exact J_170 v3 v1 hv3 hv1 M _ h hT
                            · have h := zf c23 h
                              refine j_aload_n hC 1 dX11_findFar_140 rfl rfl ?_
                              refine j_getq (q := 63) hC dX11_findFar_141 f_X11_64 (zFx_kd hF 48 rfl) rfl 30 rfl (zFx_rf hF 48 30 rfl) ?_
                              refine j_iload_n hC 2 dX11_findFar_144 rfl rfl ?_
                              obtain ⟨c24, h⟩ := zchk_ex h
                              refine j_iald (n := 29524) hC dX11_findFar_145 (w_id hv1) (zFx_kd hF 63 rfl) (zFx_ln hF 63 rfl) c24.1 c24.2 (fun hg25 => ?_)
                              refine j_iconst hC dX11_findFar_146 ?_
                              refine j_icmp_eq hC dX11_findFar_147 rfl (w_id hg25) (w_id kR_m1) (fun c26 => ?_) (fun c26 => ?_)
                              · have h := zt c26 h
                                refine j_sub [1, 2, 3, 4, 0] rfl ?_
                                exact J_163 v3 x22 v1 hv3 hx22 hv1 M _ h hT
                              · have h := zf c26 h
                                refine j_iload hC 0 dX11_findFar_150 rfl ?_
                                refine j_iconst hC dX11_findFar_152 ?_
                                refine j_iadd hC dX11_findFar_153 ?_
                                refine j_aload_n hC 1 dX11_findFar_154 rfl rfl ?_
                                refine j_getq (q := 63) hC dX11_findFar_155 f_X11_64 (zFx_kd hF 48 rfl) rfl 30 rfl (zFx_rf hF 48 30 rfl) ?_
                                refine j_iload_n hC 2 dX11_findFar_158 rfl rfl ?_
                                obtain ⟨c27, h⟩ := zchk_ex h
                                refine j_iald (n := 29524) hC dX11_findFar_159 (w_id hv1) (zFx_kd hF 63 rfl) (zFx_ln hF 63 rfl) c27.1 c27.2 (fun hg28 => ?_)
                                refine j_icmp_ge hC dX11_findFar_160 rfl rfl (w_id hg28) (fun c29 => ?_) (fun c29 => ?_)
                                · have h := zf c29 h
                                  refine j_sub [1, 2, 3, 4] rfl ?_
                                  exact J_170 v3 v1 hv3 hv1 M _ h hT
                                · have h := zt c29 h
                                  refine j_sub [1, 2, 3, 4, 0] rfl ?_
                                  exact J_163 v3 x22 v1 hv3 hx22 hv1 M _ h hT
                exact main zN v3 hv3 M hl
              intro v2 hv2 M hl
              obtain ⟨o, h, hT⟩ := zloop_ex hl
              have h : F_X11_findFar_B47 v1 v2 M = some o := by rw [ebd] at h; exact h
              unfold F_X11_findFar_B47 at h
              refine j_iload_n hC 2 dX11_findFar_47 rfl rfl ?_
              refine j_aload_n hC 0 dX11_findFar_48 rfl rfl ?_
              refine j_get hC dX11_findFar_49 f_X11_121 (zFx_kd hF 48 rfl) rfl 7 rfl (fun hg30 => ?_)
              refine j_icmp_ge hC dX11_findFar_52 rfl (w_id hv2) (w_id hg30) (fun c31 => ?_) (fun c31 => ?_)
              · have h := zf c31 h
                obtain rfl := Option.some.inj h
                have hx47 := hd47
                rw [← show _ = ex47 from hT] at hx47
                refine j_sub [0, 1] rfl ?_
                exact J_189 v1 hv1 M _ hx47 hT47
              · have h := zt c31 h
                refine j_aload_n hC 0 dX11_findFar_55 rfl rfl ?_
                refine j_getq (q := 58) hC dX11_findFar_56 f_X11_49 (zFx_kd hF 48 rfl) rfl 22 rfl (zFx_rf hF 48 22 rfl) ?_
                refine j_iload_n hC 1 dX11_findFar_59 rfl rfl ?_
                obtain ⟨c32, h⟩ := zchk_ex h
                refine j_zald (n := 29524) hC dX11_findFar_60 (w_id hv1) (zFx_kd hF 58 rfl) (zFx_ln hF 58 rfl) c32.1 c32.2 (fun hg33 => ?_)
                refine j_if_eq hC dX11_findFar_61 rfl (w_id (inR_b hg33)) (fun c34 => ?_) (fun c34 => ?_)
                · have h := zt c34 h
                  obtain rfl := Option.some.inj h
                  have hx47 := hd47
                  rw [← show _ = ex47 from hT] at hx47
                  refine j_sub [0, 1] rfl ?_
                  exact J_189 v1 hv1 M _ hx47 hT47
                · have h := zf c34 h
                  refine j_aload_n hC 0 dX11_findFar_64 rfl rfl ?_
                  refine j_iload_n hC 1 dX11_findFar_65 rfl rfl ?_
                  refine j_iload_n hC 2 dX11_findFar_66 rfl rfl ?_
                  obtain ⟨M35, hy, h⟩ := zb1_ex h
                  refine j_callVv (ci := 8) hC hE lk_X11_260 dX11_findFar_67 (c_X11_fit l hlt g v1 v2 hv1 hv2 M S hF hy) [.int (zi v1), .int (zi v2)] [] (zFx_kd hF 48 rfl) ⟨_, rfl, by decide, rfl⟩ rfl rfl rfl (zcat (Nat.le_of_ble_eq_true rfl)) (Nat.le_of_ble_eq_true rfl) (Nat.le_of_ble_eq_true rfl) (Nat.le_of_ble_eq_true rfl) (Nat.le_of_ble_eq_true rfl) (fun hp36 => ?_)
                  refine j_iconst hC dX11_findFar_70 ?_
                  refine j_istore_n hC dX11_findFar_71 rfl (Nat.le_of_ble_eq_true rfl) rfl ?_
                  refine j_sub [1, 2, 3, 0] rfl ?_
                  exact L_72 v2 0 hv2 kR_0 M35 _ h hT
          exact main zN v2 hv2 M hl
        intro v1 hv1 M hl
        obtain ⟨o, h, hT⟩ := zloop_ex hl
        have h : F_X11_findFar_B41 v1 M = some o := by rw [ebd] at h; exact h
        unfold F_X11_findFar_B41 at h
        refine j_iload_n hC 1 dX11_findFar_41 rfl rfl ?_
        refine j_if_lt hC dX11_findFar_42 rfl (w_id hv1) (fun c37 => ?_) (fun c37 => ?_)
        · have h := zt c37 h
          obtain rfl := Option.some.inj h
          have hx41 := hd41
          rw [← show _ = ex41 from hT] at hx41
          refine j_sub [] rfl ?_
          exact J_195 M hx41
        · have h := zf c37 h
          refine j_iconst hC dX11_findFar_45 ?_
          refine j_istore_n hC dX11_findFar_46 rfl (Nat.le_of_ble_eq_true rfl) rfl ?_
          refine j_sub [1, 2, 0] rfl ?_
          exact L_47 v1 0 hv1 kR_0 M _ h hT
    exact main zN v1 hv1 M hl
  have J_34 : ∀ (M : zM) (_ : F_X11_findFar_J34 M = some M'), zJ K g 0 0 34 5 [(0, zr g 48)] [] M S := by
    intro M h
    unfold F_X11_findFar_J34 at h
    refine j_aload_n hC 0 dX11_findFar_34 rfl rfl ?_
    refine j_get hC dX11_findFar_35 f_X11_317 (zFx_kd hF 48 rfl) rfl 29 rfl (fun hg38 => ?_)
    refine j_iconst hC dX11_findFar_38 ?_
    refine j_isub hC dX11_findFar_39 ?_
    obtain ⟨x39, ex39, h⟩ := zlet_ex h
    have hx39 : inR x39 := by rw [ex39]; exact inR_w _
    refine j_namei ex39 ?_
    refine j_istore_n hC dX11_findFar_40 rfl (Nat.le_of_ble_eq_true rfl) rfl ?_
    refine j_sub [1, 0] rfl ?_
    exact L_41 x39 hx39 M h
  have L_2 : ∀ (v1 : Int) (hv1 : inR v1) (M : zM) (_ : F_X11_findFar_L2 v1 M = some M'), zJ K g 0 0 2 5 [(0, zr g 48), (1, .int (zi v1))] [] M S := by
    intro v1 hv1 M h
    unfold F_X11_findFar_L2 at h
    obtain ⟨ex2, hl, hd2⟩ := zb1_ex h
    obtain ⟨bd2, ebd⟩ : ∃ f, f = (fun (s : Int × zM) => F_X11_findFar_B2 s.1 s.2) := ⟨_, rfl⟩
    rw [← ebd] at hl
    have main : ∀ (n2 : Nat) (v1 : Int) (hv1 : inR v1) (M : zM) (_ : zloop bd2 n2 (v1, M) = some ex2), zJ K g 0 0 2 5 [(0, zr g 48), (1, .int (zi v1))] [] M S := by
      intro n2
      induction n2 with
      | zero => intro v1 hv1 M hl; exact zloop_0 hl
      | succ n2 ih2 =>
        have J_27 : ∀ (v1 : Int) (t1 : Int) (t2 : Int) (hv1 : inR v1) (ht1 : inR t1) (ht2 : inR t2) (M : zM) (o : _) (_ : F_X11_findFar_J27 v1 t1 t2 M = some o), zAft (bd2) n2 ex2 o → zJ K g 0 0 27 5 [(0, zr g 48), (1, .int (zi v1))] [.int (zi t2), .int (zi t1), zr g 63] M S := by
          intro v1 t1 t2 hv1 ht1 ht2 M o h hT
          unfold F_X11_findFar_J27 at h
          obtain ⟨c40, h⟩ := zchk_ex h
          obtain ⟨M41, eM41, h⟩ := zlet_ex h
          refine j_iast (n := 29524) hC dX11_findFar_27 (w_id ht1) (w_id ht2) ht2 (zFx_kd hF 63 rfl) (zFx_ln hF 63 rfl) c40.1 c40.2 eM41 ?_
          obtain ⟨x42, ex42, h⟩ := zlet_ex h
          have hx42 : inR x42 := by rw [ex42]; exact inR_w _
          refine j_iinc hC 1 dX11_findFar_28 rfl ex42 (Nat.le_of_ble_eq_true rfl) rfl ?_
          refine j_goto hC dX11_findFar_31 rfl ?_
          obtain rfl := Option.some.inj h
          refine j_sub [1, 0] rfl ?_
          exact ih2 x42 hx42 M41 hT
        intro v1 hv1 M hl
        obtain ⟨o, h, hT⟩ := zloop_ex hl
        have h : F_X11_findFar_B2 v1 M = some o := by rw [ebd] at h; exact h
        unfold F_X11_findFar_B2 at h
        refine j_iload_n hC 1 dX11_findFar_2 rfl rfl ?_
        refine j_sipush hC dX11_findFar_3 rfl ?_
        refine j_icmp_ge hC dX11_findFar_6 rfl (w_id hv1) (w_id kR_29524) (fun c43 => ?_) (fun c43 => ?_)
        · have h := zf c43 h
          obtain rfl := Option.some.inj h
          have hx2 := hd2
          rw [← show _ = ex2 from hT] at hx2
          refine j_sub [0] rfl ?_
          exact J_34 M hx2
        · have h := zt c43 h
          refine j_aload_n hC 0 dX11_findFar_9 rfl rfl ?_
          refine j_getq (q := 63) hC dX11_findFar_10 f_X11_64 (zFx_kd hF 48 rfl) rfl 30 rfl (zFx_rf hF 48 30 rfl) ?_
          refine j_iload_n hC 1 dX11_findFar_13 rfl rfl ?_
          refine j_iload_n hC 1 dX11_findFar_14 rfl rfl ?_
          refine j_aload_n hC 0 dX11_findFar_15 rfl rfl ?_
          refine j_get hC dX11_findFar_16 f_X11_317 (zFx_kd hF 48 rfl) rfl 29 rfl (fun hg44 => ?_)
          refine j_icmp_ne hC dX11_findFar_19 rfl (w_id hv1) (w_id hg44) (fun c45 => ?_) (fun c45 => ?_)
          · have h := zf c45 h
            refine j_iconst hC dX11_findFar_26 ?_
            exact J_27 v1 v1 (-1) hv1 hv1 kR_m1 M _ h hT
          · have h := zt c45 h
            refine j_iconst hC dX11_findFar_22 ?_
            refine j_goto hC dX11_findFar_23 rfl ?_
            exact J_27 v1 v1 0 hv1 hv1 kR_0 M _ h hT
    exact main zN v1 hv1 M hl
  refine j_iconst hC dX11_findFar_0 ?_
  refine j_istore_n hC dX11_findFar_1 rfl (Nat.le_of_ble_eq_true rfl) rfl ?_
  refine j_sub [1, 0] rfl ?_
  exact L_2 0 kR_0 M h
set_option maxHeartbeats 4000000 in
set_option maxRecDepth 100000 in
theorem c_X11_isAxiom (l : Launch) (hlt : l.stackTraces = false) (g : zG) (v1 : Int) (hv1 : inR v1) (M : zM) (S : zS) (hF : zFx S) {r : Int} (h : F_X11_isAxiom v1 M = some r) : zMet l g yX11_isAxiom cX11_isAxiom 3 (some .boolean) 1 0 0 [zr g 48, .int (zi v1)] M S (.inl (some (.int (zi r)))) M S (inR r) := by
  refine zMet_of (by decide) hlt [(0, zr g 48), (1, .int (zi v1))] rfl (Nat.le_of_ble_eq_true rfl) (fun K hC hE hN => ?_)
  unfold F_X11_isAxiom at h
  have J_28 : ∀ (_ : F_X11_isAxiom_J28 M = some r), zJ K g 0 0 28 3 [] [] M S := by
    intro h
    unfold F_X11_isAxiom_J28 at h
    refine j_iconst hC dX11_isAxiom_28 ?_
    have e1 := Option.some.inj h
    exact j_iret hC hE dX11_isAxiom_29 (w_id kR_0) (zn_z zb01_0) (by rw [← e1]) rfl rfl (by rw [← e1]; exact kR_0) (Nat.le_of_ble_eq_true rfl) (Nat.le_of_ble_eq_true rfl)
  have J_20 : ∀ (_ : F_X11_isAxiom_J20 M = some r), zJ K g 0 0 20 3 [] [] M S := by
    intro h
    unfold F_X11_isAxiom_J20 at h
    refine j_iconst hC dX11_isAxiom_20 ?_
    have e1 := Option.some.inj h
    exact j_iret hC hE dX11_isAxiom_21 (w_id kR_1) (zn_z zb01_1) (by rw [← e1]) rfl rfl (by rw [← e1]; exact kR_1) (Nat.le_of_ble_eq_true rfl) (Nat.le_of_ble_eq_true rfl)
  have L_2 : ∀ (v1 : Int) (v2 : Int) (hv1 : inR v1) (hv2 : inR v2) (_ : F_X11_isAxiom_L2 v1 v2 M = some r), zJ K g 0 0 2 3 [(0, zr g 48), (1, .int (zi v1)), (2, .int (zi v2))] [] M S := by
    intro v1 v2 hv1 hv2 h
    unfold F_X11_isAxiom_L2 at h
    obtain ⟨ex2, hl, hd2⟩ := zb1_ex h
    obtain ⟨bd2, ebd⟩ : ∃ f, f = (fun (s : Int) => F_X11_isAxiom_B2 v1 s M) := ⟨_, rfl⟩
    rw [← ebd] at hl
    have main : ∀ (n2 : Nat) (v2 : Int) (hv2 : inR v2) (_ : zloop bd2 n2 v2 = some ex2), zJ K g 0 0 2 3 [(0, zr g 48), (1, .int (zi v1)), (2, .int (zi v2))] [] M S := by
      intro n2
      induction n2 with
      | zero => intro v2 hv2 hl; exact zloop_0 hl
      | succ n2 ih2 =>
        intro v2 hv2 hl
        obtain ⟨o, h, hT⟩ := zloop_ex hl
        have h : F_X11_isAxiom_B2 v1 v2 M = some o := by rw [ebd] at h; exact h
        unfold F_X11_isAxiom_B2 at h
        refine j_iload_n hC 2 dX11_isAxiom_2 rfl rfl ?_
        refine j_aload_n hC 0 dX11_isAxiom_3 rfl rfl ?_
        refine j_get hC dX11_isAxiom_4 f_X11_128 (zFx_kd hF 48 rfl) rfl 2 rfl (fun hg1 => ?_)
        refine j_icmp_ge hC dX11_isAxiom_7 rfl (w_id hv2) (w_id hg1) (fun c2 => ?_) (fun c2 => ?_)
        · have h := zf c2 h
          obtain rfl := Option.some.inj h
          have hx2 := hd2
          rw [← show _ = ex2 from hT] at hx2
          dsimp only [Sum.elim] at hx2
          refine j_sub [] rfl ?_
          exact J_28 hx2
        · have h := zt c2 h
          refine j_aload_n hC 0 dX11_isAxiom_10 rfl rfl ?_
          refine j_getq (q := 49) hC dX11_isAxiom_11 f_X11_7 (zFx_kd hF 48 rfl) rfl 1 rfl (zFx_rf hF 48 1 rfl) ?_
          refine j_iload_n hC 2 dX11_isAxiom_14 rfl rfl ?_
          obtain ⟨c3, h⟩ := zchk_ex h
          refine j_iald (n := 6) hC dX11_isAxiom_15 (w_id hv2) (zFx_kd hF 49 rfl) (zFx_ln hF 49 rfl) c3.1 c3.2 (fun hg4 => ?_)
          refine j_iload_n hC 1 dX11_isAxiom_16 rfl rfl ?_
          refine j_icmp_ne hC dX11_isAxiom_17 rfl (w_id hg4) (w_id hv1) (fun c5 => ?_) (fun c5 => ?_)
          · have h := zf c5 h
            obtain ⟨x6, ex6, h⟩ := zlet_ex h
            have hx6 : inR x6 := by rw [ex6]; exact inR_w _
            refine j_iinc hC 2 dX11_isAxiom_22 rfl ex6 (Nat.le_of_ble_eq_true rfl) rfl ?_
            refine j_goto hC dX11_isAxiom_25 rfl ?_
            obtain rfl := Option.some.inj h
            refine j_sub [1, 2, 0] rfl ?_
            exact ih2 x6 hx6 hT
          · have h := zt c5 h
            obtain rfl := Option.some.inj h
            have hx2 := hd2
            rw [← show _ = ex2 from hT] at hx2
            dsimp only [Sum.elim] at hx2
            refine j_sub [] rfl ?_
            exact J_20 hx2
    exact main zN v2 hv2 hl
  refine j_iconst hC dX11_isAxiom_0 ?_
  refine j_istore_n hC dX11_isAxiom_1 rfl (Nat.le_of_ble_eq_true rfl) rfl ?_
  refine j_sub [1, 2, 0] rfl ?_
  exact L_2 v1 0 hv1 kR_0 h
set_option maxHeartbeats 4000000 in
set_option maxRecDepth 100000 in
theorem c_X11_bestAxiom (l : Launch) (hlt : l.stackTraces = false) (g : zG) (M : zM) (S : zS) (hF : zFx S) {r : Int} (h : F_X11_bestAxiom M = some r) : zMet l g yX11_bestAxiom cX11_bestAxiom 3 (some .int) 2 0 0 [zr g 48] M S (.inl (some (.int (zi r)))) M S (inR r) := by
  refine zMet_of (by decide) hlt [(0, zr g 48)] rfl (Nat.le_of_ble_eq_true rfl) (fun K hC hE hN => ?_)
  unfold F_X11_bestAxiom at h
  have J_67 : ∀ (v1 : Int) (hv1 : inR v1) (_ : F_X11_bestAxiom_J67 v1 M = some r), zJ K g 0 0 67 3 [(1, .int (zi v1))] [] M S := by
    intro v1 hv1 h
    unfold F_X11_bestAxiom_J67 at h
    refine j_iload_n hC 0 dX11_bestAxiom_67 rfl rfl ?_
    have e1 := Option.some.inj h
    exact j_iret hC hE dX11_bestAxiom_68 (w_id hv1) (zn_i _) (by rw [← e1]) rfl rfl (by rw [← e1]; exact hv1) (Nat.le_of_ble_eq_true rfl) (Nat.le_of_ble_eq_true rfl)
  have L_4 : ∀ (v1 : Int) (v2 : Int) (hv1 : inR v1) (hv2 : inR v2) (_ : F_X11_bestAxiom_L4 v1 v2 M = some r), zJ K g 0 0 4 3 [(0, zr g 48), (1, .int (zi v1)), (2, .int (zi v2))] [] M S := by
    intro v1 v2 hv1 hv2 h
    unfold F_X11_bestAxiom_L4 at h
    obtain ⟨ex4, hl, hd4⟩ := zb1_ex h
    obtain ⟨bd4, ebd⟩ : ∃ f, f = (fun (s : Int × Int) => F_X11_bestAxiom_B4 s.1 s.2 M) := ⟨_, rfl⟩
    rw [← ebd] at hl
    have main : ∀ (n4 : Nat) (v1 : Int) (v2 : Int) (hv1 : inR v1) (hv2 : inR v2) (_ : zloop bd4 n4 (v1, v2) = some ex4), zJ K g 0 0 4 3 [(0, zr g 48), (1, .int (zi v1)), (2, .int (zi v2))] [] M S := by
      intro n4
      induction n4 with
      | zero => intro v1 v2 hv1 hv2 hl; exact zloop_0 hl
      | succ n4 ih4 =>
        have J_61 : ∀ (v1 : Int) (v2 : Int) (hv1 : inR v1) (hv2 : inR v2) (o : _) (_ : F_X11_bestAxiom_J61 v1 v2 M = some o), zAft (bd4) n4 ex4 o → zJ K g 0 0 61 3 [(0, zr g 48), (1, .int (zi v1)), (2, .int (zi v2))] [] M S := by
          intro v1 v2 hv1 hv2 o h hT
          unfold F_X11_bestAxiom_J61 at h
          obtain ⟨x1, ex1, h⟩ := zlet_ex h
          have hx1 : inR x1 := by rw [ex1]; exact inR_w _
          refine j_iinc hC 2 dX11_bestAxiom_61 rfl ex1 (Nat.le_of_ble_eq_true rfl) rfl ?_
          refine j_goto hC dX11_bestAxiom_64 rfl ?_
          obtain rfl := Option.some.inj h
          refine j_sub [1, 2, 0] rfl ?_
          exact ih4 v1 x1 hv1 hx1 hT
        have J_59 : ∀ (v2 : Int) (hv2 : inR v2) (o : _) (_ : F_X11_bestAxiom_J59 v2 M = some o), zAft (bd4) n4 ex4 o → zJ K g 0 0 59 3 [(0, zr g 48), (2, .int (zi v2))] [] M S := by
          intro v2 hv2 o h hT
          unfold F_X11_bestAxiom_J59 at h
          refine j_iload_n hC 1 dX11_bestAxiom_59 rfl rfl ?_
          refine j_istore_n hC dX11_bestAxiom_60 rfl (Nat.le_of_ble_eq_true rfl) rfl ?_
          refine j_sub [1, 0, 2] rfl ?_
          exact J_61 v2 v2 hv2 hv2 _ h hT
        intro v1 v2 hv1 hv2 hl
        obtain ⟨o, h, hT⟩ := zloop_ex hl
        have h : F_X11_bestAxiom_B4 v1 v2 M = some o := by rw [ebd] at h; exact h
        unfold F_X11_bestAxiom_B4 at h
        refine j_iload_n hC 2 dX11_bestAxiom_4 rfl rfl ?_
        refine j_aload_n hC 0 dX11_bestAxiom_5 rfl rfl ?_
        refine j_get hC dX11_bestAxiom_6 f_X11_317 (zFx_kd hF 48 rfl) rfl 29 rfl (fun hg2 => ?_)
        refine j_icmp_gt hC dX11_bestAxiom_9 rfl (w_id hv2) (w_id hg2) (fun c3 => ?_) (fun c3 => ?_)
        · have h := zt c3 h
          obtain rfl := Option.some.inj h
          have hx4 := hd4
          rw [← show _ = ex4 from hT] at hx4
          refine j_sub [1] rfl ?_
          exact J_67 v1 hv1 hx4
        · have h := zf c3 h
          refine j_aload_n hC 0 dX11_bestAxiom_12 rfl rfl ?_
          refine j_getq (q := 58) hC dX11_bestAxiom_13 f_X11_49 (zFx_kd hF 48 rfl) rfl 22 rfl (zFx_rf hF 48 22 rfl) ?_
          refine j_iload_n hC 2 dX11_bestAxiom_16 rfl rfl ?_
          obtain ⟨c4, h⟩ := zchk_ex h
          refine j_zald (n := 29524) hC dX11_bestAxiom_17 (w_id hv2) (zFx_kd hF 58 rfl) (zFx_ln hF 58 rfl) c4.1 c4.2 (fun hg5 => ?_)
          refine j_if_eq hC dX11_bestAxiom_18 rfl (w_id (inR_b hg5)) (fun c6 => ?_) (fun c6 => ?_)
          · have h := zt c6 h
            exact J_61 v1 v2 hv1 hv2 _ h hT
          · have h := zf c6 h
            refine j_aload_n hC 0 dX11_bestAxiom_21 rfl rfl ?_
            refine j_getq (q := 63) hC dX11_bestAxiom_22 f_X11_64 (zFx_kd hF 48 rfl) rfl 30 rfl (zFx_rf hF 48 30 rfl) ?_
            refine j_iload_n hC 2 dX11_bestAxiom_25 rfl rfl ?_
            obtain ⟨c7, h⟩ := zchk_ex h
            refine j_iald (n := 29524) hC dX11_bestAxiom_26 (w_id hv2) (zFx_kd hF 63 rfl) (zFx_ln hF 63 rfl) c7.1 c7.2 (fun hg8 => ?_)
            refine j_iconst hC dX11_bestAxiom_27 ?_
            refine j_icmp_eq hC dX11_bestAxiom_28 rfl (w_id hg8) (w_id kR_m1) (fun c9 => ?_) (fun c9 => ?_)
            · have h := zt c9 h
              exact J_61 v1 v2 hv1 hv2 _ h hT
            · have h := zf c9 h
              refine j_aload_n hC 0 dX11_bestAxiom_31 rfl rfl ?_
              refine j_iload_n hC 2 dX11_bestAxiom_32 rfl rfl ?_
              obtain ⟨r10, hy, h⟩ := zb1_ex h
              refine j_callVi (ci := 8) hC hE lk_X11_320 dX11_bestAxiom_33 (c_X11_isAxiom l hlt g v2 hv2 M S hF hy) [.int (zi v2)] [] (zFx_kd hF 48 rfl) ⟨_, rfl, by decide, rfl⟩ rfl rfl rfl (zcat (Nat.le_of_ble_eq_true rfl)) (Nat.le_of_ble_eq_true rfl) (Nat.le_of_ble_eq_true rfl) (Nat.le_of_ble_eq_true rfl) (Nat.le_of_ble_eq_true rfl) (fun hp11 => ?_)
              have hr10 := hp11
              refine j_if_eq hC dX11_bestAxiom_36 rfl (w_id hr10) (fun c12 => ?_) (fun c12 => ?_)
              · have h := zt c12 h
                exact J_61 v1 v2 hv1 hv2 _ h hT
              · have h := zf c12 h
                refine j_iload_n hC 1 dX11_bestAxiom_39 rfl rfl ?_
                refine j_iconst hC dX11_bestAxiom_40 ?_
                refine j_icmp_eq hC dX11_bestAxiom_41 rfl (w_id hv1) (w_id kR_m1) (fun c13 => ?_) (fun c13 => ?_)
                · have h := zt c13 h
                  refine j_sub [0, 2] rfl ?_
                  exact J_59 v2 hv2 _ h hT
                · have h := zf c13 h
                  refine j_aload_n hC 0 dX11_bestAxiom_44 rfl rfl ?_
                  refine j_getq (q := 63) hC dX11_bestAxiom_45 f_X11_64 (zFx_kd hF 48 rfl) rfl 30 rfl (zFx_rf hF 48 30 rfl) ?_
                  refine j_iload_n hC 2 dX11_bestAxiom_48 rfl rfl ?_
                  obtain ⟨c14, h⟩ := zchk_ex h
                  refine j_iald (n := 29524) hC dX11_bestAxiom_49 (w_id hv2) (zFx_kd hF 63 rfl) (zFx_ln hF 63 rfl) c14.1 c14.2 (fun hg15 => ?_)
                  refine j_aload_n hC 0 dX11_bestAxiom_50 rfl rfl ?_
                  refine j_getq (q := 63) hC dX11_bestAxiom_51 f_X11_64 (zFx_kd hF 48 rfl) rfl 30 rfl (zFx_rf hF 48 30 rfl) ?_
                  refine j_iload_n hC 1 dX11_bestAxiom_54 rfl rfl ?_
                  obtain ⟨c16, h⟩ := zchk_ex h
                  refine j_iald (n := 29524) hC dX11_bestAxiom_55 (w_id hv1) (zFx_kd hF 63 rfl) (zFx_ln hF 63 rfl) c16.1 c16.2 (fun hg17 => ?_)
                  refine j_icmp_ge hC dX11_bestAxiom_56 rfl (w_id hg15) (w_id hg17) (fun c18 => ?_) (fun c18 => ?_)
                  · have h := zf c18 h
                    exact J_61 v1 v2 hv1 hv2 _ h hT
                  · have h := zt c18 h
                    refine j_sub [0, 2] rfl ?_
                    exact J_59 v2 hv2 _ h hT
    exact main zN v1 v2 hv1 hv2 hl
  refine j_iconst hC dX11_bestAxiom_0 ?_
  refine j_istore_n hC dX11_bestAxiom_1 rfl (Nat.le_of_ble_eq_true rfl) rfl ?_
  refine j_iconst hC dX11_bestAxiom_2 ?_
  refine j_istore_n hC dX11_bestAxiom_3 rfl (Nat.le_of_ble_eq_true rfl) rfl ?_
  refine j_sub [2, 1, 0] rfl ?_
  exact L_4 (-1) 0 kR_m1 kR_0 h
set_option maxHeartbeats 4000000 in
set_option maxRecDepth 100000 in
theorem c_X11_derivationLength (l : Launch) (hlt : l.stackTraces = false) (g : zG) (M : zM) (S : zS) (hF : zFx S) {r : Int} {M' : zM} (h : F_X11_derivationLength M = some (r, M')) : zMet l g yX11_derivationLength cX11_derivationLength 1 (some .int) 11 0 0 [zr g 48] M S (.inl (some (.int (zi r)))) M' S (inR r) := by
  refine zMet_of (by decide) hlt [(0, zr g 48)] rfl (Nat.le_of_ble_eq_true rfl) (fun K hC hE hN => ?_)
  unfold F_X11_derivationLength at h
  refine j_aload_n hC 0 dX11_derivationLength_0 rfl rfl ?_
  refine j_iconst hC dX11_derivationLength_1 ?_
  obtain ⟨M1, eM1, h⟩ := zlet_ex h
  refine j_put hC dX11_derivationLength_2 f_X11_104 pF_X11 (zFx_kd hF 48 rfl) (Or.inl rfl) rfl 0 rfl (w_id kR_0) kR_0 eM1 ?_
  refine j_aload_n hC 0 dX11_derivationLength_5 rfl rfl ?_
  obtain ⟨r2, M3, hy, h⟩ := zb2_ex h
  refine j_callVi (ci := 8) hC hE lk_X11_278 dX11_derivationLength_6 (c_X11_findAll l hlt g M1 S hF hy) [] [] (zFx_kd hF 48 rfl) ⟨_, rfl, by decide, rfl⟩ rfl rfl rfl (zcat (Nat.le_of_ble_eq_true rfl)) (Nat.le_of_ble_eq_true rfl) (Nat.le_of_ble_eq_true rfl) (Nat.le_of_ble_eq_true rfl) (Nat.le_of_ble_eq_true rfl) (fun hp4 => ?_)
  have hr2 := hp4
  refine j_if_ne hC dX11_derivationLength_9 rfl (w_id hr2) (fun c5 => ?_) (fun c5 => ?_)
  · have h := zf c5 h
    refine j_aload_n hC 0 dX11_derivationLength_18 rfl rfl ?_
    refine j_getq (q := 58) hC dX11_derivationLength_19 f_X11_49 (zFx_kd hF 48 rfl) rfl 22 rfl (zFx_rf hF 48 22 rfl) ?_
    refine j_aload_n hC 0 dX11_derivationLength_22 rfl rfl ?_
    refine j_get hC dX11_derivationLength_23 f_X11_317 (zFx_kd hF 48 rfl) rfl 29 rfl (fun hg6 => ?_)
    obtain ⟨c7, h⟩ := zchk_ex h
    refine j_zald (n := 29524) hC dX11_derivationLength_26 (w_id hg6) (zFx_kd hF 58 rfl) (zFx_ln hF 58 rfl) c7.1 c7.2 (fun hg8 => ?_)
    refine j_if_ne hC dX11_derivationLength_27 rfl (w_id (inR_b hg8)) (fun c9 => ?_) (fun c9 => ?_)
    · have h := zf c9 h
      refine j_aload_n hC 0 dX11_derivationLength_36 rfl rfl ?_
      obtain ⟨M10, hy, h⟩ := zb1_ex h
      refine j_callVv (ci := 8) hC hE lk_X11_323 dX11_derivationLength_37 (c_X11_findFar l hlt g M3 S hF hy) [] [] (zFx_kd hF 48 rfl) ⟨_, rfl, by decide, rfl⟩ rfl rfl rfl (zcat (Nat.le_of_ble_eq_true rfl)) (Nat.le_of_ble_eq_true rfl) (Nat.le_of_ble_eq_true rfl) (Nat.le_of_ble_eq_true rfl) (Nat.le_of_ble_eq_true rfl) (fun hp11 => ?_)
      refine j_aload_n hC 0 dX11_derivationLength_40 rfl rfl ?_
      refine j_getq (q := 63) hC dX11_derivationLength_41 f_X11_64 (zFx_kd hF 48 rfl) rfl 30 rfl (zFx_rf hF 48 30 rfl) ?_
      refine j_aload_n hC 0 dX11_derivationLength_44 rfl rfl ?_
      obtain ⟨r12, hy, h⟩ := zb1_ex h
      refine j_callVi (ci := 8) hC hE lk_X11_326 dX11_derivationLength_45 (c_X11_bestAxiom l hlt g M10 S hF hy) [] [zr g 63] (zFx_kd hF 48 rfl) ⟨_, rfl, by decide, rfl⟩ rfl rfl rfl (zcat (Nat.le_of_ble_eq_true rfl)) (Nat.le_of_ble_eq_true rfl) (Nat.le_of_ble_eq_true rfl) (Nat.le_of_ble_eq_true rfl) (Nat.le_of_ble_eq_true rfl) (fun hp13 => ?_)
      have hr12 := hp13
      obtain ⟨c14, h⟩ := zchk_ex h
      refine j_iald (n := 29524) hC dX11_derivationLength_48 (w_id hr12) (zFx_kd hF 63 rfl) (zFx_ln hF 63 rfl) c14.1 c14.2 (fun hg15 => ?_)
      obtain ⟨e1, e2⟩ := zpr2 (Option.some.inj h)
      exact j_iret hC hE dX11_derivationLength_49 (w_id hg15) (zn_i _) (by rw [← e1]) e2 rfl (by rw [← e1]; exact hg15) (Nat.le_of_ble_eq_true rfl) (Nat.le_of_ble_eq_true rfl)
    · have h := zt c9 h
      refine j_aload_n hC 0 dX11_derivationLength_30 rfl rfl ?_
      refine j_iconst hC dX11_derivationLength_31 ?_
      obtain ⟨r16, M17, hy, h⟩ := zb2_ex h
      refine j_callVi (ci := 8) hC hE lk_X11_134 dX11_derivationLength_32 (c_X11_fail l hlt g 2 kR_2 M3 S hF hy) [.int (zi 2)] [] (zFx_kd hF 48 rfl) ⟨_, rfl, by decide, rfl⟩ rfl rfl rfl (zcat (Nat.le_of_ble_eq_true rfl)) (Nat.le_of_ble_eq_true rfl) (Nat.le_of_ble_eq_true rfl) (Nat.le_of_ble_eq_true rfl) (Nat.le_of_ble_eq_true rfl) (fun hp18 => ?_)
      have hr16 := hp18
      obtain ⟨e1, e2⟩ := zpr2 (Option.some.inj h)
      exact j_iret hC hE dX11_derivationLength_35 (w_id hr16) (zn_i _) (by rw [← e1]) e2 rfl (by rw [← e1]; exact hr16) (Nat.le_of_ble_eq_true rfl) (Nat.le_of_ble_eq_true rfl)
  · have h := zt c5 h
    refine j_aload_n hC 0 dX11_derivationLength_12 rfl rfl ?_
    refine j_iconst hC dX11_derivationLength_13 ?_
    obtain ⟨r19, M20, hy, h⟩ := zb2_ex h
    refine j_callVi (ci := 8) hC hE lk_X11_134 dX11_derivationLength_14 (c_X11_fail l hlt g 1 kR_1 M3 S hF hy) [.int (zi 1)] [] (zFx_kd hF 48 rfl) ⟨_, rfl, by decide, rfl⟩ rfl rfl rfl (zcat (Nat.le_of_ble_eq_true rfl)) (Nat.le_of_ble_eq_true rfl) (Nat.le_of_ble_eq_true rfl) (Nat.le_of_ble_eq_true rfl) (Nat.le_of_ble_eq_true rfl) (fun hp21 => ?_)
    have hr19 := hp21
    obtain ⟨e1, e2⟩ := zpr2 (Option.some.inj h)
    exact j_iret hC hE dX11_derivationLength_17 (w_id hr19) (zn_i _) (by rw [← e1]) e2 rfl (by rw [← e1]; exact hr19) (Nat.le_of_ble_eq_true rfl) (Nat.le_of_ble_eq_true rfl)
set_option maxHeartbeats 4000000 in
set_option maxRecDepth 100000 in
theorem c_X11_nearer (l : Launch) (hlt : l.stackTraces = false) (g : zG) (v1 : Int) (hv1 : inR v1) (M : zM) (S : zS) (hF : zFx S) {r : Int} {M' : zM} (h : F_X11_nearer v1 M = some (r, M')) : zMet l g yX11_nearer cX11_nearer 5 (some .int) 8 0 0 [zr g 48, .int (zi v1)] M S (.inl (some (.int (zi r)))) M' S (inR r) := by
  refine zMet_of (by decide) hlt [(0, zr g 48), (1, .int (zi v1))] rfl (Nat.le_of_ble_eq_true rfl) (fun K hC hE hN => ?_)
  unfold F_X11_nearer at h
  have J_105 : ∀ (M : zM) (_ : F_X11_nearer_J105 M = some (r, M')), zJ K g 0 0 105 5 [] [] M S := by
    intro M h
    unfold F_X11_nearer_J105 at h
    refine j_iconst hC dX11_nearer_105 ?_
    obtain ⟨e1, e2⟩ := zpr2 (Option.some.inj h)
    exact j_iret hC hE dX11_nearer_106 (w_id kR_m1) (zn_i _) (by rw [← e1]) e2 rfl (by rw [← e1]; exact kR_m1) (Nat.le_of_ble_eq_true rfl) (Nat.le_of_ble_eq_true rfl)
  have J_97 : ∀ (v2 : Int) (hv2 : inR v2) (M : zM) (_ : F_X11_nearer_J97 v2 M = some (r, M')), zJ K g 0 0 97 5 [(2, .int (zi v2))] [] M S := by
    intro v2 hv2 M h
    unfold F_X11_nearer_J97 at h
    refine j_iload_n hC 0 dX11_nearer_97 rfl rfl ?_
    obtain ⟨e1, e2⟩ := zpr2 (Option.some.inj h)
    exact j_iret hC hE dX11_nearer_98 (w_id hv2) (zn_i _) (by rw [← e1]) e2 rfl (by rw [← e1]; exact hv2) (Nat.le_of_ble_eq_true rfl) (Nat.le_of_ble_eq_true rfl)
  have L_2 : ∀ (v1 : Int) (v2 : Int) (hv1 : inR v1) (hv2 : inR v2) (M : zM) (_ : F_X11_nearer_L2 v1 v2 M = some (r, M')), zJ K g 0 0 2 5 [(0, zr g 48), (1, .int (zi v1)), (2, .int (zi v2))] [] M S := by
    intro v1 v2 hv1 hv2 M h
    unfold F_X11_nearer_L2 at h
    obtain ⟨ex2, hl, hd2⟩ := zb1_ex h
    obtain ⟨bd2, ebd⟩ : ∃ f, f = (fun (s : Int × zM) => F_X11_nearer_B2 v1 s.1 s.2) := ⟨_, rfl⟩
    rw [← ebd] at hl
    have main : ∀ (n2 : Nat) (v2 : Int) (hv2 : inR v2) (M : zM) (_ : zloop bd2 n2 (v2, M) = some ex2), zJ K g 0 0 2 5 [(0, zr g 48), (1, .int (zi v1)), (2, .int (zi v2))] [] M S := by
      intro n2
      induction n2 with
      | zero => intro v2 hv2 M hl; exact zloop_0 hl
      | succ n2 ih2 =>
        have J_99 : ∀ (v2 : Int) (hv2 : inR v2) (M : zM) (o : _) (_ : F_X11_nearer_J99 v1 v2 M = some o), zAft (bd2) n2 ex2 o → zJ K g 0 0 99 5 [(0, zr g 48), (1, .int (zi v1)), (2, .int (zi v2))] [] M S := by
          intro v2 hv2 M o h hT
          unfold F_X11_nearer_J99 at h
          obtain ⟨x1, ex1, h⟩ := zlet_ex h
          have hx1 : inR x1 := by rw [ex1]; exact inR_w _
          refine j_iinc hC 2 dX11_nearer_99 rfl ex1 (Nat.le_of_ble_eq_true rfl) rfl ?_
          refine j_goto hC dX11_nearer_102 rfl ?_
          obtain rfl := Option.some.inj h
          refine j_sub [1, 2, 0] rfl ?_
          exact ih2 x1 hx1 M hT
        intro v2 hv2 M hl
        obtain ⟨o, h, hT⟩ := zloop_ex hl
        have h : F_X11_nearer_B2 v1 v2 M = some o := by rw [ebd] at h; exact h
        unfold F_X11_nearer_B2 at h
        refine j_iload_n hC 2 dX11_nearer_2 rfl rfl ?_
        refine j_bipush hC dX11_nearer_3 rfl ?_
        refine j_aload_n hC 0 dX11_nearer_5 rfl rfl ?_
        refine j_get hC dX11_nearer_6 f_X11_121 (zFx_kd hF 48 rfl) rfl 7 rfl (fun hg2 => ?_)
        refine j_imul hC dX11_nearer_9 ?_
        refine j_icmp_ge hC dX11_nearer_10 rfl (w_id hv2) rfl (fun c3 => ?_) (fun c3 => ?_)
        · have h := zf c3 h
          obtain rfl := Option.some.inj h
          have hx2 := hd2
          rw [← show _ = ex2 from hT] at hx2
          dsimp only [Sum.elim] at hx2
          refine j_sub [] rfl ?_
          exact J_105 M hx2
        · have h := zt c3 h
          refine j_iload_n hC 2 dX11_nearer_13 rfl rfl ?_
          refine j_bipush hC dX11_nearer_14 rfl ?_
          refine j_idiv hC dX11_nearer_16 (w_id kR_100) (by decide) ?_
          obtain ⟨x4, ex4, h⟩ := zlet_ex h
          have hx4 : inR x4 := by rw [ex4]; exact (cR_zdiv _ _)
          refine j_names ex4 ?_
          refine j_istore_n hC dX11_nearer_17 rfl (Nat.le_of_ble_eq_true rfl) rfl ?_
          refine j_aload_n hC 1 dX11_nearer_18 rfl rfl ?_
          refine j_iload_n hC 2 dX11_nearer_19 rfl rfl ?_
          refine j_iload_n hC 0 dX11_nearer_20 rfl rfl ?_
          obtain ⟨M5, hy, h⟩ := zb1_ex h
          refine j_callVv (ci := 8) hC hE lk_X11_260 dX11_nearer_21 (c_X11_fit l hlt g v1 x4 hv1 hx4 M S hF hy) [.int (zi v1), .int (zi x4)] [] (zFx_kd hF 48 rfl) ⟨_, rfl, by decide, rfl⟩ rfl rfl rfl (zcat (Nat.le_of_ble_eq_true rfl)) (Nat.le_of_ble_eq_true rfl) (Nat.le_of_ble_eq_true rfl) (Nat.le_of_ble_eq_true rfl) (Nat.le_of_ble_eq_true rfl) (fun hp6 => ?_)
          refine j_aload_n hC 1 dX11_nearer_24 rfl rfl ?_
          refine j_iload_n hC 0 dX11_nearer_25 rfl rfl ?_
          obtain ⟨r7, hy, h⟩ := zb1_ex h
          refine j_callVi (ci := 8) hC hE lk_X11_263 dX11_nearer_26 (c_X11_hasRoom l hlt g x4 hx4 M5 S hF hy) [.int (zi x4)] [] (zFx_kd hF 48 rfl) ⟨_, rfl, by decide, rfl⟩ rfl rfl rfl (zcat (Nat.le_of_ble_eq_true rfl)) (Nat.le_of_ble_eq_true rfl) (Nat.le_of_ble_eq_true rfl) (Nat.le_of_ble_eq_true rfl) (Nat.le_of_ble_eq_true rfl) (fun hp8 => ?_)
          have hr7 := hp8
          refine j_if_eq hC dX11_nearer_29 rfl (w_id hr7) (fun c9 => ?_) (fun c9 => ?_)
          · have h := zt c9 h
            refine j_sub [1, 2, 3] rfl ?_
            exact J_99 v2 hv2 M5 _ h hT
          · have h := zf c9 h
            refine j_aload_n hC 1 dX11_nearer_32 rfl rfl ?_
            refine j_iload_n hC 3 dX11_nearer_33 rfl rfl ?_
            refine j_bipush hC dX11_nearer_34 rfl ?_
            refine j_irem hC dX11_nearer_36 (w_id kR_100) (by decide) ?_
            obtain ⟨r10, hy, h⟩ := zb1_ex h
            refine j_callVi (ci := 8) hC hE lk_X11_266 dX11_nearer_37 (c_X11_isFactor l hlt g (zrem v2 100) (cR_zrem _ _) M5 S hF hy) [.int (zi (zrem v2 100))] [] (zFx_kd hF 48 rfl) ⟨_, rfl, by decide, rfl⟩ rfl rfl rfl (zcat (Nat.le_of_ble_eq_true rfl)) (Nat.le_of_ble_eq_true rfl) (Nat.le_of_ble_eq_true rfl) (Nat.le_of_ble_eq_true rfl) (Nat.le_of_ble_eq_true rfl) (fun hp11 => ?_)
            have hr10 := hp11
            refine j_if_eq hC dX11_nearer_40 rfl (w_id hr10) (fun c12 => ?_) (fun c12 => ?_)
            · have h := zt c12 h
              refine j_sub [1, 2, 3] rfl ?_
              exact J_99 v2 hv2 M5 _ h hT
            · have h := zf c12 h
              refine j_aload_n hC 1 dX11_nearer_43 rfl rfl ?_
              refine j_iload_n hC 3 dX11_nearer_44 rfl rfl ?_
              refine j_bipush hC dX11_nearer_45 rfl ?_
              refine j_idiv hC dX11_nearer_47 (w_id kR_10) (by decide) ?_
              refine j_bipush hC dX11_nearer_48 rfl ?_
              refine j_irem hC dX11_nearer_50 (w_id kR_10) (by decide) ?_
              refine j_iload_n hC 3 dX11_nearer_51 rfl rfl ?_
              refine j_bipush hC dX11_nearer_52 rfl ?_
              refine j_irem hC dX11_nearer_54 (w_id kR_10) (by decide) ?_
              obtain ⟨r13, hy, h⟩ := zb1_ex h
              refine j_callVi (ci := 8) hC hE lk_X11_269 dX11_nearer_55 (c_X11_isSelected l hlt g (zrem (zdiv v2 10) 10) (zrem v2 10) (cR_zrem _ _) (cR_zrem _ _) M5 S hF hy) [.int (zi (zrem (zdiv v2 10) 10)), .int (zi (zrem v2 10))] [] (zFx_kd hF 48 rfl) ⟨_, rfl, by decide, rfl⟩ rfl rfl rfl (zcat (Nat.le_of_ble_eq_true rfl)) (Nat.le_of_ble_eq_true rfl) (Nat.le_of_ble_eq_true rfl) (Nat.le_of_ble_eq_true rfl) (Nat.le_of_ble_eq_true rfl) (fun hp14 => ?_)
              have hr13 := hp14
              refine j_if_eq hC dX11_nearer_58 rfl (w_id hr13) (fun c15 => ?_) (fun c15 => ?_)
              · have h := zt c15 h
                refine j_sub [1, 2, 3] rfl ?_
                exact J_99 v2 hv2 M5 _ h hT
              · have h := zf c15 h
                refine j_aload_n hC 1 dX11_nearer_61 rfl rfl ?_
                refine j_iload_n hC 0 dX11_nearer_62 rfl rfl ?_
                refine j_iload_n hC 3 dX11_nearer_63 rfl rfl ?_
                refine j_bipush hC dX11_nearer_64 rfl ?_
                refine j_idiv hC dX11_nearer_66 (w_id kR_10) (by decide) ?_
                refine j_bipush hC dX11_nearer_67 rfl ?_
                refine j_irem hC dX11_nearer_69 (w_id kR_10) (by decide) ?_
                refine j_iload_n hC 3 dX11_nearer_70 rfl rfl ?_
                refine j_bipush hC dX11_nearer_71 rfl ?_
                refine j_irem hC dX11_nearer_73 (w_id kR_10) (by decide) ?_
                obtain ⟨r16, hy, h⟩ := zb1_ex h
                refine j_callVi (ci := 8) hC hE lk_X11_272 dX11_nearer_74 (c_X11_inserted l hlt g x4 (zrem (zdiv v2 10) 10) (zrem v2 10) hx4 (cR_zrem _ _) (cR_zrem _ _) M5 S hF hy) [.int (zi x4), .int (zi (zrem (zdiv v2 10) 10)), .int (zi (zrem v2 10))] [] (zFx_kd hF 48 rfl) ⟨_, rfl, by decide, rfl⟩ rfl rfl rfl (zcat (Nat.le_of_ble_eq_true rfl)) (Nat.le_of_ble_eq_true rfl) (Nat.le_of_ble_eq_true rfl) (Nat.le_of_ble_eq_true rfl) (Nat.le_of_ble_eq_true rfl) (fun hp17 => ?_)
                have hr16 := hp17
                refine j_istore hC dX11_nearer_77 (Nat.le_of_ble_eq_true rfl) rfl ?_
                refine j_aload_n hC 2 dX11_nearer_79 rfl rfl ?_
                refine j_getq (q := 63) hC dX11_nearer_80 f_X11_64 (zFx_kd hF 48 rfl) rfl 30 rfl (zFx_rf hF 48 30 rfl) ?_
                refine j_iload hC 0 dX11_nearer_83 rfl ?_
                obtain ⟨c18, h⟩ := zchk_ex h
                refine j_iald (n := 29524) hC dX11_nearer_85 (w_id hr16) (zFx_kd hF 63 rfl) (zFx_ln hF 63 rfl) c18.1 c18.2 (fun hg19 => ?_)
                refine j_aload_n hC 2 dX11_nearer_86 rfl rfl ?_
                refine j_getq (q := 63) hC dX11_nearer_87 f_X11_64 (zFx_kd hF 48 rfl) rfl 30 rfl (zFx_rf hF 48 30 rfl) ?_
                refine j_iload_n hC 3 dX11_nearer_90 rfl rfl ?_
                obtain ⟨c20, h⟩ := zchk_ex h
                refine j_iald (n := 29524) hC dX11_nearer_91 (w_id hv1) (zFx_kd hF 63 rfl) (zFx_ln hF 63 rfl) c20.1 c20.2 (fun hg21 => ?_)
                refine j_iconst hC dX11_nearer_92 ?_
                refine j_isub hC dX11_nearer_93 ?_
                refine j_icmp_ne hC dX11_nearer_94 rfl (w_id hg19) rfl (fun c22 => ?_) (fun c22 => ?_)
                · have h := zf c22 h
                  refine j_sub [2, 3, 4] rfl ?_
                  exact J_99 v2 hv2 M5 _ h hT
                · have h := zt c22 h
                  obtain rfl := Option.some.inj h
                  have hx2 := hd2
                  rw [← show _ = ex2 from hT] at hx2
                  dsimp only [Sum.elim] at hx2
                  refine j_sub [4] rfl ?_
                  exact J_97 v2 hv2 M5 hx2
    exact main zN v2 hv2 M hl
  refine j_iconst hC dX11_nearer_0 ?_
  refine j_istore_n hC dX11_nearer_1 rfl (Nat.le_of_ble_eq_true rfl) rfl ?_
  refine j_sub [1, 2, 0] rfl ?_
  exact L_2 v1 0 hv1 kR_0 M h
set_option maxHeartbeats 4000000 in
set_option maxRecDepth 100000 in
theorem c_X11_derivationStep (l : Launch) (hlt : l.stackTraces = false) (g : zG) (v1 : Int) (v2 : Int) (hv1 : inR v1) (hv2 : inR v2) (M : zM) (S : zS) (hF : zFx S) {r : Int} {M' : zM} (h : F_X11_derivationStep v1 v2 M = some (r, M')) : zMet l g yX11_derivationStep cX11_derivationStep 6 (some .int) 11 0 0 [zr g 48, .int (zi v1), .int (zi v2)] M S (.inl (some (.int (zi r)))) M' S (inR r) := by
  refine zMet_of (by decide) hlt [(0, zr g 48), (1, .int (zi v1)), (2, .int (zi v2))] rfl (Nat.le_of_ble_eq_true rfl) (fun K hC hE hN => ?_)
  unfold F_X11_derivationStep at h
  have J_140 : ∀ (v2 : Int) (v4 : Int) (hv2 : inR v2) (hv4 : inR v4) (M : zM) (_ : F_X11_derivationStep_J140 v2 v4 M = some (r, M')), zJ K g 0 0 140 6 [(2, .int (zi v2)), (4, .int (zi v4))] [] M S := by
    intro v2 v4 hv2 hv4 M h
    unfold F_X11_derivationStep_J140 at h
    refine j_iload_n hC 0 dX11_derivationStep_140 rfl rfl ?_
    refine j_if_ne hC dX11_derivationStep_141 rfl (w_id hv2) (fun c1 => ?_) (fun c1 => ?_)
    · have h := zf c1 h
      refine j_iload_n hC 0 dX11_derivationStep_152 rfl rfl ?_
      refine j_iconst hC dX11_derivationStep_153 ?_
      refine j_icmp_ne hC dX11_derivationStep_154 rfl (w_id hv2) (w_id kR_1) (fun c2 => ?_) (fun c2 => ?_)
      · have h := zf c2 h
        refine j_iload hC 1 dX11_derivationStep_168 rfl ?_
        refine j_bipush hC dX11_derivationStep_170 rfl ?_
        refine j_irem hC dX11_derivationStep_172 (w_id kR_10) (by decide) ?_
        obtain ⟨e1, e2⟩ := zpr2 (Option.some.inj h)
        exact j_iret hC hE dX11_derivationStep_173 (w_id (cR_zrem _ _)) (zn_i _) (by rw [← e1]) e2 rfl (by rw [← e1]; exact (cR_zrem _ _)) (Nat.le_of_ble_eq_true rfl) (Nat.le_of_ble_eq_true rfl)
      · have h := zt c2 h
        refine j_iload hC 1 dX11_derivationStep_157 rfl ?_
        refine j_bipush hC dX11_derivationStep_159 rfl ?_
        refine j_idiv hC dX11_derivationStep_161 (w_id kR_10) (by decide) ?_
        refine j_bipush hC dX11_derivationStep_162 rfl ?_
        refine j_irem hC dX11_derivationStep_164 (w_id kR_10) (by decide) ?_
        refine j_goto hC dX11_derivationStep_165 rfl ?_
        obtain ⟨e1, e2⟩ := zpr2 (Option.some.inj h)
        exact j_iret hC hE dX11_derivationStep_173 (w_id (cR_zrem _ _)) (zn_i _) (by rw [← e1]) e2 rfl (by rw [← e1]; exact (cR_zrem _ _)) (Nat.le_of_ble_eq_true rfl) (Nat.le_of_ble_eq_true rfl)
    · have h := zt c1 h
      refine j_iload hC 1 dX11_derivationStep_144 rfl ?_
      refine j_bipush hC dX11_derivationStep_146 rfl ?_
      refine j_idiv hC dX11_derivationStep_148 (w_id kR_100) (by decide) ?_
      refine j_goto hC dX11_derivationStep_149 rfl ?_
      obtain ⟨e1, e2⟩ := zpr2 (Option.some.inj h)
      exact j_iret hC hE dX11_derivationStep_173 (w_id (cR_zdiv _ _)) (zn_i _) (by rw [← e1]) e2 rfl (by rw [← e1]; exact (cR_zdiv _ _)) (Nat.le_of_ble_eq_true rfl) (Nat.le_of_ble_eq_true rfl)
  have L_88 : ∀ (v1 : Int) (v2 : Int) (v3 : Int) (v4 : Int) (v5 : Int) (hv1 : inR v1) (hv2 : inR v2) (hv3 : inR v3) (hv4 : inR v4) (hv5 : inR v5) (M : zM) (_ : F_X11_derivationStep_L88 v1 v2 v3 v4 v5 M = some (r, M')), zJ K g 0 0 88 6 [(0, zr g 48), (1, .int (zi v1)), (2, .int (zi v2)), (3, .int (zi v3)), (4, .int (zi v4)), (5, .int (zi v5))] [] M S := by
    intro v1 v2 v3 v4 v5 hv1 hv2 hv3 hv4 hv5 M h
    unfold F_X11_derivationStep_L88 at h
    obtain ⟨ex88, hl, hd88⟩ := zb1_ex h
    obtain ⟨bd88, ebd⟩ : ∃ f, f = (fun (s : Int × Int × Int × zM) => F_X11_derivationStep_B88 v1 v2 s.1 s.2.1 s.2.2.1 s.2.2.2) := ⟨_, rfl⟩
    rw [← ebd] at hl
    have main : ∀ (n88 : Nat) (v3 : Int) (v4 : Int) (v5 : Int) (hv3 : inR v3) (hv4 : inR v4) (hv5 : inR v5) (M : zM) (_ : zloop bd88 n88 (v3, v4, v5, M) = some ex88), zJ K g 0 0 88 6 [(0, zr g 48), (1, .int (zi v1)), (2, .int (zi v2)), (3, .int (zi v3)), (4, .int (zi v4)), (5, .int (zi v5))] [] M S := by
      intro n88
      induction n88 with
      | zero => intro v3 v4 v5 hv3 hv4 hv5 M hl; exact zloop_0 hl
      | succ n88 ih88 =>
        intro v3 v4 v5 hv3 hv4 hv5 M hl
        obtain ⟨o, h, hT⟩ := zloop_ex hl
        have h : F_X11_derivationStep_B88 v1 v2 v3 v4 v5 M = some o := by rw [ebd] at h; exact h
        unfold F_X11_derivationStep_B88 at h
        refine j_iload hC 5 dX11_derivationStep_88 rfl ?_
        refine j_iload_n hC 1 dX11_derivationStep_90 rfl rfl ?_
        refine j_icmp_gt hC dX11_derivationStep_91 rfl (w_id hv5) (w_id hv1) (fun c3 => ?_) (fun c3 => ?_)
        · have h := zt c3 h
          obtain rfl := Option.some.inj h
          have hx88 := hd88
          rw [← show _ = ex88 from hT] at hx88
          refine j_sub [2, 4] rfl ?_
          exact J_140 v2 v4 hv2 hv4 M hx88
        · have h := zf c3 h
          refine j_aload_n hC 0 dX11_derivationStep_94 rfl rfl ?_
          refine j_iload_n hC 3 dX11_derivationStep_95 rfl rfl ?_
          obtain ⟨r4, M5, hy, h⟩ := zb2_ex h
          refine j_callVi (ci := 8) hC hE lk_X11_329 dX11_derivationStep_96 (c_X11_nearer l hlt g v3 hv3 M S hF hy) [.int (zi v3)] [] (zFx_kd hF 48 rfl) ⟨_, rfl, by decide, rfl⟩ rfl rfl rfl (zcat (Nat.le_of_ble_eq_true rfl)) (Nat.le_of_ble_eq_true rfl) (Nat.le_of_ble_eq_true rfl) (Nat.le_of_ble_eq_true rfl) (Nat.le_of_ble_eq_true rfl) (fun hp6 => ?_)
          have hr4 := hp6
          refine j_istore hC dX11_derivationStep_99 (Nat.le_of_ble_eq_true rfl) rfl ?_
          refine j_aload_n hC 1 dX11_derivationStep_101 rfl rfl ?_
          refine j_iload_n hC 4 dX11_derivationStep_102 rfl rfl ?_
          refine j_iload hC 0 dX11_derivationStep_103 rfl ?_
          refine j_bipush hC dX11_derivationStep_105 rfl ?_
          refine j_idiv hC dX11_derivationStep_107 (w_id kR_100) (by decide) ?_
          obtain ⟨M7, hy, h⟩ := zb1_ex h
          refine j_callVv (ci := 8) hC hE lk_X11_260 dX11_derivationStep_108 (c_X11_fit l hlt g v3 (zdiv r4 100) hv3 (cR_zdiv _ _) M5 S hF hy) [.int (zi v3), .int (zi (zdiv r4 100))] [] (zFx_kd hF 48 rfl) ⟨_, rfl, by decide, rfl⟩ rfl rfl rfl (zcat (Nat.le_of_ble_eq_true rfl)) (Nat.le_of_ble_eq_true rfl) (Nat.le_of_ble_eq_true rfl) (Nat.le_of_ble_eq_true rfl) (Nat.le_of_ble_eq_true rfl) (fun hp8 => ?_)
          refine j_aload_n hC 1 dX11_derivationStep_111 rfl rfl ?_
          refine j_iload hC 0 dX11_derivationStep_112 rfl ?_
          refine j_bipush hC dX11_derivationStep_114 rfl ?_
          refine j_idiv hC dX11_derivationStep_116 (w_id kR_100) (by decide) ?_
          refine j_iload hC 0 dX11_derivationStep_117 rfl ?_
          refine j_bipush hC dX11_derivationStep_119 rfl ?_
          refine j_idiv hC dX11_derivationStep_121 (w_id kR_10) (by decide) ?_
          refine j_bipush hC dX11_derivationStep_122 rfl ?_
          refine j_irem hC dX11_derivationStep_124 (w_id kR_10) (by decide) ?_
          refine j_iload hC 0 dX11_derivationStep_125 rfl ?_
          refine j_bipush hC dX11_derivationStep_127 rfl ?_
          refine j_irem hC dX11_derivationStep_129 (w_id kR_10) (by decide) ?_
          obtain ⟨r9, hy, h⟩ := zb1_ex h
          refine j_callVi (ci := 8) hC hE lk_X11_272 dX11_derivationStep_130 (c_X11_inserted l hlt g (zdiv r4 100) (zrem (zdiv r4 10) 10) (zrem r4 10) (cR_zdiv _ _) (cR_zrem _ _) (cR_zrem _ _) M7 S hF hy) [.int (zi (zdiv r4 100)), .int (zi (zrem (zdiv r4 10) 10)), .int (zi (zrem r4 10))] [] (zFx_kd hF 48 rfl) ⟨_, rfl, by decide, rfl⟩ rfl rfl rfl (zcat (Nat.le_of_ble_eq_true rfl)) (Nat.le_of_ble_eq_true rfl) (Nat.le_of_ble_eq_true rfl) (Nat.le_of_ble_eq_true rfl) (Nat.le_of_ble_eq_true rfl) (fun hp10 => ?_)
          have hr9 := hp10
          refine j_istore_n hC dX11_derivationStep_133 rfl (Nat.le_of_ble_eq_true rfl) rfl ?_
          obtain ⟨x11, ex11, h⟩ := zlet_ex h
          have hx11 : inR x11 := by rw [ex11]; exact inR_w _
          refine j_iinc hC 5 dX11_derivationStep_134 rfl ex11 (Nat.le_of_ble_eq_true rfl) rfl ?_
          refine j_goto hC dX11_derivationStep_137 rfl ?_
          obtain rfl := Option.some.inj h
          refine j_sub [3, 4, 5, 1, 2, 0] rfl ?_
          exact ih88 r9 r4 x11 hr9 hr4 hx11 M7 hT
    exact main zN v3 v4 v5 hv3 hv4 hv5 M hl
  refine j_aload_n hC 0 dX11_derivationStep_0 rfl rfl ?_
  refine j_iconst hC dX11_derivationStep_1 ?_
  obtain ⟨M12, eM12, h⟩ := zlet_ex h
  refine j_put hC dX11_derivationStep_2 f_X11_104 pF_X11 (zFx_kd hF 48 rfl) (Or.inl rfl) rfl 0 rfl (w_id kR_0) kR_0 eM12 ?_
  refine j_iload_n hC 2 dX11_derivationStep_5 rfl rfl ?_
  refine j_iconst hC dX11_derivationStep_6 ?_
  refine j_iconst hC dX11_derivationStep_7 ?_
  obtain ⟨r13, hy, h⟩ := zb1_ex h
  refine j_callSi hC hE lk_X11_124 dX11_derivationStep_8 (c_X11_isIn l hlt g v2 0 2 hv2 kR_0 kR_2 M12 S hy) [.int (zi v2), .int (zi 0), .int (zi 2)] [] rfl rfl rfl (zcat (Nat.le_of_ble_eq_true rfl)) (Nat.le_of_ble_eq_true rfl) (Nat.le_of_ble_eq_true rfl) (Nat.le_of_ble_eq_true rfl) (Nat.le_of_ble_eq_true rfl) (fun hp14 => ?_)
  have hr13 := hp14
  refine j_if_ne hC dX11_derivationStep_11 rfl (w_id hr13) (fun c15 => ?_) (fun c15 => ?_)
  · have h := zf c15 h
    refine j_aload_n hC 0 dX11_derivationStep_20 rfl rfl ?_
    obtain ⟨r16, M17, hy, h⟩ := zb2_ex h
    refine j_callVi (ci := 8) hC hE lk_X11_278 dX11_derivationStep_21 (c_X11_findAll l hlt g M12 S hF hy) [] [] (zFx_kd hF 48 rfl) ⟨_, rfl, by decide, rfl⟩ rfl rfl rfl (zcat (Nat.le_of_ble_eq_true rfl)) (Nat.le_of_ble_eq_true rfl) (Nat.le_of_ble_eq_true rfl) (Nat.le_of_ble_eq_true rfl) (Nat.le_of_ble_eq_true rfl) (fun hp18 => ?_)
    have hr16 := hp18
    refine j_if_ne hC dX11_derivationStep_24 rfl (w_id hr16) (fun c19 => ?_) (fun c19 => ?_)
    · have h := zf c19 h
      refine j_aload_n hC 0 dX11_derivationStep_33 rfl rfl ?_
      refine j_getq (q := 58) hC dX11_derivationStep_34 f_X11_49 (zFx_kd hF 48 rfl) rfl 22 rfl (zFx_rf hF 48 22 rfl) ?_
      refine j_aload_n hC 0 dX11_derivationStep_37 rfl rfl ?_
      refine j_get hC dX11_derivationStep_38 f_X11_317 (zFx_kd hF 48 rfl) rfl 29 rfl (fun hg20 => ?_)
      obtain ⟨c21, h⟩ := zchk_ex h
      refine j_zald (n := 29524) hC dX11_derivationStep_41 (w_id hg20) (zFx_kd hF 58 rfl) (zFx_ln hF 58 rfl) c21.1 c21.2 (fun hg22 => ?_)
      refine j_if_ne hC dX11_derivationStep_42 rfl (w_id (inR_b hg22)) (fun c23 => ?_) (fun c23 => ?_)
      · have h := zf c23 h
        refine j_aload_n hC 0 dX11_derivationStep_51 rfl rfl ?_
        obtain ⟨M24, hy, h⟩ := zb1_ex h
        refine j_callVv (ci := 8) hC hE lk_X11_323 dX11_derivationStep_52 (c_X11_findFar l hlt g M17 S hF hy) [] [] (zFx_kd hF 48 rfl) ⟨_, rfl, by decide, rfl⟩ rfl rfl rfl (zcat (Nat.le_of_ble_eq_true rfl)) (Nat.le_of_ble_eq_true rfl) (Nat.le_of_ble_eq_true rfl) (Nat.le_of_ble_eq_true rfl) (Nat.le_of_ble_eq_true rfl) (fun hp25 => ?_)
        refine j_aload_n hC 0 dX11_derivationStep_55 rfl rfl ?_
        obtain ⟨r26, hy, h⟩ := zb1_ex h
        refine j_callVi (ci := 8) hC hE lk_X11_326 dX11_derivationStep_56 (c_X11_bestAxiom l hlt g M24 S hF hy) [] [] (zFx_kd hF 48 rfl) ⟨_, rfl, by decide, rfl⟩ rfl rfl rfl (zcat (Nat.le_of_ble_eq_true rfl)) (Nat.le_of_ble_eq_true rfl) (Nat.le_of_ble_eq_true rfl) (Nat.le_of_ble_eq_true rfl) (Nat.le_of_ble_eq_true rfl) (fun hp27 => ?_)
        have hr26 := hp27
        refine j_istore_n hC dX11_derivationStep_59 rfl (Nat.le_of_ble_eq_true rfl) rfl ?_
        refine j_iload_n hC 2 dX11_derivationStep_60 rfl rfl ?_
        refine j_iconst hC dX11_derivationStep_61 ?_
        refine j_aload_n hC 1 dX11_derivationStep_62 rfl rfl ?_
        refine j_getq (q := 63) hC dX11_derivationStep_63 f_X11_64 (zFx_kd hF 48 rfl) rfl 30 rfl (zFx_rf hF 48 30 rfl) ?_
        refine j_iload_n hC 0 dX11_derivationStep_66 rfl rfl ?_
        obtain ⟨c28, h⟩ := zchk_ex h
        refine j_iald (n := 29524) hC dX11_derivationStep_67 (w_id hr26) (zFx_kd hF 63 rfl) (zFx_ln hF 63 rfl) c28.1 c28.2 (fun hg29 => ?_)
        refine j_iconst hC dX11_derivationStep_68 ?_
        refine j_isub hC dX11_derivationStep_69 ?_
        obtain ⟨r30, hy, h⟩ := zb1_ex h
        refine j_callSi hC hE lk_X11_124 dX11_derivationStep_70 (c_X11_isIn l hlt g v1 0 (w ((M24 63 r26) - 1)) hv1 kR_0 (inR_w _) M24 S hy) [.int (zi v1), .int (zi 0), .int (zi ((M24 63 r26) - 1))] [] rfl (by simp only [zi_w, zl_wl]) rfl (zcat (Nat.le_of_ble_eq_true rfl)) (Nat.le_of_ble_eq_true rfl) (Nat.le_of_ble_eq_true rfl) (Nat.le_of_ble_eq_true rfl) (Nat.le_of_ble_eq_true rfl) (fun hp31 => ?_)
        have hr30 := hp31
        refine j_if_ne hC dX11_derivationStep_73 rfl (w_id hr30) (fun c32 => ?_) (fun c32 => ?_)
        · have h := zf c32 h
          refine j_iconst hC dX11_derivationStep_82 ?_
          refine j_istore hC dX11_derivationStep_83 (Nat.le_of_ble_eq_true rfl) rfl ?_
          refine j_iconst hC dX11_derivationStep_85 ?_
          refine j_istore hC dX11_derivationStep_86 (Nat.le_of_ble_eq_true rfl) rfl ?_
          refine j_sub [3, 4, 5, 2, 1, 0] rfl ?_
          exact L_88 v1 v2 r26 (-1) 0 hv1 hv2 hr26 kR_m1 kR_0 M24 h
        · have h := zt c32 h
          refine j_aload_n hC 1 dX11_derivationStep_76 rfl rfl ?_
          refine j_iconst hC dX11_derivationStep_77 ?_
          obtain ⟨r33, M34, hy, h⟩ := zb2_ex h
          refine j_callVi (ci := 8) hC hE lk_X11_134 dX11_derivationStep_78 (c_X11_fail l hlt g 4 kR_4 M24 S hF hy) [.int (zi 4)] [] (zFx_kd hF 48 rfl) ⟨_, rfl, by decide, rfl⟩ rfl rfl rfl (zcat (Nat.le_of_ble_eq_true rfl)) (Nat.le_of_ble_eq_true rfl) (Nat.le_of_ble_eq_true rfl) (Nat.le_of_ble_eq_true rfl) (Nat.le_of_ble_eq_true rfl) (fun hp35 => ?_)
          have hr33 := hp35
          obtain ⟨e1, e2⟩ := zpr2 (Option.some.inj h)
          exact j_iret hC hE dX11_derivationStep_81 (w_id hr33) (zn_i _) (by rw [← e1]) e2 rfl (by rw [← e1]; exact hr33) (Nat.le_of_ble_eq_true rfl) (Nat.le_of_ble_eq_true rfl)
      · have h := zt c23 h
        refine j_aload_n hC 0 dX11_derivationStep_45 rfl rfl ?_
        refine j_iconst hC dX11_derivationStep_46 ?_
        obtain ⟨r36, M37, hy, h⟩ := zb2_ex h
        refine j_callVi (ci := 8) hC hE lk_X11_134 dX11_derivationStep_47 (c_X11_fail l hlt g 3 kR_3 M17 S hF hy) [.int (zi 3)] [] (zFx_kd hF 48 rfl) ⟨_, rfl, by decide, rfl⟩ rfl rfl rfl (zcat (Nat.le_of_ble_eq_true rfl)) (Nat.le_of_ble_eq_true rfl) (Nat.le_of_ble_eq_true rfl) (Nat.le_of_ble_eq_true rfl) (Nat.le_of_ble_eq_true rfl) (fun hp38 => ?_)
        have hr36 := hp38
        obtain ⟨e1, e2⟩ := zpr2 (Option.some.inj h)
        exact j_iret hC hE dX11_derivationStep_50 (w_id hr36) (zn_i _) (by rw [← e1]) e2 rfl (by rw [← e1]; exact hr36) (Nat.le_of_ble_eq_true rfl) (Nat.le_of_ble_eq_true rfl)
    · have h := zt c19 h
      refine j_aload_n hC 0 dX11_derivationStep_27 rfl rfl ?_
      refine j_iconst hC dX11_derivationStep_28 ?_
      obtain ⟨r39, M40, hy, h⟩ := zb2_ex h
      refine j_callVi (ci := 8) hC hE lk_X11_134 dX11_derivationStep_29 (c_X11_fail l hlt g 2 kR_2 M17 S hF hy) [.int (zi 2)] [] (zFx_kd hF 48 rfl) ⟨_, rfl, by decide, rfl⟩ rfl rfl rfl (zcat (Nat.le_of_ble_eq_true rfl)) (Nat.le_of_ble_eq_true rfl) (Nat.le_of_ble_eq_true rfl) (Nat.le_of_ble_eq_true rfl) (Nat.le_of_ble_eq_true rfl) (fun hp41 => ?_)
      have hr39 := hp41
      obtain ⟨e1, e2⟩ := zpr2 (Option.some.inj h)
      exact j_iret hC hE dX11_derivationStep_32 (w_id hr39) (zn_i _) (by rw [← e1]) e2 rfl (by rw [← e1]; exact hr39) (Nat.le_of_ble_eq_true rfl) (Nat.le_of_ble_eq_true rfl)
  · have h := zt c15 h
    refine j_aload_n hC 0 dX11_derivationStep_14 rfl rfl ?_
    refine j_iconst hC dX11_derivationStep_15 ?_
    obtain ⟨r42, M43, hy, h⟩ := zb2_ex h
    refine j_callVi (ci := 8) hC hE lk_X11_134 dX11_derivationStep_16 (c_X11_fail l hlt g 1 kR_1 M12 S hF hy) [.int (zi 1)] [] (zFx_kd hF 48 rfl) ⟨_, rfl, by decide, rfl⟩ rfl rfl rfl (zcat (Nat.le_of_ble_eq_true rfl)) (Nat.le_of_ble_eq_true rfl) (Nat.le_of_ble_eq_true rfl) (Nat.le_of_ble_eq_true rfl) (Nat.le_of_ble_eq_true rfl) (fun hp44 => ?_)
    have hr42 := hp44
    obtain ⟨e1, e2⟩ := zpr2 (Option.some.inj h)
    exact j_iret hC hE dX11_derivationStep_19 (w_id hr42) (zn_i _) (by rw [← e1]) e2 rfl (by rw [← e1]; exact hr42) (Nat.le_of_ble_eq_true rfl) (Nat.le_of_ble_eq_true rfl)
set_option maxHeartbeats 4000000 in
set_option maxRecDepth 100000 in
theorem c_X11_derivations (l : Launch) (hlt : l.stackTraces = false) (g : zG) (M : zM) (S : zS) (hF : zFx S) {r : Int} {M' : zM} (h : F_X11_derivations M = some (r, M')) : zMet l g yX11_derivations cX11_derivations 4 (some .long) 11 0 0 [zr g 48] M S (.inl (some (.long (zl r)))) M' S (inL r) := by
  refine zMet_of (by decide) hlt [(0, zr g 48)] rfl (Nat.le_of_ble_eq_true rfl) (fun K hC hE hN => ?_)
  unfold F_X11_derivations at h
  have J_181 : ∀ (M : zM) (_ : F_X11_derivations_J181 M = some (r, M')), zJ K g 0 0 181 4 [(0, zr g 48)] [] M S := by
    intro M h
    unfold F_X11_derivations_J181 at h
    refine j_aload_n hC 0 dX11_derivations_181 rfl rfl ?_
    refine j_getq (q := 64) hC dX11_derivations_182 f_X11_67 (zFx_kd hF 48 rfl) rfl 31 rfl (zFx_rf hF 48 31 rfl) ?_
    refine j_aload_n hC 0 dX11_derivations_185 rfl rfl ?_
    refine j_get hC dX11_derivations_186 f_X11_317 (zFx_kd hF 48 rfl) rfl 29 rfl (fun hg1 => ?_)
    obtain ⟨c2, h⟩ := zchk_ex h
    refine j_lald (n := 29524) hC dX11_derivations_189 (w_id hg1) (zFx_kd hF 64 rfl) (zFx_ln hF 64 rfl) c2.1 c2.2 (fun hg3 => ?_)
    obtain ⟨e1, e2⟩ := zpr2 (Option.some.inj h)
    exact j_lret hC hE dX11_derivations_190 (wl_id hg3) (by rw [← e1]) e2 rfl (by rw [← e1]; exact hg3) (Nat.le_of_ble_eq_true rfl) (Nat.le_of_ble_eq_true rfl)
  have L_64 : ∀ (v1 : Int) (hv1 : inR v1) (M : zM) (_ : F_X11_derivations_L64 v1 M = some (r, M')), zJ K g 0 0 64 4 [(0, zr g 48), (1, .int (zi v1))] [] M S := by
    intro v1 hv1 M h
    unfold F_X11_derivations_L64 at h
    obtain ⟨ex64, hl, hd64⟩ := zb1_ex h
    obtain ⟨bd64, ebd⟩ : ∃ f, f = (fun (s : Int × zM) => F_X11_derivations_B64 s.1 s.2) := ⟨_, rfl⟩
    rw [← ebd] at hl
    have main : ∀ (n64 : Nat) (v1 : Int) (hv1 : inR v1) (M : zM) (_ : zloop bd64 n64 (v1, M) = some ex64), zJ K g 0 0 64 4 [(0, zr g 48), (1, .int (zi v1))] [] M S := by
      intro n64
      induction n64 with
      | zero => intro v1 hv1 M hl; exact zloop_0 hl
      | succ n64 ih64 =>
        have J_175 : ∀ (v1 : Int) (hv1 : inR v1) (M : zM) (o : _) (_ : F_X11_derivations_J175 v1 M = some o), zAft (bd64) n64 ex64 o → zJ K g 0 0 175 4 [(0, zr g 48), (1, .int (zi v1))] [] M S := by
          intro v1 hv1 M o h hT
          unfold F_X11_derivations_J175 at h
          obtain ⟨x4, ex4, h⟩ := zlet_ex h
          have hx4 : inR x4 := by rw [ex4]; exact inR_w _
          refine j_iinc hC 1 dX11_derivations_175 rfl ex4 (Nat.le_of_ble_eq_true rfl) rfl ?_
          refine j_goto hC dX11_derivations_178 rfl ?_
          obtain rfl := Option.some.inj h
          refine j_sub [1, 0] rfl ?_
          exact ih64 x4 hx4 M hT
        have L_74 : ∀ (v1 : Int) (v2 : Int) (hv1 : inR v1) (hv2 : inR v2) (M : zM) (o : _) (_ : F_X11_derivations_L74 v1 v2 M = some o), zAft (bd64) n64 ex64 o → zJ K g 0 0 74 4 [(0, zr g 48), (1, .int (zi v1)), (2, .int (zi v2))] [] M S := by
          intro v1 v2 hv1 hv2 M oh74 h hT74
          unfold F_X11_derivations_L74 at h
          obtain ⟨ex74, hl, hd74⟩ := zb1_ex h
          obtain ⟨bd74, ebd⟩ : ∃ f, f = (fun (s : Int × zM) => F_X11_derivations_B74 v1 s.1 s.2) := ⟨_, rfl⟩
          rw [← ebd] at hl
          have main : ∀ (n74 : Nat) (v2 : Int) (hv2 : inR v2) (M : zM) (_ : zloop bd74 n74 (v2, M) = some ex74), zJ K g 0 0 74 4 [(0, zr g 48), (1, .int (zi v1)), (2, .int (zi v2))] [] M S := by
            intro n74
            induction n74 with
            | zero => intro v2 hv2 M hl; exact zloop_0 hl
            | succ n74 ih74 =>
              have J_169 : ∀ (v2 : Int) (hv2 : inR v2) (M : zM) (o : _) (_ : F_X11_derivations_J169 v1 v2 M = some o), zAft (bd74) n74 ex74 o → zJ K g 0 0 169 4 [(0, zr g 48), (1, .int (zi v1)), (2, .int (zi v2))] [] M S := by
                intro v2 hv2 M o h hT
                unfold F_X11_derivations_J169 at h
                obtain ⟨x5, ex5, h⟩ := zlet_ex h
                have hx5 : inR x5 := by rw [ex5]; exact inR_w _
                refine j_iinc hC 2 dX11_derivations_169 rfl ex5 (Nat.le_of_ble_eq_true rfl) rfl ?_
                refine j_goto hC dX11_derivations_172 rfl ?_
                obtain rfl := Option.some.inj h
                refine j_sub [1, 2, 0] rfl ?_
                exact ih74 x5 hx5 M hT
              have L_99 : ∀ (v2 : Int) (v3 : Int) (hv2 : inR v2) (hv3 : inR v3) (M : zM) (o : _) (_ : F_X11_derivations_L99 v1 v2 v3 M = some o), zAft (bd74) n74 ex74 o → zJ K g 0 0 99 4 [(0, zr g 48), (1, .int (zi v1)), (2, .int (zi v2)), (3, .int (zi v3))] [] M S := by
                intro v2 v3 hv2 hv3 M oh99 h hT99
                unfold F_X11_derivations_L99 at h
                obtain ⟨ex99, hl, hd99⟩ := zb1_ex h
                obtain ⟨bd99, ebd⟩ : ∃ f, f = (fun (s : Int × zM) => F_X11_derivations_B99 v1 v2 s.1 s.2) := ⟨_, rfl⟩
                rw [← ebd] at hl
                have main : ∀ (n99 : Nat) (v3 : Int) (hv3 : inR v3) (M : zM) (_ : zloop bd99 n99 (v3, M) = some ex99), zJ K g 0 0 99 4 [(0, zr g 48), (1, .int (zi v1)), (2, .int (zi v2)), (3, .int (zi v3))] [] M S := by
                  intro n99
                  induction n99 with
                  | zero => intro v3 hv3 M hl; exact zloop_0 hl
                  | succ n99 ih99 =>
                    have J_163 : ∀ (v3 : Int) (hv3 : inR v3) (M : zM) (o : _) (_ : F_X11_derivations_J163 v1 v2 v3 M = some o), zAft (bd99) n99 ex99 o → zJ K g 0 0 163 4 [(0, zr g 48), (1, .int (zi v1)), (2, .int (zi v2)), (3, .int (zi v3))] [] M S := by
                      intro v3 hv3 M o h hT
                      unfold F_X11_derivations_J163 at h
                      obtain ⟨x6, ex6, h⟩ := zlet_ex h
                      have hx6 : inR x6 := by rw [ex6]; exact inR_w _
                      refine j_iinc hC 3 dX11_derivations_163 rfl ex6 (Nat.le_of_ble_eq_true rfl) rfl ?_
                      refine j_goto hC dX11_derivations_166 rfl ?_
                      obtain rfl := Option.some.inj h
                      refine j_sub [1, 2, 3, 0] rfl ?_
                      exact ih99 x6 hx6 M hT
                    intro v3 hv3 M hl
                    obtain ⟨o, h, hT⟩ := zloop_ex hl
                    have h : F_X11_derivations_B99 v1 v2 v3 M = some o := by rw [ebd] at h; exact h
                    unfold F_X11_derivations_B99 at h
                    refine j_iload_n hC 3 dX11_derivations_99 rfl rfl ?_
                    refine j_bipush hC dX11_derivations_100 rfl ?_
                    refine j_icmp_ge hC dX11_derivations_102 rfl (w_id hv3) (w_id kR_100) (fun c7 => ?_) (fun c7 => ?_)
                    · have h := zf c7 h
                      obtain rfl := Option.some.inj h
                      have hx99 := hd99
                      rw [← show _ = ex99 from hT] at hx99
                      refine j_sub [0, 1, 2] rfl ?_
                      exact J_169 v2 hv2 M _ hx99 hT99
                    · have h := zt c7 h
                      refine j_aload_n hC 0 dX11_derivations_105 rfl rfl ?_
                      refine j_iload_n hC 2 dX11_derivations_106 rfl rfl ?_
                      obtain ⟨r8, hy, h⟩ := zb1_ex h
                      refine j_callVi (ci := 8) hC hE lk_X11_263 dX11_derivations_107 (c_X11_hasRoom l hlt g v2 hv2 M S hF hy) [.int (zi v2)] [] (zFx_kd hF 48 rfl) ⟨_, rfl, by decide, rfl⟩ rfl rfl rfl (zcat (Nat.le_of_ble_eq_true rfl)) (Nat.le_of_ble_eq_true rfl) (Nat.le_of_ble_eq_true rfl) (Nat.le_of_ble_eq_true rfl) (Nat.le_of_ble_eq_true rfl) (fun hp9 => ?_)
                      have hr8 := hp9
                      refine j_if_eq hC dX11_derivations_110 rfl (w_id hr8) (fun c10 => ?_) (fun c10 => ?_)
                      · have h := zt c10 h
                        obtain rfl := Option.some.inj h
                        have hx99 := hd99
                        rw [← show _ = ex99 from hT] at hx99
                        refine j_sub [0, 1, 2] rfl ?_
                        exact J_169 v2 hv2 M _ hx99 hT99
                      · have h := zf c10 h
                        refine j_aload_n hC 0 dX11_derivations_113 rfl rfl ?_
                        refine j_iload_n hC 3 dX11_derivations_114 rfl rfl ?_
                        obtain ⟨r11, hy, h⟩ := zb1_ex h
                        refine j_callVi (ci := 8) hC hE lk_X11_266 dX11_derivations_115 (c_X11_isFactor l hlt g v3 hv3 M S hF hy) [.int (zi v3)] [] (zFx_kd hF 48 rfl) ⟨_, rfl, by decide, rfl⟩ rfl rfl rfl (zcat (Nat.le_of_ble_eq_true rfl)) (Nat.le_of_ble_eq_true rfl) (Nat.le_of_ble_eq_true rfl) (Nat.le_of_ble_eq_true rfl) (Nat.le_of_ble_eq_true rfl) (fun hp12 => ?_)
                        have hr11 := hp12
                        refine j_if_eq hC dX11_derivations_118 rfl (w_id hr11) (fun c13 => ?_) (fun c13 => ?_)
                        · have h := zt c13 h
                          exact J_163 v3 hv3 M _ h hT
                        · have h := zf c13 h
                          refine j_aload_n hC 0 dX11_derivations_121 rfl rfl ?_
                          refine j_iload_n hC 3 dX11_derivations_122 rfl rfl ?_
                          refine j_bipush hC dX11_derivations_123 rfl ?_
                          refine j_idiv hC dX11_derivations_125 (w_id kR_10) (by decide) ?_
                          refine j_iload_n hC 3 dX11_derivations_126 rfl rfl ?_
                          refine j_bipush hC dX11_derivations_127 rfl ?_
                          refine j_irem hC dX11_derivations_129 (w_id kR_10) (by decide) ?_
                          obtain ⟨r14, hy, h⟩ := zb1_ex h
                          refine j_callVi (ci := 8) hC hE lk_X11_269 dX11_derivations_130 (c_X11_isSelected l hlt g (zdiv v3 10) (zrem v3 10) (cR_zdiv _ _) (cR_zrem _ _) M S hF hy) [.int (zi (zdiv v3 10)), .int (zi (zrem v3 10))] [] (zFx_kd hF 48 rfl) ⟨_, rfl, by decide, rfl⟩ rfl rfl rfl (zcat (Nat.le_of_ble_eq_true rfl)) (Nat.le_of_ble_eq_true rfl) (Nat.le_of_ble_eq_true rfl) (Nat.le_of_ble_eq_true rfl) (Nat.le_of_ble_eq_true rfl) (fun hp15 => ?_)
                          have hr14 := hp15
                          refine j_if_eq hC dX11_derivations_133 rfl (w_id hr14) (fun c16 => ?_) (fun c16 => ?_)
                          · have h := zt c16 h
                            exact J_163 v3 hv3 M _ h hT
                          · have h := zf c16 h
                            refine j_aload_n hC 0 dX11_derivations_136 rfl rfl ?_
                            refine j_getq (q := 64) hC dX11_derivations_137 f_X11_67 (zFx_kd hF 48 rfl) rfl 31 rfl (zFx_rf hF 48 31 rfl) ?_
                            refine j_aload_n hC 0 dX11_derivations_140 rfl rfl ?_
                            refine j_iload_n hC 2 dX11_derivations_141 rfl rfl ?_
                            refine j_iload_n hC 3 dX11_derivations_142 rfl rfl ?_
                            refine j_bipush hC dX11_derivations_143 rfl ?_
                            refine j_idiv hC dX11_derivations_145 (w_id kR_10) (by decide) ?_
                            refine j_iload_n hC 3 dX11_derivations_146 rfl rfl ?_
                            refine j_bipush hC dX11_derivations_147 rfl ?_
                            refine j_irem hC dX11_derivations_149 (w_id kR_10) (by decide) ?_
                            obtain ⟨r17, hy, h⟩ := zb1_ex h
                            refine j_callVi (ci := 8) hC hE lk_X11_272 dX11_derivations_150 (c_X11_inserted l hlt g v2 (zdiv v3 10) (zrem v3 10) hv2 (cR_zdiv _ _) (cR_zrem _ _) M S hF hy) [.int (zi v2), .int (zi (zdiv v3 10)), .int (zi (zrem v3 10))] [zr g 64] (zFx_kd hF 48 rfl) ⟨_, rfl, by decide, rfl⟩ rfl rfl rfl (zcat (Nat.le_of_ble_eq_true rfl)) (Nat.le_of_ble_eq_true rfl) (Nat.le_of_ble_eq_true rfl) (Nat.le_of_ble_eq_true rfl) (Nat.le_of_ble_eq_true rfl) (fun hp18 => ?_)
                            have hr17 := hp18
                            refine j_dup2 hC dX11_derivations_153 rfl (zr_cat _ _) ?_
                            obtain ⟨c19, h⟩ := zchk_ex h
                            refine j_lald (n := 29524) hC dX11_derivations_154 (w_id hr17) (zFx_kd hF 64 rfl) (zFx_ln hF 64 rfl) c19.1 c19.2 (fun hg20 => ?_)
                            refine j_aload_n hC 0 dX11_derivations_155 rfl rfl ?_
                            refine j_getq (q := 64) hC dX11_derivations_156 f_X11_67 (zFx_kd hF 48 rfl) rfl 31 rfl (zFx_rf hF 48 31 rfl) ?_
                            refine j_iload_n hC 1 dX11_derivations_159 rfl rfl ?_
                            obtain ⟨c21, h⟩ := zchk_ex h
                            refine j_lald (n := 29524) hC dX11_derivations_160 (w_id hv1) (zFx_kd hF 64 rfl) (zFx_ln hF 64 rfl) c21.1 c21.2 (fun hg22 => ?_)
                            refine j_ladd hC dX11_derivations_161 ?_
                            obtain ⟨c23, h⟩ := zchk_ex h
                            obtain ⟨M24, eM24, h⟩ := zlet_ex h
                            refine j_last (n := 29524) hC dX11_derivations_162 (w_id hr17) (wl_id (cL_zladd _ _)) (cL_zladd _ _) (zFx_kd hF 64 rfl) (zFx_ln hF 64 rfl) c23.1 c23.2 eM24 ?_
                            exact J_163 v3 hv3 M24 _ h hT
                exact main zN v3 hv3 M hl
              intro v2 hv2 M hl
              obtain ⟨o, h, hT⟩ := zloop_ex hl
              have h : F_X11_derivations_B74 v1 v2 M = some o := by rw [ebd] at h; exact h
              unfold F_X11_derivations_B74 at h
              refine j_iload_n hC 2 dX11_derivations_74 rfl rfl ?_
              refine j_aload_n hC 0 dX11_derivations_75 rfl rfl ?_
              refine j_get hC dX11_derivations_76 f_X11_121 (zFx_kd hF 48 rfl) rfl 7 rfl (fun hg25 => ?_)
              refine j_icmp_ge hC dX11_derivations_79 rfl (w_id hv2) (w_id hg25) (fun c26 => ?_) (fun c26 => ?_)
              · have h := zf c26 h
                obtain rfl := Option.some.inj h
                have hx74 := hd74
                rw [← show _ = ex74 from hT] at hx74
                refine j_sub [0, 1] rfl ?_
                exact J_175 v1 hv1 M _ hx74 hT74
              · have h := zt c26 h
                refine j_aload_n hC 0 dX11_derivations_82 rfl rfl ?_
                refine j_getq (q := 58) hC dX11_derivations_83 f_X11_49 (zFx_kd hF 48 rfl) rfl 22 rfl (zFx_rf hF 48 22 rfl) ?_
                refine j_iload_n hC 1 dX11_derivations_86 rfl rfl ?_
                obtain ⟨c27, h⟩ := zchk_ex h
                refine j_zald (n := 29524) hC dX11_derivations_87 (w_id hv1) (zFx_kd hF 58 rfl) (zFx_ln hF 58 rfl) c27.1 c27.2 (fun hg28 => ?_)
                refine j_if_eq hC dX11_derivations_88 rfl (w_id (inR_b hg28)) (fun c29 => ?_) (fun c29 => ?_)
                · have h := zt c29 h
                  obtain rfl := Option.some.inj h
                  have hx74 := hd74
                  rw [← show _ = ex74 from hT] at hx74
                  refine j_sub [0, 1] rfl ?_
                  exact J_175 v1 hv1 M _ hx74 hT74
                · have h := zf c29 h
                  refine j_aload_n hC 0 dX11_derivations_91 rfl rfl ?_
                  refine j_iload_n hC 1 dX11_derivations_92 rfl rfl ?_
                  refine j_iload_n hC 2 dX11_derivations_93 rfl rfl ?_
                  obtain ⟨M30, hy, h⟩ := zb1_ex h
                  refine j_callVv (ci := 8) hC hE lk_X11_260 dX11_derivations_94 (c_X11_fit l hlt g v1 v2 hv1 hv2 M S hF hy) [.int (zi v1), .int (zi v2)] [] (zFx_kd hF 48 rfl) ⟨_, rfl, by decide, rfl⟩ rfl rfl rfl (zcat (Nat.le_of_ble_eq_true rfl)) (Nat.le_of_ble_eq_true rfl) (Nat.le_of_ble_eq_true rfl) (Nat.le_of_ble_eq_true rfl) (Nat.le_of_ble_eq_true rfl) (fun hp31 => ?_)
                  refine j_iconst hC dX11_derivations_97 ?_
                  refine j_istore_n hC dX11_derivations_98 rfl (Nat.le_of_ble_eq_true rfl) rfl ?_
                  refine j_sub [1, 2, 3, 0] rfl ?_
                  exact L_99 v2 0 hv2 kR_0 M30 _ h hT
          exact main zN v2 hv2 M hl
        intro v1 hv1 M hl
        obtain ⟨o, h, hT⟩ := zloop_ex hl
        have h : F_X11_derivations_B64 v1 M = some o := by rw [ebd] at h; exact h
        unfold F_X11_derivations_B64 at h
        refine j_iload_n hC 1 dX11_derivations_64 rfl rfl ?_
        refine j_aload_n hC 0 dX11_derivations_65 rfl rfl ?_
        refine j_get hC dX11_derivations_66 f_X11_317 (zFx_kd hF 48 rfl) rfl 29 rfl (fun hg32 => ?_)
        refine j_icmp_ge hC dX11_derivations_69 rfl (w_id hv1) (w_id hg32) (fun c33 => ?_) (fun c33 => ?_)
        · have h := zf c33 h
          obtain rfl := Option.some.inj h
          have hx64 := hd64
          rw [← show _ = ex64 from hT] at hx64
          refine j_sub [0] rfl ?_
          exact J_181 M hx64
        · have h := zt c33 h
          refine j_iconst hC dX11_derivations_72 ?_
          refine j_istore_n hC dX11_derivations_73 rfl (Nat.le_of_ble_eq_true rfl) rfl ?_
          refine j_sub [1, 2, 0] rfl ?_
          exact L_74 v1 0 hv1 kR_0 M _ h hT
    exact main zN v1 hv1 M hl
  have J_62 : ∀ (M : zM) (_ : F_X11_derivations_J62 M = some (r, M')), zJ K g 0 0 62 4 [(0, zr g 48)] [] M S := by
    intro M h
    unfold F_X11_derivations_J62 at h
    refine j_iconst hC dX11_derivations_62 ?_
    refine j_istore_n hC dX11_derivations_63 rfl (Nat.le_of_ble_eq_true rfl) rfl ?_
    refine j_sub [1, 0] rfl ?_
    exact L_64 0 kR_0 M h
  have L_21 : ∀ (v1 : Int) (hv1 : inR v1) (M : zM) (_ : F_X11_derivations_L21 v1 M = some (r, M')), zJ K g 0 0 21 4 [(0, zr g 48), (1, .int (zi v1))] [] M S := by
    intro v1 hv1 M h
    unfold F_X11_derivations_L21 at h
    obtain ⟨ex21, hl, hd21⟩ := zb1_ex h
    obtain ⟨bd21, ebd⟩ : ∃ f, f = (fun (s : Int × zM) => F_X11_derivations_B21 s.1 s.2) := ⟨_, rfl⟩
    rw [← ebd] at hl
    have main : ∀ (n21 : Nat) (v1 : Int) (hv1 : inR v1) (M : zM) (_ : zloop bd21 n21 (v1, M) = some ex21), zJ K g 0 0 21 4 [(0, zr g 48), (1, .int (zi v1))] [] M S := by
      intro n21
      induction n21 with
      | zero => intro v1 hv1 M hl; exact zloop_0 hl
      | succ n21 ih21 =>
        have J_55 : ∀ (v1 : Int) (t1 : Int) (t2 : Int) (hv1 : inR v1) (ht1 : inR t1) (ht2 : inL t2) (M : zM) (o : _) (_ : F_X11_derivations_J55 v1 t1 t2 M = some o), zAft (bd21) n21 ex21 o → zJ K g 0 0 55 4 [(0, zr g 48), (1, .int (zi v1))] [.long (zl t2), .int (zi t1), zr g 64] M S := by
          intro v1 t1 t2 hv1 ht1 ht2 M o h hT
          unfold F_X11_derivations_J55 at h
          obtain ⟨c34, h⟩ := zchk_ex h
          obtain ⟨M35, eM35, h⟩ := zlet_ex h
          refine j_last (n := 29524) hC dX11_derivations_55 (w_id ht1) (wl_id ht2) ht2 (zFx_kd hF 64 rfl) (zFx_ln hF 64 rfl) c34.1 c34.2 eM35 ?_
          obtain ⟨x36, ex36, h⟩ := zlet_ex h
          have hx36 : inR x36 := by rw [ex36]; exact inR_w _
          refine j_iinc hC 1 dX11_derivations_56 rfl ex36 (Nat.le_of_ble_eq_true rfl) rfl ?_
          refine j_goto hC dX11_derivations_59 rfl ?_
          obtain rfl := Option.some.inj h
          refine j_sub [1, 0] rfl ?_
          exact ih21 x36 hx36 M35 hT
        have J_54 : ∀ (v1 : Int) (t1 : Int) (hv1 : inR v1) (ht1 : inR t1) (M : zM) (o : _) (_ : F_X11_derivations_J54 v1 t1 M = some o), zAft (bd21) n21 ex21 o → zJ K g 0 0 54 4 [(0, zr g 48), (1, .int (zi v1))] [.int (zi t1), zr g 64] M S := by
          intro v1 t1 hv1 ht1 M o h hT
          unfold F_X11_derivations_J54 at h
          refine j_lconst (z := 0) hC dX11_derivations_54 rfl ?_
          exact J_55 v1 t1 0 hv1 ht1 (inLc rfl) M _ h hT
        intro v1 hv1 M hl
        obtain ⟨o, h, hT⟩ := zloop_ex hl
        have h : F_X11_derivations_B21 v1 M = some o := by rw [ebd] at h; exact h
        unfold F_X11_derivations_B21 at h
        refine j_iload_n hC 1 dX11_derivations_21 rfl rfl ?_
        refine j_sipush hC dX11_derivations_22 rfl ?_
        refine j_icmp_ge hC dX11_derivations_25 rfl (w_id hv1) (w_id kR_29524) (fun c37 => ?_) (fun c37 => ?_)
        · have h := zf c37 h
          obtain rfl := Option.some.inj h
          have hx21 := hd21
          rw [← show _ = ex21 from hT] at hx21
          refine j_sub [0] rfl ?_
          exact J_62 M hx21
        · have h := zt c37 h
          refine j_aload_n hC 0 dX11_derivations_28 rfl rfl ?_
          refine j_getq (q := 64) hC dX11_derivations_29 f_X11_67 (zFx_kd hF 48 rfl) rfl 31 rfl (zFx_rf hF 48 31 rfl) ?_
          refine j_iload_n hC 1 dX11_derivations_32 rfl rfl ?_
          refine j_aload_n hC 0 dX11_derivations_33 rfl rfl ?_
          refine j_getq (q := 58) hC dX11_derivations_34 f_X11_49 (zFx_kd hF 48 rfl) rfl 22 rfl (zFx_rf hF 48 22 rfl) ?_
          refine j_iload_n hC 1 dX11_derivations_37 rfl rfl ?_
          obtain ⟨c38, h⟩ := zchk_ex h
          refine j_zald (n := 29524) hC dX11_derivations_38 (w_id hv1) (zFx_kd hF 58 rfl) (zFx_ln hF 58 rfl) c38.1 c38.2 (fun hg39 => ?_)
          refine j_if_eq hC dX11_derivations_39 rfl (w_id (inR_b hg39)) (fun c40 => ?_) (fun c40 => ?_)
          · have h := zt c40 h
            exact J_54 v1 v1 hv1 hv1 M _ h hT
          · have h := zf c40 h
            refine j_aload_n hC 0 dX11_derivations_42 rfl rfl ?_
            refine j_iload_n hC 1 dX11_derivations_43 rfl rfl ?_
            obtain ⟨r41, hy, h⟩ := zb1_ex h
            refine j_callVi (ci := 8) hC hE lk_X11_320 dX11_derivations_44 (c_X11_isAxiom l hlt g v1 hv1 M S hF hy) [.int (zi v1)] [.int (zi v1), zr g 64] (zFx_kd hF 48 rfl) ⟨_, rfl, by decide, rfl⟩ rfl rfl rfl (zcat (Nat.le_of_ble_eq_true rfl)) (Nat.le_of_ble_eq_true rfl) (Nat.le_of_ble_eq_true rfl) (Nat.le_of_ble_eq_true rfl) (Nat.le_of_ble_eq_true rfl) (fun hp42 => ?_)
            have hr41 := hp42
            refine j_if_eq hC dX11_derivations_47 rfl (w_id hr41) (fun c43 => ?_) (fun c43 => ?_)
            · have h := zt c43 h
              exact J_54 v1 v1 hv1 hv1 M _ h hT
            · have h := zf c43 h
              refine j_lconst (z := 1) hC dX11_derivations_50 rfl ?_
              refine j_goto hC dX11_derivations_51 rfl ?_
              exact J_55 v1 v1 1 hv1 hv1 (inLc rfl) M _ h hT
    exact main zN v1 hv1 M hl
  refine j_aload_n hC 0 dX11_derivations_0 rfl rfl ?_
  refine j_iconst hC dX11_derivations_1 ?_
  obtain ⟨M44, eM44, h⟩ := zlet_ex h
  refine j_put hC dX11_derivations_2 f_X11_104 pF_X11 (zFx_kd hF 48 rfl) (Or.inl rfl) rfl 0 rfl (w_id kR_0) kR_0 eM44 ?_
  refine j_aload_n hC 0 dX11_derivations_5 rfl rfl ?_
  obtain ⟨r45, M46, hy, h⟩ := zb2_ex h
  refine j_callVi (ci := 8) hC hE lk_X11_278 dX11_derivations_6 (c_X11_findAll l hlt g M44 S hF hy) [] [] (zFx_kd hF 48 rfl) ⟨_, rfl, by decide, rfl⟩ rfl rfl rfl (zcat (Nat.le_of_ble_eq_true rfl)) (Nat.le_of_ble_eq_true rfl) (Nat.le_of_ble_eq_true rfl) (Nat.le_of_ble_eq_true rfl) (Nat.le_of_ble_eq_true rfl) (fun hp47 => ?_)
  have hr45 := hp47
  refine j_if_ne hC dX11_derivations_9 rfl (w_id hr45) (fun c48 => ?_) (fun c48 => ?_)
  · have h := zf c48 h
    refine j_iconst hC dX11_derivations_19 ?_
    refine j_istore_n hC dX11_derivations_20 rfl (Nat.le_of_ble_eq_true rfl) rfl ?_
    refine j_sub [1, 0] rfl ?_
    exact L_21 0 kR_0 M46 h
  · have h := zt c48 h
    refine j_aload_n hC 0 dX11_derivations_12 rfl rfl ?_
    refine j_iconst hC dX11_derivations_13 ?_
    obtain ⟨r49, M50, hy, h⟩ := zb2_ex h
    refine j_callVi (ci := 8) hC hE lk_X11_134 dX11_derivations_14 (c_X11_fail l hlt g 1 kR_1 M46 S hF hy) [.int (zi 1)] [] (zFx_kd hF 48 rfl) ⟨_, rfl, by decide, rfl⟩ rfl rfl rfl (zcat (Nat.le_of_ble_eq_true rfl)) (Nat.le_of_ble_eq_true rfl) (Nat.le_of_ble_eq_true rfl) (Nat.le_of_ble_eq_true rfl) (Nat.le_of_ble_eq_true rfl) (fun hp51 => ?_)
    have hr49 := hp51
    refine j_i2l hC dX11_derivations_17 (w_id hr49) ?_
    obtain ⟨e1, e2⟩ := zpr2 (Option.some.inj h)
    exact j_lret hC hE dX11_derivations_18 (wl_id (inL_R hr49)) (by rw [← e1]) e2 rfl (by rw [← e1]; exact (inL_R hr49)) (Nat.le_of_ble_eq_true rfl) (Nat.le_of_ble_eq_true rfl)
set_option maxHeartbeats 4000000 in
set_option maxRecDepth 100000 in
theorem c_X11_findInsertion (l : Launch) (hlt : l.stackTraces = false) (g : zG) (v1 : Int) (hv1 : inR v1) (M : zM) (S : zS) (hF : zFx S) {r : Int} {M' : zM} (h : F_X11_findInsertion v1 M = some (r, M')) : zMet l g yX11_findInsertion cX11_findInsertion 5 (some .int) 8 0 0 [zr g 48, .int (zi v1)] M S (.inl (some (.int (zi r)))) M' S (inR r) := by
  refine zMet_of (by decide) hlt [(0, zr g 48), (1, .int (zi v1))] rfl (Nat.le_of_ble_eq_true rfl) (fun K hC hE hN => ?_)
  unfold F_X11_findInsertion at h
  have J_92 : ∀ (v2 : Int) (hv2 : inR v2) (M : zM) (_ : F_X11_findInsertion_J92 v2 M = some (r, M')), zJ K g 0 0 92 5 [(2, .int (zi v2))] [] M S := by
    intro v2 hv2 M h
    unfold F_X11_findInsertion_J92 at h
    refine j_iload_n hC 0 dX11_findInsertion_92 rfl rfl ?_
    refine j_sipush hC dX11_findInsertion_93 rfl ?_
    refine j_isub hC dX11_findInsertion_96 ?_
    obtain ⟨e1, e2⟩ := zpr2 (Option.some.inj h)
    exact j_iret hC hE dX11_findInsertion_97 rfl (zn_i _) (by rw [← e1]) e2 rfl (by rw [← e1]; exact (inR_w _)) (Nat.le_of_ble_eq_true rfl) (Nat.le_of_ble_eq_true rfl)
  have J_81 : ∀ (v3 : Int) (hv3 : inR v3) (M : zM) (_ : F_X11_findInsertion_J81 v3 M = some (r, M')), zJ K g 0 0 81 5 [(3, .int (zi v3))] [] M S := by
    intro v3 hv3 M h
    unfold F_X11_findInsertion_J81 at h
    refine j_iload_n hC 0 dX11_findInsertion_81 rfl rfl ?_
    obtain ⟨e1, e2⟩ := zpr2 (Option.some.inj h)
    exact j_iret hC hE dX11_findInsertion_82 (w_id hv3) (zn_i _) (by rw [← e1]) e2 rfl (by rw [← e1]; exact hv3) (Nat.le_of_ble_eq_true rfl) (Nat.le_of_ble_eq_true rfl)
  have L_4 : ∀ (v1 : Int) (v2 : Int) (v3 : Int) (hv1 : inR v1) (hv2 : inR v2) (hv3 : inR v3) (M : zM) (_ : F_X11_findInsertion_L4 v1 v2 v3 M = some (r, M')), zJ K g 0 0 4 5 [(0, zr g 48), (1, .int (zi v1)), (2, .int (zi v2)), (3, .int (zi v3))] [] M S := by
    intro v1 v2 v3 hv1 hv2 hv3 M h
    unfold F_X11_findInsertion_L4 at h
    obtain ⟨ex4, hl, hd4⟩ := zb1_ex h
    obtain ⟨bd4, ebd⟩ : ∃ f, f = (fun (s : Int × Int × zM) => F_X11_findInsertion_B4 v1 s.1 s.2.1 s.2.2) := ⟨_, rfl⟩
    rw [← ebd] at hl
    have main : ∀ (n4 : Nat) (v2 : Int) (v3 : Int) (hv2 : inR v2) (hv3 : inR v3) (M : zM) (_ : zloop bd4 n4 (v2, v3, M) = some ex4), zJ K g 0 0 4 5 [(0, zr g 48), (1, .int (zi v1)), (2, .int (zi v2)), (3, .int (zi v3))] [] M S := by
      intro n4
      induction n4 with
      | zero => intro v2 v3 hv2 hv3 M hl; exact zloop_0 hl
      | succ n4 ih4 =>
        have J_86 : ∀ (v2 : Int) (v3 : Int) (hv2 : inR v2) (hv3 : inR v3) (M : zM) (o : _) (_ : F_X11_findInsertion_J86 v1 v2 v3 M = some o), zAft (bd4) n4 ex4 o → zJ K g 0 0 86 5 [(0, zr g 48), (1, .int (zi v1)), (2, .int (zi v2)), (3, .int (zi v3))] [] M S := by
          intro v2 v3 hv2 hv3 M o h hT
          unfold F_X11_findInsertion_J86 at h
          obtain ⟨x1, ex1, h⟩ := zlet_ex h
          have hx1 : inR x1 := by rw [ex1]; exact inR_w _
          refine j_iinc hC 3 dX11_findInsertion_86 rfl ex1 (Nat.le_of_ble_eq_true rfl) rfl ?_
          refine j_goto hC dX11_findInsertion_89 rfl ?_
          obtain rfl := Option.some.inj h
          refine j_sub [1, 2, 3, 0] rfl ?_
          exact ih4 v2 x1 hv2 hx1 M hT
        have J_38 : ∀ (v2 : Int) (v3 : Int) (v4 : Int) (hv2 : inR v2) (hv3 : inR v3) (hv4 : inR v4) (M : zM) (o : _) (_ : F_X11_findInsertion_J38 v1 v2 v3 v4 M = some o), zAft (bd4) n4 ex4 o → zJ K g 0 0 38 5 [(0, zr g 48), (1, .int (zi v1)), (2, .int (zi v2)), (3, .int (zi v3)), (4, .int (zi v4))] [] M S := by
          intro v2 v3 v4 hv2 hv3 hv4 M o h hT
          unfold F_X11_findInsertion_J38 at h
          refine j_aload_n hC 0 dX11_findInsertion_38 rfl rfl ?_
          refine j_iload hC 4 dX11_findInsertion_39 rfl ?_
          obtain ⟨r2, hy, h⟩ := zb1_ex h
          refine j_callVi (ci := 8) hC hE lk_X11_263 dX11_findInsertion_41 (c_X11_hasRoom l hlt g v4 hv4 M S hF hy) [.int (zi v4)] [] (zFx_kd hF 48 rfl) ⟨_, rfl, by decide, rfl⟩ rfl rfl rfl (zcat (Nat.le_of_ble_eq_true rfl)) (Nat.le_of_ble_eq_true rfl) (Nat.le_of_ble_eq_true rfl) (Nat.le_of_ble_eq_true rfl) (Nat.le_of_ble_eq_true rfl) (fun hp3 => ?_)
          have hr2 := hp3
          refine j_if_eq hC dX11_findInsertion_44 rfl (w_id hr2) (fun c4 => ?_) (fun c4 => ?_)
          · have h := zt c4 h
            refine j_sub [0, 1, 2, 3] rfl ?_
            exact J_86 v2 v3 hv2 hv3 M _ h hT
          · have h := zf c4 h
            refine j_aload_n hC 0 dX11_findInsertion_47 rfl rfl ?_
            refine j_iload_n hC 3 dX11_findInsertion_48 rfl rfl ?_
            refine j_bipush hC dX11_findInsertion_49 rfl ?_
            refine j_irem hC dX11_findInsertion_51 (w_id kR_100) (by decide) ?_
            obtain ⟨r5, hy, h⟩ := zb1_ex h
            refine j_callVi (ci := 8) hC hE lk_X11_266 dX11_findInsertion_52 (c_X11_isFactor l hlt g (zrem v3 100) (cR_zrem _ _) M S hF hy) [.int (zi (zrem v3 100))] [] (zFx_kd hF 48 rfl) ⟨_, rfl, by decide, rfl⟩ rfl rfl rfl (zcat (Nat.le_of_ble_eq_true rfl)) (Nat.le_of_ble_eq_true rfl) (Nat.le_of_ble_eq_true rfl) (Nat.le_of_ble_eq_true rfl) (Nat.le_of_ble_eq_true rfl) (fun hp6 => ?_)
            have hr5 := hp6
            refine j_if_eq hC dX11_findInsertion_55 rfl (w_id hr5) (fun c7 => ?_) (fun c7 => ?_)
            · have h := zt c7 h
              refine j_sub [0, 1, 2, 3] rfl ?_
              exact J_86 v2 v3 hv2 hv3 M _ h hT
            · have h := zf c7 h
              refine j_aload_n hC 0 dX11_findInsertion_58 rfl rfl ?_
              refine j_iload_n hC 3 dX11_findInsertion_59 rfl rfl ?_
              refine j_bipush hC dX11_findInsertion_60 rfl ?_
              refine j_idiv hC dX11_findInsertion_62 (w_id kR_10) (by decide) ?_
              refine j_bipush hC dX11_findInsertion_63 rfl ?_
              refine j_irem hC dX11_findInsertion_65 (w_id kR_10) (by decide) ?_
              refine j_iload_n hC 3 dX11_findInsertion_66 rfl rfl ?_
              refine j_bipush hC dX11_findInsertion_67 rfl ?_
              refine j_irem hC dX11_findInsertion_69 (w_id kR_10) (by decide) ?_
              obtain ⟨r8, hy, h⟩ := zb1_ex h
              refine j_callVi (ci := 8) hC hE lk_X11_269 dX11_findInsertion_70 (c_X11_isSelected l hlt g (zrem (zdiv v3 10) 10) (zrem v3 10) (cR_zrem _ _) (cR_zrem _ _) M S hF hy) [.int (zi (zrem (zdiv v3 10) 10)), .int (zi (zrem v3 10))] [] (zFx_kd hF 48 rfl) ⟨_, rfl, by decide, rfl⟩ rfl rfl rfl (zcat (Nat.le_of_ble_eq_true rfl)) (Nat.le_of_ble_eq_true rfl) (Nat.le_of_ble_eq_true rfl) (Nat.le_of_ble_eq_true rfl) (Nat.le_of_ble_eq_true rfl) (fun hp9 => ?_)
              have hr8 := hp9
              refine j_if_eq hC dX11_findInsertion_73 rfl (w_id hr8) (fun c10 => ?_) (fun c10 => ?_)
              · have h := zt c10 h
                refine j_sub [0, 1, 2, 3] rfl ?_
                exact J_86 v2 v3 hv2 hv3 M _ h hT
              · have h := zf c10 h
                refine j_iload_n hC 2 dX11_findInsertion_76 rfl rfl ?_
                refine j_iload_n hC 1 dX11_findInsertion_77 rfl rfl ?_
                refine j_icmp_ne hC dX11_findInsertion_78 rfl (w_id hv2) (w_id hv1) (fun c11 => ?_) (fun c11 => ?_)
                · have h := zf c11 h
                  obtain ⟨x12, ex12, h⟩ := zlet_ex h
                  have hx12 : inR x12 := by rw [ex12]; exact inR_w _
                  refine j_iinc hC 2 dX11_findInsertion_83 rfl ex12 (Nat.le_of_ble_eq_true rfl) rfl ?_
                  refine j_sub [1, 2, 0, 3] rfl ?_
                  exact J_86 x12 v3 hx12 hv3 M _ h hT
                · have h := zt c11 h
                  obtain rfl := Option.some.inj h
                  have hx4 := hd4
                  rw [← show _ = ex4 from hT] at hx4
                  dsimp only [Sum.elim] at hx4
                  refine j_sub [3] rfl ?_
                  exact J_81 v3 hv3 M hx4
        intro v2 v3 hv2 hv3 M hl
        obtain ⟨o, h, hT⟩ := zloop_ex hl
        have h : F_X11_findInsertion_B4 v1 v2 v3 M = some o := by rw [ebd] at h; exact h
        unfold F_X11_findInsertion_B4 at h
        refine j_iload_n hC 3 dX11_findInsertion_4 rfl rfl ?_
        refine j_bipush hC dX11_findInsertion_5 rfl ?_
        refine j_aload_n hC 0 dX11_findInsertion_7 rfl rfl ?_
        refine j_get hC dX11_findInsertion_8 f_X11_121 (zFx_kd hF 48 rfl) rfl 7 rfl (fun hg13 => ?_)
        refine j_imul hC dX11_findInsertion_11 ?_
        refine j_icmp_ge hC dX11_findInsertion_12 rfl (w_id hv3) rfl (fun c14 => ?_) (fun c14 => ?_)
        · have h := zf c14 h
          obtain rfl := Option.some.inj h
          have hx4 := hd4
          rw [← show _ = ex4 from hT] at hx4
          dsimp only [Sum.elim] at hx4
          refine j_sub [2] rfl ?_
          exact J_92 v2 hv2 M hx4
        · have h := zt c14 h
          refine j_iload_n hC 3 dX11_findInsertion_15 rfl rfl ?_
          refine j_bipush hC dX11_findInsertion_16 rfl ?_
          refine j_idiv hC dX11_findInsertion_18 (w_id kR_100) (by decide) ?_
          obtain ⟨x15, ex15, h⟩ := zlet_ex h
          have hx15 : inR x15 := by rw [ex15]; exact (cR_zdiv _ _)
          refine j_names ex15 ?_
          refine j_istore hC dX11_findInsertion_19 (Nat.le_of_ble_eq_true rfl) rfl ?_
          refine j_iload_n hC 4 dX11_findInsertion_21 rfl rfl ?_
          refine j_bipush hC dX11_findInsertion_22 rfl ?_
          refine j_irem hC dX11_findInsertion_24 (w_id kR_100) (by decide) ?_
          refine j_if_ne hC dX11_findInsertion_25 rfl (w_id (cR_zrem _ _)) (fun c16 => ?_) (fun c16 => ?_)
          · have h := zf c16 h
            refine j_sub [1, 2, 3, 4, 0] rfl ?_
            exact J_38 v2 v3 x15 hv2 hv3 hx15 M _ h hT
          · have h := zt c16 h
            refine j_aload_n hC 1 dX11_findInsertion_28 rfl rfl ?_
            refine j_aload_n hC 1 dX11_findInsertion_29 rfl rfl ?_
            refine j_get hC dX11_findInsertion_30 f_X11_317 (zFx_kd hF 48 rfl) rfl 29 rfl (fun hg17 => ?_)
            refine j_iload hC 0 dX11_findInsertion_33 rfl ?_
            obtain ⟨M18, hy, h⟩ := zb1_ex h
            refine j_callVv (ci := 8) hC hE lk_X11_260 dX11_findInsertion_35 (c_X11_fit l hlt g (M 48 29) x15 hg17 hx15 M S hF hy) [.int (zi (M 48 29)), .int (zi x15)] [] (zFx_kd hF 48 rfl) ⟨_, rfl, by decide, rfl⟩ rfl rfl rfl (zcat (Nat.le_of_ble_eq_true rfl)) (Nat.le_of_ble_eq_true rfl) (Nat.le_of_ble_eq_true rfl) (Nat.le_of_ble_eq_true rfl) (Nat.le_of_ble_eq_true rfl) (fun hp19 => ?_)
            refine j_sub [1, 2, 3, 4, 0] rfl ?_
            exact J_38 v2 v3 x15 hv2 hv3 hx15 M18 _ h hT
    exact main zN v2 v3 hv2 hv3 M hl
  refine j_iconst hC dX11_findInsertion_0 ?_
  refine j_istore_n hC dX11_findInsertion_1 rfl (Nat.le_of_ble_eq_true rfl) rfl ?_
  refine j_iconst hC dX11_findInsertion_2 ?_
  refine j_istore_n hC dX11_findInsertion_3 rfl (Nat.le_of_ble_eq_true rfl) rfl ?_
  refine j_sub [2, 3, 1, 0] rfl ?_
  exact L_4 v1 0 0 hv1 kR_0 kR_0 M h
set_option maxHeartbeats 4000000 in
set_option maxRecDepth 100000 in
theorem c_X11_insertions (l : Launch) (hlt : l.stackTraces = false) (g : zG) (M : zM) (S : zS) (hF : zFx S) {r : Int} {M' : zM} (h : F_X11_insertions M = some (r, M')) : zMet l g yX11_insertions cX11_insertions 1 (some .int) 9 0 0 [zr g 48] M S (.inl (some (.int (zi r)))) M' S (inR r) := by
  refine zMet_of (by decide) hlt [(0, zr g 48)] rfl (Nat.le_of_ble_eq_true rfl) (fun K hC hE hN => ?_)
  unfold F_X11_insertions at h
  refine j_aload_n hC 0 dX11_insertions_0 rfl rfl ?_
  refine j_iconst hC dX11_insertions_1 ?_
  obtain ⟨M1, eM1, h⟩ := zlet_ex h
  refine j_put hC dX11_insertions_2 f_X11_104 pF_X11 (zFx_kd hF 48 rfl) (Or.inl rfl) rfl 0 rfl (w_id kR_0) kR_0 eM1 ?_
  refine j_aload_n hC 0 dX11_insertions_5 rfl rfl ?_
  refine j_iconst hC dX11_insertions_6 ?_
  obtain ⟨r2, M3, hy, h⟩ := zb2_ex h
  refine j_callVi (ci := 8) hC hE lk_X11_332 dX11_insertions_7 (c_X11_findInsertion l hlt g (-1) kR_m1 M1 S hF hy) [.int (zi (-1))] [] (zFx_kd hF 48 rfl) ⟨_, rfl, by decide, rfl⟩ rfl rfl rfl (zcat (Nat.le_of_ble_eq_true rfl)) (Nat.le_of_ble_eq_true rfl) (Nat.le_of_ble_eq_true rfl) (Nat.le_of_ble_eq_true rfl) (Nat.le_of_ble_eq_true rfl) (fun hp4 => ?_)
  have hr2 := hp4
  refine j_sipush hC dX11_insertions_10 rfl ?_
  refine j_iadd hC dX11_insertions_13 ?_
  obtain ⟨e1, e2⟩ := zpr2 (Option.some.inj h)
  exact j_iret hC hE dX11_insertions_14 rfl (zn_i _) (by rw [← e1]) e2 rfl (by rw [← e1]; exact (inR_w _)) (Nat.le_of_ble_eq_true rfl) (Nat.le_of_ble_eq_true rfl)
set_option maxHeartbeats 4000000 in
set_option maxRecDepth 100000 in
theorem c_X11_insert (l : Launch) (hlt : l.stackTraces = false) (g : zG) (v1 : Int) (hv1 : inR v1) (M : zM) (S : zS) (hF : zFx S) {r : Int} {M' : zM} (h : F_X11_insert v1 M = some (r, M')) : zMet l g yX11_insert cX11_insert 3 (some .int) 9 0 0 [zr g 48, .int (zi v1)] M S (.inl (some (.int (zi r)))) M' S (inR r) := by
  refine zMet_of (by decide) hlt [(0, zr g 48), (1, .int (zi v1))] rfl (Nat.le_of_ble_eq_true rfl) (fun K hC hE hN => ?_)
  unfold F_X11_insert at h
  refine j_aload_n hC 0 dX11_insert_0 rfl rfl ?_
  refine j_iconst hC dX11_insert_1 ?_
  obtain ⟨M1, eM1, h⟩ := zlet_ex h
  refine j_put hC dX11_insert_2 f_X11_104 pF_X11 (zFx_kd hF 48 rfl) (Or.inl rfl) rfl 0 rfl (w_id kR_0) kR_0 eM1 ?_
  refine j_aload_n hC 0 dX11_insert_5 rfl rfl ?_
  refine j_iload_n hC 1 dX11_insert_6 rfl rfl ?_
  obtain ⟨r2, M3, hy, h⟩ := zb2_ex h
  refine j_callVi (ci := 8) hC hE lk_X11_332 dX11_insert_7 (c_X11_findInsertion l hlt g v1 hv1 M1 S hF hy) [.int (zi v1)] [] (zFx_kd hF 48 rfl) ⟨_, rfl, by decide, rfl⟩ rfl rfl rfl (zcat (Nat.le_of_ble_eq_true rfl)) (Nat.le_of_ble_eq_true rfl) (Nat.le_of_ble_eq_true rfl) (Nat.le_of_ble_eq_true rfl) (Nat.le_of_ble_eq_true rfl) (fun hp4 => ?_)
  have hr2 := hp4
  refine j_istore_n hC dX11_insert_10 rfl (Nat.le_of_ble_eq_true rfl) rfl ?_
  refine j_iload_n hC 0 dX11_insert_11 rfl rfl ?_
  refine j_if_ge hC dX11_insert_12 rfl (w_id hr2) (fun c5 => ?_) (fun c5 => ?_)
  · have h := zf c5 h
    refine j_aload_n hC 1 dX11_insert_21 rfl rfl ?_
    refine j_aload_n hC 1 dX11_insert_22 rfl rfl ?_
    refine j_get hC dX11_insert_23 f_X11_317 (zFx_kd hF 48 rfl) rfl 29 rfl (fun hg6 => ?_)
    refine j_iload_n hC 0 dX11_insert_26 rfl rfl ?_
    refine j_bipush hC dX11_insert_27 rfl ?_
    refine j_idiv hC dX11_insert_29 (w_id kR_100) (by decide) ?_
    obtain ⟨M7, hy, h⟩ := zb1_ex h
    refine j_callVv (ci := 8) hC hE lk_X11_260 dX11_insert_30 (c_X11_fit l hlt g (M3 48 29) (zdiv r2 100) hg6 (cR_zdiv _ _) M3 S hF hy) [.int (zi (M3 48 29)), .int (zi (zdiv r2 100))] [] (zFx_kd hF 48 rfl) ⟨_, rfl, by decide, rfl⟩ rfl rfl rfl (zcat (Nat.le_of_ble_eq_true rfl)) (Nat.le_of_ble_eq_true rfl) (Nat.le_of_ble_eq_true rfl) (Nat.le_of_ble_eq_true rfl) (Nat.le_of_ble_eq_true rfl) (fun hp8 => ?_)
    refine j_aload_n hC 1 dX11_insert_33 rfl rfl ?_
    refine j_aload_n hC 1 dX11_insert_34 rfl rfl ?_
    refine j_iload_n hC 0 dX11_insert_35 rfl rfl ?_
    refine j_bipush hC dX11_insert_36 rfl ?_
    refine j_idiv hC dX11_insert_38 (w_id kR_100) (by decide) ?_
    refine j_iload_n hC 0 dX11_insert_39 rfl rfl ?_
    refine j_bipush hC dX11_insert_40 rfl ?_
    refine j_idiv hC dX11_insert_42 (w_id kR_10) (by decide) ?_
    refine j_bipush hC dX11_insert_43 rfl ?_
    refine j_irem hC dX11_insert_45 (w_id kR_10) (by decide) ?_
    refine j_iload_n hC 0 dX11_insert_46 rfl rfl ?_
    refine j_bipush hC dX11_insert_47 rfl ?_
    refine j_irem hC dX11_insert_49 (w_id kR_10) (by decide) ?_
    obtain ⟨r9, hy, h⟩ := zb1_ex h
    refine j_callVi (ci := 8) hC hE lk_X11_272 dX11_insert_50 (c_X11_inserted l hlt g (zdiv r2 100) (zrem (zdiv r2 10) 10) (zrem r2 10) (cR_zdiv _ _) (cR_zrem _ _) (cR_zrem _ _) M7 S hF hy) [.int (zi (zdiv r2 100)), .int (zi (zrem (zdiv r2 10) 10)), .int (zi (zrem r2 10))] [zr g 48] (zFx_kd hF 48 rfl) ⟨_, rfl, by decide, rfl⟩ rfl rfl rfl (zcat (Nat.le_of_ble_eq_true rfl)) (Nat.le_of_ble_eq_true rfl) (Nat.le_of_ble_eq_true rfl) (Nat.le_of_ble_eq_true rfl) (Nat.le_of_ble_eq_true rfl) (fun hp10 => ?_)
    have hr9 := hp10
    obtain ⟨M11, eM11, h⟩ := zlet_ex h
    refine j_put hC dX11_insert_53 f_X11_317 pF_X11 (zFx_kd hF 48 rfl) (Or.inl rfl) rfl 29 rfl (w_id hr9) hr9 eM11 ?_
    refine j_iload_n hC 0 dX11_insert_56 rfl rfl ?_
    refine j_bipush hC dX11_insert_57 rfl ?_
    refine j_idiv hC dX11_insert_59 (w_id kR_100) (by decide) ?_
    obtain ⟨e1, e2⟩ := zpr2 (Option.some.inj h)
    exact j_iret hC hE dX11_insert_60 (w_id (cR_zdiv _ _)) (zn_i _) (by rw [← e1]) e2 rfl (by rw [← e1]; exact (cR_zdiv _ _)) (Nat.le_of_ble_eq_true rfl) (Nat.le_of_ble_eq_true rfl)
  · have h := zt c5 h
    refine j_aload_n hC 1 dX11_insert_15 rfl rfl ?_
    refine j_iconst hC dX11_insert_16 ?_
    obtain ⟨r12, M13, hy, h⟩ := zb2_ex h
    refine j_callVi (ci := 8) hC hE lk_X11_134 dX11_insert_17 (c_X11_fail l hlt g 1 kR_1 M3 S hF hy) [.int (zi 1)] [] (zFx_kd hF 48 rfl) ⟨_, rfl, by decide, rfl⟩ rfl rfl rfl (zcat (Nat.le_of_ble_eq_true rfl)) (Nat.le_of_ble_eq_true rfl) (Nat.le_of_ble_eq_true rfl) (Nat.le_of_ble_eq_true rfl) (Nat.le_of_ble_eq_true rfl) (fun hp14 => ?_)
    have hr12 := hp14
    obtain ⟨e1, e2⟩ := zpr2 (Option.some.inj h)
    exact j_iret hC hE dX11_insert_20 (w_id hr12) (zn_i _) (by rw [← e1]) e2 rfl (by rw [← e1]; exact hr12) (Nat.le_of_ble_eq_true rfl) (Nat.le_of_ble_eq_true rfl)
set_option maxHeartbeats 4000000 in
set_option maxRecDepth 100000 in
theorem c_X11_reductions (l : Launch) (hlt : l.stackTraces = false) (g : zG) (M : zM) (S : zS) (hF : zFx S) {r : Int} {M' : zM} (h : F_X11_reductions M = some (r, M')) : zMet l g yX11_reductions cX11_reductions 1 (some .int) 10 0 0 [zr g 48] M S (.inl (some (.int (zi r)))) M' S (inR r) := by
  refine zMet_of (by decide) hlt [(0, zr g 48)] rfl (Nat.le_of_ble_eq_true rfl) (fun K hC hE hN => ?_)
  unfold F_X11_reductions at h
  refine j_aload_n hC 0 dX11_reductions_0 rfl rfl ?_
  refine j_iconst hC dX11_reductions_1 ?_
  obtain ⟨M1, eM1, h⟩ := zlet_ex h
  refine j_put hC dX11_reductions_2 f_X11_104 pF_X11 (zFx_kd hF 48 rfl) (Or.inl rfl) rfl 0 rfl (w_id kR_0) kR_0 eM1 ?_
  refine j_aload_n hC 0 dX11_reductions_5 rfl rfl ?_
  refine j_aload_n hC 0 dX11_reductions_6 rfl rfl ?_
  refine j_get hC dX11_reductions_7 f_X11_317 (zFx_kd hF 48 rfl) rfl 29 rfl (fun hg2 => ?_)
  obtain ⟨r3, M4, hy, h⟩ := zb2_ex h
  refine j_callVi (ci := 8) hC hE lk_X11_335 dX11_reductions_10 (c_X11_countReductions l hlt g (M1 48 29) hg2 M1 S hF hy) [.int (zi (M1 48 29))] [] (zFx_kd hF 48 rfl) ⟨_, rfl, by decide, rfl⟩ rfl rfl rfl (zcat (Nat.le_of_ble_eq_true rfl)) (Nat.le_of_ble_eq_true rfl) (Nat.le_of_ble_eq_true rfl) (Nat.le_of_ble_eq_true rfl) (Nat.le_of_ble_eq_true rfl) (fun hp5 => ?_)
  have hr3 := hp5
  obtain ⟨e1, e2⟩ := zpr2 (Option.some.inj h)
  exact j_iret hC hE dX11_reductions_13 (w_id hr3) (zn_i _) (by rw [← e1]) e2 rfl (by rw [← e1]; exact hr3) (Nat.le_of_ble_eq_true rfl) (Nat.le_of_ble_eq_true rfl)
set_option maxHeartbeats 4000000 in
set_option maxRecDepth 100000 in
theorem c_X11_countAhead (l : Launch) (hlt : l.stackTraces = false) (g : zG) (v1 : Int) (v2 : Int) (hv1 : inR v1) (hv2 : inR v2) (M : zM) (S : zS) (hF : zFx S) {r : Int} (h : F_X11_countAhead v1 v2 M = some r) : zMet l g yX11_countAhead cX11_countAhead 5 (some .int) 1 0 0 [zr g 48, .int (zi v1), .int (zi v2)] M S (.inl (some (.int (zi r)))) M S (inR r) := by
  refine zMet_of (by decide) hlt [(0, zr g 48), (1, .int (zi v1)), (2, .int (zi v2))] rfl (Nat.le_of_ble_eq_true rfl) (fun K hC hE hN => ?_)
  unfold F_X11_countAhead at h
  have J_63 : ∀ (v3 : Int) (hv3 : inR v3) (_ : F_X11_countAhead_J63 v3 M = some r), zJ K g 0 0 63 5 [(3, .int (zi v3))] [] M S := by
    intro v3 hv3 h
    unfold F_X11_countAhead_J63 at h
    refine j_iload_n hC 0 dX11_countAhead_63 rfl rfl ?_
    have e1 := Option.some.inj h
    exact j_iret hC hE dX11_countAhead_64 (w_id hv3) (zn_i _) (by rw [← e1]) rfl rfl (by rw [← e1]; exact hv3) (Nat.le_of_ble_eq_true rfl) (Nat.le_of_ble_eq_true rfl)
  have L_5 : ∀ (v1 : Int) (v2 : Int) (v3 : Int) (v4 : Int) (hv1 : inR v1) (hv2 : inR v2) (hv3 : inR v3) (hv4 : inR v4) (_ : F_X11_countAhead_L5 v1 v2 v3 v4 M = some r), zJ K g 0 0 5 5 [(0, zr g 48), (1, .int (zi v1)), (2, .int (zi v2)), (3, .int (zi v3)), (4, .int (zi v4))] [] M S := by
    intro v1 v2 v3 v4 hv1 hv2 hv3 hv4 h
    unfold F_X11_countAhead_L5 at h
    obtain ⟨ex5, hl, hd5⟩ := zb1_ex h
    obtain ⟨bd5, ebd⟩ : ∃ f, f = (fun (s : Int × Int) => F_X11_countAhead_B5 v1 v2 s.1 s.2 M) := ⟨_, rfl⟩
    rw [← ebd] at hl
    have main : ∀ (n5 : Nat) (v3 : Int) (v4 : Int) (hv3 : inR v3) (hv4 : inR v4) (_ : zloop bd5 n5 (v3, v4) = some ex5), zJ K g 0 0 5 5 [(0, zr g 48), (1, .int (zi v1)), (2, .int (zi v2)), (3, .int (zi v3)), (4, .int (zi v4))] [] M S := by
      intro n5
      induction n5 with
      | zero => intro v3 v4 hv3 hv4 hl; exact zloop_0 hl
      | succ n5 ih5 =>
        have J_55 : ∀ (v4 : Int) (t0 : Int) (t1 : Int) (hv4 : inR v4) (ht0 : inR t0) (ht1 : inR t1) (o : _) (_ : F_X11_countAhead_J55 v1 v2 v4 t0 t1 M = some o), zAft (bd5) n5 ex5 o → zJ K g 0 0 55 5 [(0, zr g 48), (1, .int (zi v1)), (2, .int (zi v2)), (4, .int (zi v4))] [.int (zi t1), .int (zi t0)] M S := by
          intro v4 t0 t1 hv4 ht0 ht1 o h hT
          unfold F_X11_countAhead_J55 at h
          refine j_iadd hC dX11_countAhead_55 ?_
          obtain ⟨x1, ex1, h⟩ := zlet_ex h
          have hx1 : inR x1 := by rw [ex1]; exact inR_w _
          refine j_namei ex1 ?_
          refine j_istore_n hC dX11_countAhead_56 rfl (Nat.le_of_ble_eq_true rfl) rfl ?_
          obtain ⟨x2, ex2, h⟩ := zlet_ex h
          have hx2 : inR x2 := by rw [ex2]; exact inR_w _
          refine j_iinc hC 4 dX11_countAhead_57 rfl ex2 (Nat.le_of_ble_eq_true rfl) rfl ?_
          refine j_goto hC dX11_countAhead_60 rfl ?_
          obtain rfl := Option.some.inj h
          refine j_sub [2, 3, 4, 1, 0] rfl ?_
          exact ih5 x1 x2 hx1 hx2 hT
        have J_50 : ∀ (v4 : Int) (t0 : Int) (hv4 : inR v4) (ht0 : inR t0) (o : _) (_ : F_X11_countAhead_J50 v1 v2 v4 t0 M = some o), zAft (bd5) n5 ex5 o → zJ K g 0 0 50 5 [(0, zr g 48), (1, .int (zi v1)), (2, .int (zi v2)), (4, .int (zi v4))] [.int (zi t0)] M S := by
          intro v4 t0 hv4 ht0 o h hT
          unfold F_X11_countAhead_J50 at h
          refine j_iconst hC dX11_countAhead_50 ?_
          refine j_goto hC dX11_countAhead_51 rfl ?_
          exact J_55 v4 t0 1 hv4 ht0 kR_1 _ h hT
        have J_54 : ∀ (v4 : Int) (t0 : Int) (hv4 : inR v4) (ht0 : inR t0) (o : _) (_ : F_X11_countAhead_J54 v1 v2 v4 t0 M = some o), zAft (bd5) n5 ex5 o → zJ K g 0 0 54 5 [(0, zr g 48), (1, .int (zi v1)), (2, .int (zi v2)), (4, .int (zi v4))] [.int (zi t0)] M S := by
          intro v4 t0 hv4 ht0 o h hT
          unfold F_X11_countAhead_J54 at h
          refine j_iconst hC dX11_countAhead_54 ?_
          exact J_55 v4 t0 0 hv4 ht0 kR_0 _ h hT
        intro v3 v4 hv3 hv4 hl
        obtain ⟨o, h, hT⟩ := zloop_ex hl
        have h : F_X11_countAhead_B5 v1 v2 v3 v4 M = some o := by rw [ebd] at h; exact h
        unfold F_X11_countAhead_B5 at h
        refine j_iload hC 4 dX11_countAhead_5 rfl ?_
        refine j_iload_n hC 2 dX11_countAhead_7 rfl rfl ?_
        refine j_icmp_ge hC dX11_countAhead_8 rfl (w_id hv4) (w_id hv2) (fun c3 => ?_) (fun c3 => ?_)
        · have h := zf c3 h
          obtain rfl := Option.some.inj h
          have hx5 := hd5
          rw [← show _ = ex5 from hT] at hx5
          refine j_sub [3] rfl ?_
          exact J_63 v3 hv3 hx5
        · have h := zt c3 h
          refine j_iload_n hC 3 dX11_countAhead_11 rfl rfl ?_
          refine j_aload_n hC 0 dX11_countAhead_12 rfl rfl ?_
          refine j_getq (q := 66) hC dX11_countAhead_13 f_X11_74 (zFx_kd hF 48 rfl) rfl 33 rfl (zFx_rf hF 48 33 rfl) ?_
          refine j_iload hC 4 dX11_countAhead_16 rfl ?_
          obtain ⟨c4, h⟩ := zchk_ex h
          refine j_iald (n := 500) hC dX11_countAhead_18 (w_id hv4) (zFx_kd hF 66 rfl) (zFx_ln hF 66 rfl) c4.1 c4.2 (fun hg5 => ?_)
          refine j_aload_n hC 0 dX11_countAhead_19 rfl rfl ?_
          refine j_getq (q := 66) hC dX11_countAhead_20 f_X11_74 (zFx_kd hF 48 rfl) rfl 33 rfl (zFx_rf hF 48 33 rfl) ?_
          refine j_iload_n hC 1 dX11_countAhead_23 rfl rfl ?_
          obtain ⟨c6, h⟩ := zchk_ex h
          refine j_iald (n := 500) hC dX11_countAhead_24 (w_id hv1) (zFx_kd hF 66 rfl) (zFx_ln hF 66 rfl) c6.1 c6.2 (fun hg7 => ?_)
          refine j_icmp_lt hC dX11_countAhead_25 rfl (w_id hg5) (w_id hg7) (fun c8 => ?_) (fun c8 => ?_)
          · have h := zt c8 h
            refine j_sub [0, 1, 2, 4] rfl ?_
            exact J_50 v4 v3 hv4 hv3 _ h hT
          · have h := zf c8 h
            refine j_aload_n hC 0 dX11_countAhead_28 rfl rfl ?_
            refine j_getq (q := 66) hC dX11_countAhead_29 f_X11_74 (zFx_kd hF 48 rfl) rfl 33 rfl (zFx_rf hF 48 33 rfl) ?_
            refine j_iload hC 4 dX11_countAhead_32 rfl ?_
            obtain ⟨c9, h⟩ := zchk_ex h
            refine j_iald (n := 500) hC dX11_countAhead_34 (w_id hv4) (zFx_kd hF 66 rfl) (zFx_ln hF 66 rfl) c9.1 c9.2 (fun hg10 => ?_)
            refine j_aload_n hC 0 dX11_countAhead_35 rfl rfl ?_
            refine j_getq (q := 66) hC dX11_countAhead_36 f_X11_74 (zFx_kd hF 48 rfl) rfl 33 rfl (zFx_rf hF 48 33 rfl) ?_
            refine j_iload_n hC 1 dX11_countAhead_39 rfl rfl ?_
            obtain ⟨c11, h⟩ := zchk_ex h
            refine j_iald (n := 500) hC dX11_countAhead_40 (w_id hv1) (zFx_kd hF 66 rfl) (zFx_ln hF 66 rfl) c11.1 c11.2 (fun hg12 => ?_)
            refine j_icmp_ne hC dX11_countAhead_41 rfl (w_id hg10) (w_id hg12) (fun c13 => ?_) (fun c13 => ?_)
            · have h := zf c13 h
              refine j_sub [0, 1, 2, 4] rfl ?_
              exact J_54 v4 v3 hv4 hv3 _ h hT
            · have h := zt c13 h
              refine j_iload hC 4 dX11_countAhead_44 rfl ?_
              refine j_iload_n hC 1 dX11_countAhead_46 rfl rfl ?_
              refine j_icmp_ge hC dX11_countAhead_47 rfl (w_id hv4) (w_id hv1) (fun c14 => ?_) (fun c14 => ?_)
              · have h := zf c14 h
                refine j_sub [0, 1, 2, 4] rfl ?_
                exact J_54 v4 v3 hv4 hv3 _ h hT
              · have h := zt c14 h
                refine j_sub [0, 1, 2, 4] rfl ?_
                exact J_50 v4 v3 hv4 hv3 _ h hT
    exact main zN v3 v4 hv3 hv4 hl
  refine j_iconst hC dX11_countAhead_0 ?_
  refine j_istore_n hC dX11_countAhead_1 rfl (Nat.le_of_ble_eq_true rfl) rfl ?_
  refine j_iconst hC dX11_countAhead_2 ?_
  refine j_istore hC dX11_countAhead_3 (Nat.le_of_ble_eq_true rfl) rfl ?_
  refine j_sub [2, 3, 4, 1, 0] rfl ?_
  exact L_5 v1 v2 0 0 hv1 hv2 kR_0 kR_0 h
set_option maxHeartbeats 4000000 in
set_option maxRecDepth 100000 in
theorem c_X11_reduce (l : Launch) (hlt : l.stackTraces = false) (g : zG) (v1 : Int) (hv1 : inR v1) (M : zM) (S : zS) (hF : zFx S) {r : Int} {M' : zM} (h : F_X11_reduce v1 M = some (r, M')) : zMet l g yX11_reduce cX11_reduce 4 (some .int) 10 0 0 [zr g 48, .int (zi v1)] M S (.inl (some (.int (zi r)))) M' S (inR r) := by
  refine zMet_of (by decide) hlt [(0, zr g 48), (1, .int (zi v1))] rfl (Nat.le_of_ble_eq_true rfl) (fun K hC hE hN => ?_)
  unfold F_X11_reduce at h
  have J_121 : ∀ (v3 : Int) (hv3 : inR v3) (M : zM) (_ : F_X11_reduce_J121 v3 M = some (r, M')), zJ K g 0 0 121 4 [(0, zr g 48), (3, .int (zi v3))] [] M S := by
    intro v3 hv3 M h
    unfold F_X11_reduce_J121 at h
    refine j_aload_n hC 0 dX11_reduce_121 rfl rfl ?_
    refine j_aload_n hC 0 dX11_reduce_122 rfl rfl ?_
    refine j_getq (q := 66) hC dX11_reduce_123 f_X11_74 (zFx_kd hF 48 rfl) rfl 33 rfl (zFx_rf hF 48 33 rfl) ?_
    refine j_iload_n hC 1 dX11_reduce_126 rfl rfl ?_
    obtain ⟨c1, h⟩ := zchk_ex h
    refine j_iald (n := 500) hC dX11_reduce_127 (w_id hv3) (zFx_kd hF 66 rfl) (zFx_ln hF 66 rfl) c1.1 c1.2 (fun hg2 => ?_)
    obtain ⟨M3, eM3, h⟩ := zlet_ex h
    refine j_put hC dX11_reduce_128 f_X11_317 pF_X11 (zFx_kd hF 48 rfl) (Or.inl rfl) rfl 29 rfl (w_id hg2) hg2 eM3 ?_
    refine j_aload_n hC 0 dX11_reduce_131 rfl rfl ?_
    refine j_getq (q := 65) hC dX11_reduce_132 f_X11_71 (zFx_kd hF 48 rfl) rfl 32 rfl (zFx_rf hF 48 32 rfl) ?_
    refine j_iload_n hC 1 dX11_reduce_135 rfl rfl ?_
    obtain ⟨c4, h⟩ := zchk_ex h
    refine j_iald (n := 500) hC dX11_reduce_136 (w_id hv3) (zFx_kd hF 65 rfl) (zFx_ln hF 65 rfl) c4.1 c4.2 (fun hg5 => ?_)
    refine j_bipush hC dX11_reduce_137 rfl ?_
    refine j_idiv hC dX11_reduce_139 (w_id kR_100) (by decide) ?_
    obtain ⟨e1, e2⟩ := zpr2 (Option.some.inj h)
    exact j_iret hC hE dX11_reduce_140 (w_id (cR_zdiv _ _)) (zn_i _) (by rw [← e1]) e2 rfl (by rw [← e1]; exact (cR_zdiv _ _)) (Nat.le_of_ble_eq_true rfl) (Nat.le_of_ble_eq_true rfl)
  have L_105 : ∀ (v1 : Int) (v2 : Int) (v3 : Int) (hv1 : inR v1) (hv2 : inR v2) (hv3 : inR v3) (M : zM) (_ : F_X11_reduce_L105 v1 v2 v3 M = some (r, M')), zJ K g 0 0 105 4 [(0, zr g 48), (1, .int (zi v1)), (2, .int (zi v2)), (3, .int (zi v3))] [] M S := by
    intro v1 v2 v3 hv1 hv2 hv3 M h
    unfold F_X11_reduce_L105 at h
    obtain ⟨ex105, hl, hd105⟩ := zb1_ex h
    obtain ⟨bd105, ebd⟩ : ∃ f, f = (fun (s : Int) => F_X11_reduce_B105 v1 v2 s M) := ⟨_, rfl⟩
    rw [← ebd] at hl
    have main : ∀ (n105 : Nat) (v3 : Int) (hv3 : inR v3) (_ : zloop bd105 n105 v3 = some ex105), zJ K g 0 0 105 4 [(0, zr g 48), (1, .int (zi v1)), (2, .int (zi v2)), (3, .int (zi v3))] [] M S := by
      intro n105
      induction n105 with
      | zero => intro v3 hv3 hl; exact zloop_0 hl
      | succ n105 ih105 =>
        intro v3 hv3 hl
        obtain ⟨o, h, hT⟩ := zloop_ex hl
        have h : F_X11_reduce_B105 v1 v2 v3 M = some o := by rw [ebd] at h; exact h
        unfold F_X11_reduce_B105 at h
        refine j_aload_n hC 0 dX11_reduce_105 rfl rfl ?_
        refine j_iload_n hC 3 dX11_reduce_106 rfl rfl ?_
        refine j_iload_n hC 2 dX11_reduce_107 rfl rfl ?_
        obtain ⟨r6, hy, h⟩ := zb1_ex h
        refine j_callVi (ci := 8) hC hE lk_X11_338 dX11_reduce_108 (c_X11_countAhead l hlt g v3 v2 hv3 hv2 M S hF hy) [.int (zi v3), .int (zi v2)] [] (zFx_kd hF 48 rfl) ⟨_, rfl, by decide, rfl⟩ rfl rfl rfl (zcat (Nat.le_of_ble_eq_true rfl)) (Nat.le_of_ble_eq_true rfl) (Nat.le_of_ble_eq_true rfl) (Nat.le_of_ble_eq_true rfl) (Nat.le_of_ble_eq_true rfl) (fun hp7 => ?_)
        have hr6 := hp7
        refine j_iload_n hC 1 dX11_reduce_111 rfl rfl ?_
        refine j_icmp_eq hC dX11_reduce_112 rfl (w_id hr6) (w_id hv1) (fun c8 => ?_) (fun c8 => ?_)
        · have h := zt c8 h
          obtain rfl := Option.some.inj h
          have hx105 := hd105
          rw [← show _ = ex105 from hT] at hx105
          refine j_sub [0, 3] rfl ?_
          exact J_121 v3 hv3 M hx105
        · have h := zf c8 h
          obtain ⟨x9, ex9, h⟩ := zlet_ex h
          have hx9 : inR x9 := by rw [ex9]; exact inR_w _
          refine j_iinc hC 3 dX11_reduce_115 rfl ex9 (Nat.le_of_ble_eq_true rfl) rfl ?_
          refine j_goto hC dX11_reduce_118 rfl ?_
          obtain rfl := Option.some.inj h
          refine j_sub [1, 2, 3, 0] rfl ?_
          exact ih105 x9 hx9 hT
    exact main zN v3 hv3 hl
  have J_103 : ∀ (v1 : Int) (v2 : Int) (hv1 : inR v1) (hv2 : inR v2) (M : zM) (_ : F_X11_reduce_J103 v1 v2 M = some (r, M')), zJ K g 0 0 103 4 [(0, zr g 48), (1, .int (zi v1)), (2, .int (zi v2))] [] M S := by
    intro v1 v2 hv1 hv2 M h
    unfold F_X11_reduce_J103 at h
    refine j_iconst hC dX11_reduce_103 ?_
    refine j_istore_n hC dX11_reduce_104 rfl (Nat.le_of_ble_eq_true rfl) rfl ?_
    refine j_sub [1, 2, 3, 0] rfl ?_
    exact L_105 v1 v2 0 hv1 hv2 kR_0 M h
  have L_33 : ∀ (v1 : Int) (v2 : Int) (v3 : Int) (hv1 : inR v1) (hv2 : inR v2) (hv3 : inR v3) (M : zM) (_ : F_X11_reduce_L33 v1 v2 v3 M = some (r, M')), zJ K g 0 0 33 4 [(0, zr g 48), (1, .int (zi v1)), (2, .int (zi v2)), (3, .int (zi v3))] [] M S := by
    intro v1 v2 v3 hv1 hv2 hv3 M h
    unfold F_X11_reduce_L33 at h
    obtain ⟨ex33, hl, hd33⟩ := zb1_ex h
    obtain ⟨bd33, ebd⟩ : ∃ f, f = (fun (s : Int × Int × zM) => F_X11_reduce_B33 v1 s.1 s.2.1 s.2.2) := ⟨_, rfl⟩
    rw [← ebd] at hl
    have main : ∀ (n33 : Nat) (v2 : Int) (v3 : Int) (hv2 : inR v2) (hv3 : inR v3) (M : zM) (_ : zloop bd33 n33 (v2, v3, M) = some ex33), zJ K g 0 0 33 4 [(0, zr g 48), (1, .int (zi v1)), (2, .int (zi v2)), (3, .int (zi v3))] [] M S := by
      intro n33
      induction n33 with
      | zero => intro v2 v3 hv2 hv3 M hl; exact zloop_0 hl
      | succ n33 ih33 =>
        have J_97 : ∀ (v2 : Int) (v3 : Int) (hv2 : inR v2) (hv3 : inR v3) (M : zM) (o : _) (_ : F_X11_reduce_J97 v1 v2 v3 M = some o), zAft (bd33) n33 ex33 o → zJ K g 0 0 97 4 [(0, zr g 48), (1, .int (zi v1)), (2, .int (zi v2)), (3, .int (zi v3))] [] M S := by
          intro v2 v3 hv2 hv3 M o h hT
          unfold F_X11_reduce_J97 at h
          obtain ⟨x10, ex10, h⟩ := zlet_ex h
          have hx10 : inR x10 := by rw [ex10]; exact inR_w _
          refine j_iinc hC 3 dX11_reduce_97 rfl ex10 (Nat.le_of_ble_eq_true rfl) rfl ?_
          refine j_goto hC dX11_reduce_100 rfl ?_
          obtain rfl := Option.some.inj h
          refine j_sub [1, 2, 3, 0] rfl ?_
          exact ih33 v2 x10 hv2 hx10 M hT
        intro v2 v3 hv2 hv3 M hl
        obtain ⟨o, h, hT⟩ := zloop_ex hl
        have h : F_X11_reduce_B33 v1 v2 v3 M = some o := by rw [ebd] at h; exact h
        unfold F_X11_reduce_B33 at h
        refine j_iload_n hC 3 dX11_reduce_33 rfl rfl ?_
        refine j_bipush hC dX11_reduce_34 rfl ?_
        refine j_aload_n hC 0 dX11_reduce_36 rfl rfl ?_
        refine j_get hC dX11_reduce_37 f_X11_121 (zFx_kd hF 48 rfl) rfl 7 rfl (fun hg11 => ?_)
        refine j_imul hC dX11_reduce_40 ?_
        refine j_icmp_ge hC dX11_reduce_41 rfl (w_id hv3) rfl (fun c12 => ?_) (fun c12 => ?_)
        · have h := zf c12 h
          obtain rfl := Option.some.inj h
          have hx33 := hd33
          rw [← show _ = ex33 from hT] at hx33
          refine j_sub [0, 1, 2] rfl ?_
          exact J_103 v1 v2 hv1 hv2 M hx33
        · have h := zt c12 h
          refine j_iload_n hC 3 dX11_reduce_44 rfl rfl ?_
          obtain ⟨r13, hy, h⟩ := zb1_ex h
          refine j_callSi hC hE lk_X11_307 dX11_reduce_45 (c_X11_isPlace l hlt g v3 hv3 M S hy) [.int (zi v3)] [] rfl rfl rfl (zcat (Nat.le_of_ble_eq_true rfl)) (Nat.le_of_ble_eq_true rfl) (Nat.le_of_ble_eq_true rfl) (Nat.le_of_ble_eq_true rfl) (Nat.le_of_ble_eq_true rfl) (fun hp14 => ?_)
          have hr13 := hp14
          refine j_if_eq hC dX11_reduce_48 rfl (w_id hr13) (fun c15 => ?_) (fun c15 => ?_)
          · have h := zt c15 h
            exact J_97 v2 v3 hv2 hv3 M _ h hT
          · have h := zf c15 h
            refine j_aload_n hC 0 dX11_reduce_51 rfl rfl ?_
            refine j_aload_n hC 0 dX11_reduce_52 rfl rfl ?_
            refine j_get hC dX11_reduce_53 f_X11_317 (zFx_kd hF 48 rfl) rfl 29 rfl (fun hg16 => ?_)
            refine j_iload_n hC 3 dX11_reduce_56 rfl rfl ?_
            refine j_bipush hC dX11_reduce_57 rfl ?_
            refine j_idiv hC dX11_reduce_59 (w_id kR_100) (by decide) ?_
            refine j_iload_n hC 3 dX11_reduce_60 rfl rfl ?_
            refine j_bipush hC dX11_reduce_61 rfl ?_
            refine j_idiv hC dX11_reduce_63 (w_id kR_10) (by decide) ?_
            refine j_bipush hC dX11_reduce_64 rfl ?_
            refine j_irem hC dX11_reduce_66 (w_id kR_10) (by decide) ?_
            refine j_iload_n hC 3 dX11_reduce_67 rfl rfl ?_
            refine j_bipush hC dX11_reduce_68 rfl ?_
            refine j_irem hC dX11_reduce_70 (w_id kR_10) (by decide) ?_
            obtain ⟨r17, M18, hy, h⟩ := zb2_ex h
            refine j_callVi (ci := 8) hC hE lk_X11_310 dX11_reduce_71 (c_X11_reduces l hlt g (M 48 29) (zdiv v3 100) (zrem (zdiv v3 10) 10) (zrem v3 10) hg16 (cR_zdiv _ _) (cR_zrem _ _) (cR_zrem _ _) M S hF hy) [.int (zi (M 48 29)), .int (zi (zdiv v3 100)), .int (zi (zrem (zdiv v3 10) 10)), .int (zi (zrem v3 10))] [] (zFx_kd hF 48 rfl) ⟨_, rfl, by decide, rfl⟩ rfl rfl rfl (zcat (Nat.le_of_ble_eq_true rfl)) (Nat.le_of_ble_eq_true rfl) (Nat.le_of_ble_eq_true rfl) (Nat.le_of_ble_eq_true rfl) (Nat.le_of_ble_eq_true rfl) (fun hp19 => ?_)
            have hr17 := hp19
            refine j_if_eq hC dX11_reduce_74 rfl (w_id hr17) (fun c20 => ?_) (fun c20 => ?_)
            · have h := zt c20 h
              exact J_97 v2 v3 hv2 hv3 M18 _ h hT
            · have h := zf c20 h
              refine j_aload_n hC 0 dX11_reduce_77 rfl rfl ?_
              refine j_getq (q := 65) hC dX11_reduce_78 f_X11_71 (zFx_kd hF 48 rfl) rfl 32 rfl (zFx_rf hF 48 32 rfl) ?_
              refine j_iload_n hC 2 dX11_reduce_81 rfl rfl ?_
              refine j_iload_n hC 3 dX11_reduce_82 rfl rfl ?_
              obtain ⟨c21, h⟩ := zchk_ex h
              obtain ⟨M22, eM22, h⟩ := zlet_ex h
              refine j_iast (n := 500) hC dX11_reduce_83 (w_id hv2) (w_id hv3) hv3 (zFx_kd hF 65 rfl) (zFx_ln hF 65 rfl) c21.1 c21.2 eM22 ?_
              refine j_aload_n hC 0 dX11_reduce_84 rfl rfl ?_
              refine j_getq (q := 66) hC dX11_reduce_85 f_X11_74 (zFx_kd hF 48 rfl) rfl 33 rfl (zFx_rf hF 48 33 rfl) ?_
              refine j_iload_n hC 2 dX11_reduce_88 rfl rfl ?_
              refine j_aload_n hC 0 dX11_reduce_89 rfl rfl ?_
              refine j_get hC dX11_reduce_90 f_X11_304 (zFx_kd hF 48 rfl) rfl 26 rfl (fun hg23 => ?_)
              obtain ⟨c24, h⟩ := zchk_ex h
              obtain ⟨M25, eM25, h⟩ := zlet_ex h
              refine j_iast (n := 500) hC dX11_reduce_93 (w_id hv2) (w_id hg23) hg23 (zFx_kd hF 66 rfl) (zFx_ln hF 66 rfl) c24.1 c24.2 eM25 ?_
              obtain ⟨x26, ex26, h⟩ := zlet_ex h
              have hx26 : inR x26 := by rw [ex26]; exact inR_w _
              refine j_iinc hC 2 dX11_reduce_94 rfl ex26 (Nat.le_of_ble_eq_true rfl) rfl ?_
              refine j_sub [1, 2, 0, 3] rfl ?_
              exact J_97 x26 v3 hx26 hv3 M25 _ h hT
    exact main zN v2 v3 hv2 hv3 M hl
  refine j_aload_n hC 0 dX11_reduce_0 rfl rfl ?_
  refine j_iconst hC dX11_reduce_1 ?_
  obtain ⟨M27, eM27, h⟩ := zlet_ex h
  refine j_put hC dX11_reduce_2 f_X11_104 pF_X11 (zFx_kd hF 48 rfl) (Or.inl rfl) rfl 0 rfl (w_id kR_0) kR_0 eM27 ?_
  refine j_iload_n hC 1 dX11_reduce_5 rfl rfl ?_
  refine j_iconst hC dX11_reduce_6 ?_
  refine j_aload_n hC 0 dX11_reduce_7 rfl rfl ?_
  refine j_aload_n hC 0 dX11_reduce_8 rfl rfl ?_
  refine j_get hC dX11_reduce_9 f_X11_317 (zFx_kd hF 48 rfl) rfl 29 rfl (fun hg28 => ?_)
  obtain ⟨r29, M30, hy, h⟩ := zb2_ex h
  refine j_callVi (ci := 8) hC hE lk_X11_335 dX11_reduce_12 (c_X11_countReductions l hlt g (M27 48 29) hg28 M27 S hF hy) [.int (zi (M27 48 29))] [.int (zi 0), .int (zi v1)] (zFx_kd hF 48 rfl) ⟨_, rfl, by decide, rfl⟩ rfl rfl rfl (zcat (Nat.le_of_ble_eq_true rfl)) (Nat.le_of_ble_eq_true rfl) (Nat.le_of_ble_eq_true rfl) (Nat.le_of_ble_eq_true rfl) (Nat.le_of_ble_eq_true rfl) (fun hp31 => ?_)
  have hr29 := hp31
  refine j_iconst hC dX11_reduce_15 ?_
  refine j_isub hC dX11_reduce_16 ?_
  obtain ⟨r32, hy, h⟩ := zb1_ex h
  refine j_callSi hC hE lk_X11_124 dX11_reduce_17 (c_X11_isIn l hlt g v1 0 (w (r29 - 1)) hv1 kR_0 (inR_w _) M30 S hy) [.int (zi v1), .int (zi 0), .int (zi (r29 - 1))] [] rfl (by simp only [zi_w, zl_wl]) rfl (zcat (Nat.le_of_ble_eq_true rfl)) (Nat.le_of_ble_eq_true rfl) (Nat.le_of_ble_eq_true rfl) (Nat.le_of_ble_eq_true rfl) (Nat.le_of_ble_eq_true rfl) (fun hp33 => ?_)
  have hr32 := hp33
  refine j_if_ne hC dX11_reduce_20 rfl (w_id hr32) (fun c34 => ?_) (fun c34 => ?_)
  · have h := zf c34 h
    refine j_iconst hC dX11_reduce_29 ?_
    refine j_istore_n hC dX11_reduce_30 rfl (Nat.le_of_ble_eq_true rfl) rfl ?_
    refine j_iconst hC dX11_reduce_31 ?_
    refine j_istore_n hC dX11_reduce_32 rfl (Nat.le_of_ble_eq_true rfl) rfl ?_
    refine j_sub [2, 3, 1, 0] rfl ?_
    exact L_33 v1 0 0 hv1 kR_0 kR_0 M30 h
  · have h := zt c34 h
    refine j_aload_n hC 0 dX11_reduce_23 rfl rfl ?_
    refine j_iconst hC dX11_reduce_24 ?_
    obtain ⟨r35, M36, hy, h⟩ := zb2_ex h
    refine j_callVi (ci := 8) hC hE lk_X11_134 dX11_reduce_25 (c_X11_fail l hlt g 1 kR_1 M30 S hF hy) [.int (zi 1)] [] (zFx_kd hF 48 rfl) ⟨_, rfl, by decide, rfl⟩ rfl rfl rfl (zcat (Nat.le_of_ble_eq_true rfl)) (Nat.le_of_ble_eq_true rfl) (Nat.le_of_ble_eq_true rfl) (Nat.le_of_ble_eq_true rfl) (Nat.le_of_ble_eq_true rfl) (fun hp37 => ?_)
    have hr35 := hp37
    obtain ⟨e1, e2⟩ := zpr2 (Option.some.inj h)
    exact j_iret hC hE dX11_reduce_28 (w_id hr35) (zn_i _) (by rw [← e1]) e2 rfl (by rw [← e1]; exact hr35) (Nat.le_of_ble_eq_true rfl) (Nat.le_of_ble_eq_true rfl)
set_option maxHeartbeats 4000000 in
set_option maxRecDepth 100000 in
theorem c_X11_countForms (l : Launch) (hlt : l.stackTraces = false) (g : zG) (M : zM) (S : zS) (hF : zFx S) {r : Int} (h : F_X11_countForms M = some r) : zMet l g yX11_countForms cX11_countForms 3 (some .int) 1 0 0 [zr g 48] M S (.inl (some (.int (zi r)))) M S (inR r) := by
  refine zMet_of (by decide) hlt [(0, zr g 48)] rfl (Nat.le_of_ble_eq_true rfl) (fun K hC hE hN => ?_)
  unfold F_X11_countForms at h
  have J_27 : ∀ (v1 : Int) (hv1 : inR v1) (_ : F_X11_countForms_J27 v1 M = some r), zJ K g 0 0 27 3 [(1, .int (zi v1))] [] M S := by
    intro v1 hv1 h
    unfold F_X11_countForms_J27 at h
    refine j_iload_n hC 0 dX11_countForms_27 rfl rfl ?_
    have e1 := Option.some.inj h
    exact j_iret hC hE dX11_countForms_28 (w_id hv1) (zn_i _) (by rw [← e1]) rfl rfl (by rw [← e1]; exact hv1) (Nat.le_of_ble_eq_true rfl) (Nat.le_of_ble_eq_true rfl)
  have L_4 : ∀ (v1 : Int) (v2 : Int) (hv1 : inR v1) (hv2 : inR v2) (_ : F_X11_countForms_L4 v1 v2 M = some r), zJ K g 0 0 4 3 [(0, zr g 48), (1, .int (zi v1)), (2, .int (zi v2))] [] M S := by
    intro v1 v2 hv1 hv2 h
    unfold F_X11_countForms_L4 at h
    obtain ⟨ex4, hl, hd4⟩ := zb1_ex h
    obtain ⟨bd4, ebd⟩ : ∃ f, f = (fun (s : Int × Int) => F_X11_countForms_B4 s.1 s.2 M) := ⟨_, rfl⟩
    rw [← ebd] at hl
    have main : ∀ (n4 : Nat) (v1 : Int) (v2 : Int) (hv1 : inR v1) (hv2 : inR v2) (_ : zloop bd4 n4 (v1, v2) = some ex4), zJ K g 0 0 4 3 [(0, zr g 48), (1, .int (zi v1)), (2, .int (zi v2))] [] M S := by
      intro n4
      induction n4 with
      | zero => intro v1 v2 hv1 hv2 hl; exact zloop_0 hl
      | succ n4 ih4 =>
        intro v1 v2 hv1 hv2 hl
        obtain ⟨o, h, hT⟩ := zloop_ex hl
        have h : F_X11_countForms_B4 v1 v2 M = some o := by rw [ebd] at h; exact h
        unfold F_X11_countForms_B4 at h
        refine j_iload_n hC 2 dX11_countForms_4 rfl rfl ?_
        refine j_aload_n hC 0 dX11_countForms_5 rfl rfl ?_
        refine j_get hC dX11_countForms_6 f_X11_317 (zFx_kd hF 48 rfl) rfl 29 rfl (fun hg1 => ?_)
        refine j_icmp_gt hC dX11_countForms_9 rfl (w_id hv2) (w_id hg1) (fun c2 => ?_) (fun c2 => ?_)
        · have h := zt c2 h
          obtain rfl := Option.some.inj h
          have hx4 := hd4
          rw [← show _ = ex4 from hT] at hx4
          refine j_sub [1] rfl ?_
          exact J_27 v1 hv1 hx4
        · have h := zf c2 h
          refine j_iload_n hC 1 dX11_countForms_12 rfl rfl ?_
          refine j_aload_n hC 0 dX11_countForms_13 rfl rfl ?_
          refine j_getq (q := 62) hC dX11_countForms_14 f_X11_61 (zFx_kd hF 48 rfl) rfl 28 rfl (zFx_rf hF 48 28 rfl) ?_
          refine j_iload_n hC 2 dX11_countForms_17 rfl rfl ?_
          obtain ⟨c3, h⟩ := zchk_ex h
          refine j_iald (n := 29524) hC dX11_countForms_18 (w_id hv2) (zFx_kd hF 62 rfl) (zFx_ln hF 62 rfl) c3.1 c3.2 (fun hg4 => ?_)
          refine j_iadd hC dX11_countForms_19 ?_
          obtain ⟨x5, ex5, h⟩ := zlet_ex h
          have hx5 : inR x5 := by rw [ex5]; exact inR_w _
          refine j_namei ex5 ?_
          refine j_istore_n hC dX11_countForms_20 rfl (Nat.le_of_ble_eq_true rfl) rfl ?_
          obtain ⟨x6, ex6, h⟩ := zlet_ex h
          have hx6 : inR x6 := by rw [ex6]; exact inR_w _
          refine j_iinc hC 2 dX11_countForms_21 rfl ex6 (Nat.le_of_ble_eq_true rfl) rfl ?_
          refine j_goto hC dX11_countForms_24 rfl ?_
          obtain rfl := Option.some.inj h
          refine j_sub [2, 1, 0] rfl ?_
          exact ih4 x5 x6 hx5 hx6 hT
    exact main zN v1 v2 hv1 hv2 hl
  refine j_iconst hC dX11_countForms_0 ?_
  refine j_istore_n hC dX11_countForms_1 rfl (Nat.le_of_ble_eq_true rfl) rfl ?_
  refine j_iconst hC dX11_countForms_2 ?_
  refine j_istore_n hC dX11_countForms_3 rfl (Nat.le_of_ble_eq_true rfl) rfl ?_
  refine j_sub [2, 1, 0] rfl ?_
  exact L_4 0 0 kR_0 kR_0 h
set_option maxHeartbeats 4000000 in
set_option maxRecDepth 100000 in
theorem c_X11_normalForms (l : Launch) (hlt : l.stackTraces = false) (g : zG) (M : zM) (S : zS) (hF : zFx S) {r : Int} {M' : zM} (h : F_X11_normalForms M = some (r, M')) : zMet l g yX11_normalForms cX11_normalForms 1 (some .int) 10 0 0 [zr g 48] M S (.inl (some (.int (zi r)))) M' S (inR r) := by
  refine zMet_of (by decide) hlt [(0, zr g 48)] rfl (Nat.le_of_ble_eq_true rfl) (fun K hC hE hN => ?_)
  unfold F_X11_normalForms at h
  refine j_aload_n hC 0 dX11_normalForms_0 rfl rfl ?_
  refine j_iconst hC dX11_normalForms_1 ?_
  obtain ⟨M1, eM1, h⟩ := zlet_ex h
  refine j_put hC dX11_normalForms_2 f_X11_104 pF_X11 (zFx_kd hF 48 rfl) (Or.inl rfl) rfl 0 rfl (w_id kR_0) kR_0 eM1 ?_
  refine j_aload_n hC 0 dX11_normalForms_5 rfl rfl ?_
  refine j_aload_n hC 0 dX11_normalForms_6 rfl rfl ?_
  refine j_get hC dX11_normalForms_7 f_X11_317 (zFx_kd hF 48 rfl) rfl 29 rfl (fun hg2 => ?_)
  obtain ⟨M3, hy, h⟩ := zb1_ex h
  refine j_callVv (ci := 8) hC hE lk_X11_341 dX11_normalForms_10 (c_X11_meet l hlt g (M1 48 29) hg2 M1 S hF hy) [.int (zi (M1 48 29))] [] (zFx_kd hF 48 rfl) ⟨_, rfl, by decide, rfl⟩ rfl rfl rfl (zcat (Nat.le_of_ble_eq_true rfl)) (Nat.le_of_ble_eq_true rfl) (Nat.le_of_ble_eq_true rfl) (Nat.le_of_ble_eq_true rfl) (Nat.le_of_ble_eq_true rfl) (fun hp4 => ?_)
  refine j_aload_n hC 0 dX11_normalForms_13 rfl rfl ?_
  obtain ⟨r5, hy, h⟩ := zb1_ex h
  refine j_callVi (ci := 8) hC hE lk_X11_344 dX11_normalForms_14 (c_X11_countForms l hlt g M3 S hF hy) [] [] (zFx_kd hF 48 rfl) ⟨_, rfl, by decide, rfl⟩ rfl rfl rfl (zcat (Nat.le_of_ble_eq_true rfl)) (Nat.le_of_ble_eq_true rfl) (Nat.le_of_ble_eq_true rfl) (Nat.le_of_ble_eq_true rfl) (Nat.le_of_ble_eq_true rfl) (fun hp6 => ?_)
  have hr5 := hp6
  obtain ⟨e1, e2⟩ := zpr2 (Option.some.inj h)
  exact j_iret hC hE dX11_normalForms_17 (w_id hr5) (zn_i _) (by rw [← e1]) e2 rfl (by rw [← e1]; exact hr5) (Nat.le_of_ble_eq_true rfl) (Nat.le_of_ble_eq_true rfl)
set_option maxHeartbeats 4000000 in
set_option maxRecDepth 100000 in
theorem c_X11_normalize (l : Launch) (hlt : l.stackTraces = false) (g : zG) (v1 : Int) (hv1 : inR v1) (M : zM) (S : zS) (hF : zFx S) {M' : zM} (h : F_X11_normalize v1 M = some M') : zMet l g yX11_normalize cX11_normalize 4 none 10 0 0 [zr g 48, .int (zi v1)] M S (.inl none) M' S (True) := by
  refine zMet_of (by decide) hlt [(0, zr g 48), (1, .int (zi v1))] rfl (Nat.le_of_ble_eq_true rfl) (fun K hC hE hN => ?_)
  unfold F_X11_normalize at h
  have J_65 : ∀ (v3 : Int) (hv3 : inR v3) (M : zM) (_ : F_X11_normalize_J65 v3 M = some M'), zJ K g 0 0 65 4 [(0, zr g 48), (3, .int (zi v3))] [] M S := by
    intro v3 hv3 M h
    unfold F_X11_normalize_J65 at h
    refine j_aload_n hC 0 dX11_normalize_65 rfl rfl ?_
    refine j_iload_n hC 1 dX11_normalize_66 rfl rfl ?_
    obtain ⟨M1, eM1, h⟩ := zlet_ex h
    refine j_put hC dX11_normalize_67 f_X11_317 pF_X11 (zFx_kd hF 48 rfl) (Or.inl rfl) rfl 29 rfl (w_id hv3) hv3 eM1 ?_
    have e1 := Option.some.inj h
    exact j_vret hC hE dX11_normalize_70 rfl e1 rfl trivial (Nat.le_of_ble_eq_true rfl) (Nat.le_of_ble_eq_true rfl)
  have L_37 : ∀ (v2 : Int) (v3 : Int) (hv2 : inR v2) (hv3 : inR v3) (M : zM) (_ : F_X11_normalize_L37 v2 v3 M = some M'), zJ K g 0 0 37 4 [(0, zr g 48), (2, .int (zi v2)), (3, .int (zi v3))] [] M S := by
    intro v2 v3 hv2 hv3 M h
    unfold F_X11_normalize_L37 at h
    obtain ⟨ex37, hl, hd37⟩ := zb1_ex h
    obtain ⟨bd37, ebd⟩ : ∃ f, f = (fun (s : Int × Int) => F_X11_normalize_B37 s.1 s.2 M) := ⟨_, rfl⟩
    rw [← ebd] at hl
    have main : ∀ (n37 : Nat) (v2 : Int) (v3 : Int) (hv2 : inR v2) (hv3 : inR v3) (_ : zloop bd37 n37 (v2, v3) = some ex37), zJ K g 0 0 37 4 [(0, zr g 48), (2, .int (zi v2)), (3, .int (zi v3))] [] M S := by
      intro n37
      induction n37 with
      | zero => intro v2 v3 hv2 hv3 hl; exact zloop_0 hl
      | succ n37 ih37 =>
        have J_50 : ∀ (v2 : Int) (v3 : Int) (hv2 : inR v2) (hv3 : inR v3) (o : _) (_ : F_X11_normalize_J50 v2 v3 M = some o), zAft (bd37) n37 ex37 o → zJ K g 0 0 50 4 [(0, zr g 48), (2, .int (zi v2)), (3, .int (zi v3))] [] M S := by
          intro v2 v3 hv2 hv3 o h hT
          unfold F_X11_normalize_J50 at h
          refine j_iload_n hC 1 dX11_normalize_50 rfl rfl ?_
          refine j_aload_n hC 0 dX11_normalize_51 rfl rfl ?_
          refine j_getq (q := 62) hC dX11_normalize_52 f_X11_61 (zFx_kd hF 48 rfl) rfl 28 rfl (zFx_rf hF 48 28 rfl) ?_
          refine j_iload_n hC 2 dX11_normalize_55 rfl rfl ?_
          obtain ⟨c2, h⟩ := zchk_ex h
          refine j_iald (n := 29524) hC dX11_normalize_56 (w_id hv3) (zFx_kd hF 62 rfl) (zFx_ln hF 62 rfl) c2.1 c2.2 (fun hg3 => ?_)
          refine j_isub hC dX11_normalize_57 ?_
          obtain ⟨x4, ex4, h⟩ := zlet_ex h
          have hx4 : inR x4 := by rw [ex4]; exact inR_w _
          refine j_namei ex4 ?_
          refine j_istore_n hC dX11_normalize_58 rfl (Nat.le_of_ble_eq_true rfl) rfl ?_
          obtain ⟨x5, ex5, h⟩ := zlet_ex h
          have hx5 : inR x5 := by rw [ex5]; exact inR_w _
          refine j_iinc hC 2 dX11_normalize_59 rfl ex5 (Nat.le_of_ble_eq_true rfl) rfl ?_
          refine j_goto hC dX11_normalize_62 rfl ?_
          obtain rfl := Option.some.inj h
          refine j_sub [2, 1, 0] rfl ?_
          exact ih37 x4 x5 hx4 hx5 hT
        intro v2 v3 hv2 hv3 hl
        obtain ⟨o, h, hT⟩ := zloop_ex hl
        have h : F_X11_normalize_B37 v2 v3 M = some o := by rw [ebd] at h; exact h
        unfold F_X11_normalize_B37 at h
        refine j_iload_n hC 1 dX11_normalize_37 rfl rfl ?_
        refine j_if_gt hC dX11_normalize_38 rfl (w_id hv2) (fun c6 => ?_) (fun c6 => ?_)
        · have h := zt c6 h
          exact J_50 v2 v3 hv2 hv3 _ h hT
        · have h := zf c6 h
          refine j_aload_n hC 0 dX11_normalize_41 rfl rfl ?_
          refine j_getq (q := 62) hC dX11_normalize_42 f_X11_61 (zFx_kd hF 48 rfl) rfl 28 rfl (zFx_rf hF 48 28 rfl) ?_
          refine j_iload_n hC 2 dX11_normalize_45 rfl rfl ?_
          obtain ⟨c7, h⟩ := zchk_ex h
          refine j_iald (n := 29524) hC dX11_normalize_46 (w_id hv3) (zFx_kd hF 62 rfl) (zFx_ln hF 62 rfl) c7.1 c7.2 (fun hg8 => ?_)
          refine j_if_ne hC dX11_normalize_47 rfl (w_id hg8) (fun c9 => ?_) (fun c9 => ?_)
          · have h := zf c9 h
            obtain rfl := Option.some.inj h
            have hx37 := hd37
            rw [← show _ = ex37 from hT] at hx37
            refine j_sub [0, 2] rfl ?_
            exact J_65 v3 hv3 M hx37
          · have h := zt c9 h
            exact J_50 v2 v3 hv2 hv3 _ h hT
    exact main zN v2 v3 hv2 hv3 hl
  refine j_aload_n hC 0 dX11_normalize_0 rfl rfl ?_
  refine j_iconst hC dX11_normalize_1 ?_
  obtain ⟨M10, eM10, h⟩ := zlet_ex h
  refine j_put hC dX11_normalize_2 f_X11_104 pF_X11 (zFx_kd hF 48 rfl) (Or.inl rfl) rfl 0 rfl (w_id kR_0) kR_0 eM10 ?_
  refine j_aload_n hC 0 dX11_normalize_5 rfl rfl ?_
  refine j_aload_n hC 0 dX11_normalize_6 rfl rfl ?_
  refine j_get hC dX11_normalize_7 f_X11_317 (zFx_kd hF 48 rfl) rfl 29 rfl (fun hg11 => ?_)
  obtain ⟨M12, hy, h⟩ := zb1_ex h
  refine j_callVv (ci := 8) hC hE lk_X11_341 dX11_normalize_10 (c_X11_meet l hlt g (M10 48 29) hg11 M10 S hF hy) [.int (zi (M10 48 29))] [] (zFx_kd hF 48 rfl) ⟨_, rfl, by decide, rfl⟩ rfl rfl rfl (zcat (Nat.le_of_ble_eq_true rfl)) (Nat.le_of_ble_eq_true rfl) (Nat.le_of_ble_eq_true rfl) (Nat.le_of_ble_eq_true rfl) (Nat.le_of_ble_eq_true rfl) (fun hp13 => ?_)
  refine j_iload_n hC 1 dX11_normalize_13 rfl rfl ?_
  refine j_iconst hC dX11_normalize_14 ?_
  refine j_aload_n hC 0 dX11_normalize_15 rfl rfl ?_
  obtain ⟨r14, hy, h⟩ := zb1_ex h
  refine j_callVi (ci := 8) hC hE lk_X11_344 dX11_normalize_16 (c_X11_countForms l hlt g M12 S hF hy) [] [.int (zi 0), .int (zi v1)] (zFx_kd hF 48 rfl) ⟨_, rfl, by decide, rfl⟩ rfl rfl rfl (zcat (Nat.le_of_ble_eq_true rfl)) (Nat.le_of_ble_eq_true rfl) (Nat.le_of_ble_eq_true rfl) (Nat.le_of_ble_eq_true rfl) (Nat.le_of_ble_eq_true rfl) (fun hp15 => ?_)
  have hr14 := hp15
  refine j_iconst hC dX11_normalize_19 ?_
  refine j_isub hC dX11_normalize_20 ?_
  obtain ⟨r16, hy, h⟩ := zb1_ex h
  refine j_callSi hC hE lk_X11_124 dX11_normalize_21 (c_X11_isIn l hlt g v1 0 (w (r14 - 1)) hv1 kR_0 (inR_w _) M12 S hy) [.int (zi v1), .int (zi 0), .int (zi (r14 - 1))] [] rfl (by simp only [zi_w, zl_wl]) rfl (zcat (Nat.le_of_ble_eq_true rfl)) (Nat.le_of_ble_eq_true rfl) (Nat.le_of_ble_eq_true rfl) (Nat.le_of_ble_eq_true rfl) (Nat.le_of_ble_eq_true rfl) (fun hp17 => ?_)
  have hr16 := hp17
  refine j_if_ne hC dX11_normalize_24 rfl (w_id hr16) (fun c18 => ?_) (fun c18 => ?_)
  · have h := zf c18 h
    refine j_iload_n hC 1 dX11_normalize_33 rfl rfl ?_
    refine j_istore_n hC dX11_normalize_34 rfl (Nat.le_of_ble_eq_true rfl) rfl ?_
    refine j_iconst hC dX11_normalize_35 ?_
    refine j_istore_n hC dX11_normalize_36 rfl (Nat.le_of_ble_eq_true rfl) rfl ?_
    refine j_sub [2, 1, 0] rfl ?_
    exact L_37 v1 0 hv1 kR_0 M12 h
  · have h := zt c18 h
    refine j_aload_n hC 0 dX11_normalize_27 rfl rfl ?_
    refine j_iconst hC dX11_normalize_28 ?_
    obtain ⟨M19, eM19, h⟩ := zlet_ex h
    refine j_put hC dX11_normalize_29 f_X11_104 pF_X11 (zFx_kd hF 48 rfl) (Or.inl rfl) rfl 0 rfl (w_id kR_1) kR_1 eM19 ?_
    have e1 := Option.some.inj h
    exact j_vret hC hE dX11_normalize_32 rfl e1 rfl trivial (Nat.le_of_ble_eq_true rfl) (Nat.le_of_ble_eq_true rfl)
set_option maxHeartbeats 4000000 in
set_option maxRecDepth 100000 in
theorem c_X11_isSlot (l : Launch) (hlt : l.stackTraces = false) (g : zG) (v0 : Int) (hv0 : inR v0) (M : zM) (S : zS) {r : Int} (h : F_X11_isSlot v0 = some r) : zMet l g yX11_isSlot cX11_isSlot 1 (some .boolean) 2 0 0 [.int (zi v0)] M S (.inl (some (.int (zi r)))) M S (inR r) := by
  refine zMet_of (by decide) hlt [(0, .int (zi v0))] rfl (Nat.le_of_ble_eq_true rfl) (fun K hC hE hN => ?_)
  unfold F_X11_isSlot at h
  refine j_iload_n hC 0 dX11_isSlot_0 rfl rfl ?_
  refine j_iconst hC dX11_isSlot_1 ?_
  refine j_iconst hC dX11_isSlot_2 ?_
  obtain ⟨r1, hy, h⟩ := zb1_ex h
  refine j_callSi hC hE lk_X11_124 dX11_isSlot_3 (c_X11_isIn l hlt g v0 0 2 hv0 kR_0 kR_2 M S hy) [.int (zi v0), .int (zi 0), .int (zi 2)] [] rfl rfl rfl (zcat (Nat.le_of_ble_eq_true rfl)) (Nat.le_of_ble_eq_true rfl) (Nat.le_of_ble_eq_true rfl) (Nat.le_of_ble_eq_true rfl) (Nat.le_of_ble_eq_true rfl) (fun hp2 => ?_)
  have hr1 := hp2
  obtain ⟨c3, h⟩ := zchk_ex h
  have e1 := Option.some.inj h
  exact j_iret hC hE dX11_isSlot_6 (w_id hr1) (zn_z c3) (by rw [← e1]) rfl rfl (by rw [← e1]; exact hr1) (Nat.le_of_ble_eq_true rfl) (Nat.le_of_ble_eq_true rfl)
set_option maxHeartbeats 4000000 in
set_option maxRecDepth 100000 in
theorem c_X11_allocate (l : Launch) (hlt : l.stackTraces = false) (g : zG) (v1 : Int) (v2 : Int) (v3 : Int) (hv1 : inR v1) (hv2 : inR v2) (hv3 : inR v3) (M : zM) (S : zS) (hF : zFx S) {M' : zM} (h : F_X11_allocate v1 v2 v3 M = some M') : zMet l g yX11_allocate cX11_allocate 5 none 3 0 0 [zr g 48, .int (zi v1), .int (zi v2), .int (zi v3)] M S (.inl none) M' S (True) := by
  refine zMet_of (by decide) hlt [(0, zr g 48), (1, .int (zi v1)), (2, .int (zi v2)), (3, .int (zi v3))] rfl (Nat.le_of_ble_eq_true rfl) (fun K hC hE hN => ?_)
  unfold F_X11_allocate at h
  have J_89 : ∀ (M : zM) (_ : F_X11_allocate_J89 M = some M'), zJ K g 0 0 89 5 [] [] M S := by
    intro M h
    unfold F_X11_allocate_J89 at h
    have e1 := Option.some.inj h
    exact j_vret hC hE dX11_allocate_89 rfl e1 rfl trivial (Nat.le_of_ble_eq_true rfl) (Nat.le_of_ble_eq_true rfl)
  have L_63 : ∀ (v1 : Int) (v4 : Int) (hv1 : inR v1) (hv4 : inR v4) (M : zM) (_ : F_X11_allocate_L63 v1 v4 M = some M'), zJ K g 0 0 63 5 [(0, zr g 48), (1, .int (zi v1)), (4, .int (zi v4))] [] M S := by
    intro v1 v4 hv1 hv4 M h
    unfold F_X11_allocate_L63 at h
    obtain ⟨ex63, hl, hd63⟩ := zb1_ex h
    obtain ⟨bd63, ebd⟩ : ∃ f, f = (fun (s : Int × zM) => F_X11_allocate_B63 v1 s.1 s.2) := ⟨_, rfl⟩
    rw [← ebd] at hl
    have main : ∀ (n63 : Nat) (v4 : Int) (hv4 : inR v4) (M : zM) (_ : zloop bd63 n63 (v4, M) = some ex63), zJ K g 0 0 63 5 [(0, zr g 48), (1, .int (zi v1)), (4, .int (zi v4))] [] M S := by
      intro n63
      induction n63 with
      | zero => intro v4 hv4 M hl; exact zloop_0 hl
      | succ n63 ih63 =>
        intro v4 hv4 M hl
        obtain ⟨o, h, hT⟩ := zloop_ex hl
        have h : F_X11_allocate_B63 v1 v4 M = some o := by rw [ebd] at h; exact h
        unfold F_X11_allocate_B63 at h
        refine j_iload hC 2 dX11_allocate_63 rfl ?_
        refine j_bipush hC dX11_allocate_65 rfl ?_
        refine j_icmp_ge hC dX11_allocate_67 rfl (w_id hv4) (w_id kR_20) (fun c1 => ?_) (fun c1 => ?_)
        · have h := zf c1 h
          obtain rfl := Option.some.inj h
          have hx63 := hd63
          rw [← show _ = ex63 from hT] at hx63
          refine j_sub [] rfl ?_
          exact J_89 M hx63
        · have h := zt c1 h
          refine j_aload_n hC 0 dX11_allocate_70 rfl rfl ?_
          refine j_getq (q := 69) hC dX11_allocate_71 f_X11_83 (zFx_kd hF 48 rfl) rfl 36 rfl (zFx_rf hF 48 36 rfl) ?_
          refine j_bipush hC dX11_allocate_74 rfl ?_
          refine j_iload_n hC 1 dX11_allocate_76 rfl rfl ?_
          refine j_imul hC dX11_allocate_77 ?_
          refine j_iload hC 2 dX11_allocate_78 rfl ?_
          refine j_iadd hC dX11_allocate_80 ?_
          refine j_iconst hC dX11_allocate_81 ?_
          obtain ⟨c2, h⟩ := zchk_ex h
          obtain ⟨M3, eM3, h⟩ := zlet_ex h
          refine j_iast (n := 60) hC dX11_allocate_82 rfl (w_id kR_0) kR_0 (zFx_kd hF 69 rfl) (zFx_ln hF 69 rfl) c2.1 c2.2 eM3 ?_
          obtain ⟨x4, ex4, h⟩ := zlet_ex h
          have hx4 : inR x4 := by rw [ex4]; exact inR_w _
          refine j_iinc hC 2 dX11_allocate_83 rfl ex4 (Nat.le_of_ble_eq_true rfl) rfl ?_
          refine j_goto hC dX11_allocate_86 rfl ?_
          obtain rfl := Option.some.inj h
          refine j_sub [1, 2, 0] rfl ?_
          exact ih63 x4 hx4 M3 hT
    exact main zN v4 hv4 M hl
  have J_36 : ∀ (v1 : Int) (v2 : Int) (v3 : Int) (t1 : Int) (hv1 : inR v1) (hv2 : inR v2) (hv3 : inR v3) (ht1 : inR t1) (M : zM) (_ : F_X11_allocate_J36 v1 v2 v3 t1 M = some M'), zJ K g 0 0 36 5 [(0, zr g 48), (1, .int (zi v1)), (2, .int (zi v2)), (3, .int (zi v3))] [.int (zi t1), zr g 48] M S := by
    intro v1 v2 v3 t1 hv1 hv2 hv3 ht1 M h
    unfold F_X11_allocate_J36 at h
    obtain ⟨M5, eM5, h⟩ := zlet_ex h
    refine j_put hC dX11_allocate_36 f_X11_104 pF_X11 (zFx_kd hF 48 rfl) (Or.inl rfl) rfl 0 rfl (w_id ht1) ht1 eM5 ?_
    refine j_aload_n hC 0 dX11_allocate_39 rfl rfl ?_
    refine j_get hC dX11_allocate_40 f_X11_104 (zFx_kd hF 48 rfl) rfl 0 rfl (fun hg6 => ?_)
    refine j_if_ne hC dX11_allocate_43 rfl (w_id hg6) (fun c7 => ?_) (fun c7 => ?_)
    · have h := zf c7 h
      refine j_sub [] rfl ?_
      exact J_89 M5 h
    · have h := zt c7 h
      refine j_aload_n hC 0 dX11_allocate_46 rfl rfl ?_
      refine j_getq (q := 67) hC dX11_allocate_47 f_X11_77 (zFx_kd hF 48 rfl) rfl 34 rfl (zFx_rf hF 48 34 rfl) ?_
      refine j_iload_n hC 1 dX11_allocate_50 rfl rfl ?_
      refine j_iload_n hC 2 dX11_allocate_51 rfl rfl ?_
      obtain ⟨c8, h⟩ := zchk_ex h
      obtain ⟨M9, eM9, h⟩ := zlet_ex h
      refine j_iast (n := 3) hC dX11_allocate_52 (w_id hv1) (w_id hv2) hv2 (zFx_kd hF 67 rfl) (zFx_ln hF 67 rfl) c8.1 c8.2 eM9 ?_
      refine j_aload_n hC 0 dX11_allocate_53 rfl rfl ?_
      refine j_getq (q := 68) hC dX11_allocate_54 f_X11_80 (zFx_kd hF 48 rfl) rfl 35 rfl (zFx_rf hF 48 35 rfl) ?_
      refine j_iload_n hC 1 dX11_allocate_57 rfl rfl ?_
      refine j_iload_n hC 3 dX11_allocate_58 rfl rfl ?_
      obtain ⟨c10, h⟩ := zchk_ex h
      obtain ⟨M11, eM11, h⟩ := zlet_ex h
      refine j_iast (n := 3) hC dX11_allocate_59 (w_id hv1) (w_id hv3) hv3 (zFx_kd hF 68 rfl) (zFx_ln hF 68 rfl) c10.1 c10.2 eM11 ?_
      refine j_iconst hC dX11_allocate_60 ?_
      refine j_istore hC dX11_allocate_61 (Nat.le_of_ble_eq_true rfl) rfl ?_
      refine j_sub [1, 2, 0] rfl ?_
      exact L_63 v1 0 hv1 kR_0 M11 h
  have J_31 : ∀ (v1 : Int) (v2 : Int) (v3 : Int) (hv1 : inR v1) (hv2 : inR v2) (hv3 : inR v3) (M : zM) (_ : F_X11_allocate_J31 v1 v2 v3 M = some M'), zJ K g 0 0 31 5 [(0, zr g 48), (1, .int (zi v1)), (2, .int (zi v2)), (3, .int (zi v3))] [zr g 48] M S := by
    intro v1 v2 v3 hv1 hv2 hv3 M h
    unfold F_X11_allocate_J31 at h
    refine j_iconst hC dX11_allocate_31 ?_
    refine j_goto hC dX11_allocate_32 rfl ?_
    exact J_36 v1 v2 v3 2 hv1 hv2 hv3 kR_2 M h
  refine j_aload_n hC 0 dX11_allocate_0 rfl rfl ?_
  refine j_iload_n hC 1 dX11_allocate_1 rfl rfl ?_
  obtain ⟨r12, hy, h⟩ := zb1_ex h
  refine j_callSi hC hE lk_X11_347 dX11_allocate_2 (c_X11_isSlot l hlt g v1 hv1 M S hy) [.int (zi v1)] [zr g 48] rfl rfl rfl (zcat (Nat.le_of_ble_eq_true rfl)) (Nat.le_of_ble_eq_true rfl) (Nat.le_of_ble_eq_true rfl) (Nat.le_of_ble_eq_true rfl) (Nat.le_of_ble_eq_true rfl) (fun hp13 => ?_)
  have hr12 := hp13
  refine j_if_ne hC dX11_allocate_5 rfl (w_id hr12) (fun c14 => ?_) (fun c14 => ?_)
  · have h := zf c14 h
    refine j_iload_n hC 2 dX11_allocate_12 rfl rfl ?_
    refine j_iconst hC dX11_allocate_13 ?_
    refine j_iconst hC dX11_allocate_14 ?_
    obtain ⟨r15, hy, h⟩ := zb1_ex h
    refine j_callSi hC hE lk_X11_124 dX11_allocate_15 (c_X11_isIn l hlt g v2 0 2 hv2 kR_0 kR_2 M S hy) [.int (zi v2), .int (zi 0), .int (zi 2)] [zr g 48] rfl rfl rfl (zcat (Nat.le_of_ble_eq_true rfl)) (Nat.le_of_ble_eq_true rfl) (Nat.le_of_ble_eq_true rfl) (Nat.le_of_ble_eq_true rfl) (Nat.le_of_ble_eq_true rfl) (fun hp16 => ?_)
    have hr15 := hp16
    refine j_if_eq hC dX11_allocate_18 rfl (w_id hr15) (fun c17 => ?_) (fun c17 => ?_)
    · have h := zt c17 h
      exact J_31 v1 v2 v3 hv1 hv2 hv3 M h
    · have h := zf c17 h
      refine j_iload_n hC 3 dX11_allocate_21 rfl rfl ?_
      refine j_iconst hC dX11_allocate_22 ?_
      refine j_bipush hC dX11_allocate_23 rfl ?_
      obtain ⟨r18, hy, h⟩ := zb1_ex h
      refine j_callSi hC hE lk_X11_124 dX11_allocate_25 (c_X11_isIn l hlt g v3 0 20 hv3 kR_0 kR_20 M S hy) [.int (zi v3), .int (zi 0), .int (zi 20)] [zr g 48] rfl rfl rfl (zcat (Nat.le_of_ble_eq_true rfl)) (Nat.le_of_ble_eq_true rfl) (Nat.le_of_ble_eq_true rfl) (Nat.le_of_ble_eq_true rfl) (Nat.le_of_ble_eq_true rfl) (fun hp19 => ?_)
      have hr18 := hp19
      refine j_if_ne hC dX11_allocate_28 rfl (w_id hr18) (fun c20 => ?_) (fun c20 => ?_)
      · have h := zf c20 h
        refine j_iconst hC dX11_allocate_35 ?_
        exact J_36 v1 v2 v3 0 hv1 hv2 hv3 kR_0 M h
      · have h := zt c20 h
        exact J_31 v1 v2 v3 hv1 hv2 hv3 M h
  · have h := zt c14 h
    refine j_iconst hC dX11_allocate_8 ?_
    refine j_goto hC dX11_allocate_9 rfl ?_
    exact J_36 v1 v2 v3 1 hv1 hv2 hv3 kR_1 M h
set_option maxHeartbeats 4000000 in
set_option maxRecDepth 100000 in
theorem c_X11_problem (l : Launch) (hlt : l.stackTraces = false) (g : zG) (v1 : Int) (v2 : Int) (hv1 : inR v1) (hv2 : inR v2) (M : zM) (S : zS) (hF : zFx S) {r : Int} (h : F_X11_problem v1 v2 M = some r) : zMet l g yX11_problem cX11_problem 3 (some .int) 3 0 0 [zr g 48, .int (zi v1), .int (zi v2)] M S (.inl (some (.int (zi r)))) M S (inR r) := by
  refine zMet_of (by decide) hlt [(0, zr g 48), (1, .int (zi v1)), (2, .int (zi v2))] rfl (Nat.le_of_ble_eq_true rfl) (fun K hC hE hN => ?_)
  unfold F_X11_problem at h
  refine j_iload_n hC 1 dX11_problem_0 rfl rfl ?_
  obtain ⟨r1, hy, h⟩ := zb1_ex h
  refine j_callSi hC hE lk_X11_347 dX11_problem_1 (c_X11_isSlot l hlt g v1 hv1 M S hy) [.int (zi v1)] [] rfl rfl rfl (zcat (Nat.le_of_ble_eq_true rfl)) (Nat.le_of_ble_eq_true rfl) (Nat.le_of_ble_eq_true rfl) (Nat.le_of_ble_eq_true rfl) (Nat.le_of_ble_eq_true rfl) (fun hp2 => ?_)
  have hr1 := hp2
  refine j_if_ne hC dX11_problem_4 rfl (w_id hr1) (fun c3 => ?_) (fun c3 => ?_)
  · have h := zf c3 h
    refine j_aload_n hC 0 dX11_problem_11 rfl rfl ?_
    refine j_getq (q := 67) hC dX11_problem_12 f_X11_77 (zFx_kd hF 48 rfl) rfl 34 rfl (zFx_rf hF 48 34 rfl) ?_
    refine j_iload_n hC 1 dX11_problem_15 rfl rfl ?_
    obtain ⟨c4, h⟩ := zchk_ex h
    refine j_iald (n := 3) hC dX11_problem_16 (w_id hv1) (zFx_kd hF 67 rfl) (zFx_ln hF 67 rfl) c4.1 c4.2 (fun hg5 => ?_)
    refine j_if_ge hC dX11_problem_17 rfl (w_id hg5) (fun c6 => ?_) (fun c6 => ?_)
    · have h := zf c6 h
      refine j_iload_n hC 2 dX11_problem_24 rfl rfl ?_
      refine j_iconst hC dX11_problem_25 ?_
      refine j_aload_n hC 0 dX11_problem_26 rfl rfl ?_
      refine j_getq (q := 68) hC dX11_problem_27 f_X11_80 (zFx_kd hF 48 rfl) rfl 35 rfl (zFx_rf hF 48 35 rfl) ?_
      refine j_iload_n hC 1 dX11_problem_30 rfl rfl ?_
      obtain ⟨c7, h⟩ := zchk_ex h
      refine j_iald (n := 3) hC dX11_problem_31 (w_id hv1) (zFx_kd hF 68 rfl) (zFx_ln hF 68 rfl) c7.1 c7.2 (fun hg8 => ?_)
      refine j_iconst hC dX11_problem_32 ?_
      refine j_isub hC dX11_problem_33 ?_
      obtain ⟨r9, hy, h⟩ := zb1_ex h
      refine j_callSi hC hE lk_X11_124 dX11_problem_34 (c_X11_isIn l hlt g v2 0 (w ((M 68 v1) - 1)) hv2 kR_0 (inR_w _) M S hy) [.int (zi v2), .int (zi 0), .int (zi ((M 68 v1) - 1))] [] rfl (by simp only [zi_w, zl_wl]) rfl (zcat (Nat.le_of_ble_eq_true rfl)) (Nat.le_of_ble_eq_true rfl) (Nat.le_of_ble_eq_true rfl) (Nat.le_of_ble_eq_true rfl) (Nat.le_of_ble_eq_true rfl) (fun hp10 => ?_)
      have hr9 := hp10
      refine j_if_ne hC dX11_problem_37 rfl (w_id hr9) (fun c11 => ?_) (fun c11 => ?_)
      · have h := zf c11 h
        refine j_iconst hC dX11_problem_44 ?_
        have e1 := Option.some.inj h
        exact j_iret hC hE dX11_problem_45 (w_id kR_0) (zn_i _) (by rw [← e1]) rfl rfl (by rw [← e1]; exact kR_0) (Nat.le_of_ble_eq_true rfl) (Nat.le_of_ble_eq_true rfl)
      · have h := zt c11 h
        refine j_iconst hC dX11_problem_40 ?_
        refine j_goto hC dX11_problem_41 rfl ?_
        have e1 := Option.some.inj h
        exact j_iret hC hE dX11_problem_45 (w_id kR_1) (zn_i _) (by rw [← e1]) rfl rfl (by rw [← e1]; exact kR_1) (Nat.le_of_ble_eq_true rfl) (Nat.le_of_ble_eq_true rfl)
    · have h := zt c6 h
      refine j_iconst hC dX11_problem_20 ?_
      refine j_goto hC dX11_problem_21 rfl ?_
      have e1 := Option.some.inj h
      exact j_iret hC hE dX11_problem_45 (w_id kR_2) (zn_i _) (by rw [← e1]) rfl rfl (by rw [← e1]; exact kR_2) (Nat.le_of_ble_eq_true rfl) (Nat.le_of_ble_eq_true rfl)
  · have h := zt c3 h
    refine j_iconst hC dX11_problem_7 ?_
    refine j_goto hC dX11_problem_8 rfl ?_
    have e1 := Option.some.inj h
    exact j_iret hC hE dX11_problem_45 (w_id kR_1) (zn_i _) (by rw [← e1]) rfl rfl (by rw [← e1]; exact kR_1) (Nat.le_of_ble_eq_true rfl) (Nat.le_of_ble_eq_true rfl)
set_option maxHeartbeats 4000000 in
set_option maxRecDepth 100000 in
theorem c_X11_store (l : Launch) (hlt : l.stackTraces = false) (g : zG) (v1 : Int) (v2 : Int) (v3 : Int) (hv1 : inR v1) (hv2 : inR v2) (hv3 : inR v3) (M : zM) (S : zS) (hF : zFx S) {M' : zM} (h : F_X11_store v1 v2 v3 M = some M') : zMet l g yX11_store cX11_store 4 none 4 0 0 [zr g 48, .int (zi v1), .int (zi v2), .int (zi v3)] M S (.inl none) M' S (True) := by
  refine zMet_of (by decide) hlt [(0, zr g 48), (1, .int (zi v1)), (2, .int (zi v2)), (3, .int (zi v3))] rfl (Nat.le_of_ble_eq_true rfl) (fun K hC hE hN => ?_)
  unfold F_X11_store at h
  have J_57 : ∀ (t1 : Int) (t2 : Int) (ht1 : inR t1) (ht2 : inR t2) (M : zM) (_ : F_X11_store_J57 t1 t2 M = some M'), zJ K g 0 0 57 4 [] [.int (zi t2), .int (zi t1), zr g 69] M S := by
    intro t1 t2 ht1 ht2 M h
    unfold F_X11_store_J57 at h
    obtain ⟨c1, h⟩ := zchk_ex h
    obtain ⟨M2, eM2, h⟩ := zlet_ex h
    refine j_iast (n := 60) hC dX11_store_57 (w_id ht1) (w_id ht2) ht2 (zFx_kd hF 69 rfl) (zFx_ln hF 69 rfl) c1.1 c1.2 eM2 ?_
    have e1 := Option.some.inj h
    exact j_vret hC hE dX11_store_58 rfl e1 rfl trivial (Nat.le_of_ble_eq_true rfl) (Nat.le_of_ble_eq_true rfl)
  refine j_aload_n hC 0 dX11_store_0 rfl rfl ?_
  refine j_aload_n hC 0 dX11_store_1 rfl rfl ?_
  refine j_iload_n hC 1 dX11_store_2 rfl rfl ?_
  refine j_iload_n hC 2 dX11_store_3 rfl rfl ?_
  obtain ⟨r3, hy, h⟩ := zb1_ex h
  refine j_callVi (ci := 8) hC hE lk_X11_350 dX11_store_4 (c_X11_problem l hlt g v1 v2 hv1 hv2 M S hF hy) [.int (zi v1), .int (zi v2)] [zr g 48] (zFx_kd hF 48 rfl) ⟨_, rfl, by decide, rfl⟩ rfl rfl rfl (zcat (Nat.le_of_ble_eq_true rfl)) (Nat.le_of_ble_eq_true rfl) (Nat.le_of_ble_eq_true rfl) (Nat.le_of_ble_eq_true rfl) (Nat.le_of_ble_eq_true rfl) (fun hp4 => ?_)
  have hr3 := hp4
  obtain ⟨M5, eM5, h⟩ := zlet_ex h
  refine j_put hC dX11_store_7 f_X11_104 pF_X11 (zFx_kd hF 48 rfl) (Or.inl rfl) rfl 0 rfl (w_id hr3) hr3 eM5 ?_
  refine j_aload_n hC 0 dX11_store_10 rfl rfl ?_
  refine j_get hC dX11_store_11 f_X11_104 (zFx_kd hF 48 rfl) rfl 0 rfl (fun hg6 => ?_)
  refine j_if_ne hC dX11_store_14 rfl (w_id hg6) (fun c7 => ?_) (fun c7 => ?_)
  · have h := zf c7 h
    have e1 := Option.some.inj h
    exact j_vret hC hE dX11_store_58 rfl e1 rfl trivial (Nat.le_of_ble_eq_true rfl) (Nat.le_of_ble_eq_true rfl)
  · have h := zt c7 h
    refine j_aload_n hC 0 dX11_store_17 rfl rfl ?_
    refine j_getq (q := 69) hC dX11_store_18 f_X11_83 (zFx_kd hF 48 rfl) rfl 36 rfl (zFx_rf hF 48 36 rfl) ?_
    refine j_bipush hC dX11_store_21 rfl ?_
    refine j_iload_n hC 1 dX11_store_23 rfl rfl ?_
    refine j_imul hC dX11_store_24 ?_
    refine j_iload_n hC 2 dX11_store_25 rfl rfl ?_
    refine j_iadd hC dX11_store_26 ?_
    refine j_aload_n hC 0 dX11_store_27 rfl rfl ?_
    refine j_getq (q := 67) hC dX11_store_28 f_X11_77 (zFx_kd hF 48 rfl) rfl 34 rfl (zFx_rf hF 48 34 rfl) ?_
    refine j_iload_n hC 1 dX11_store_31 rfl rfl ?_
    obtain ⟨c8, h⟩ := zchk_ex h
    refine j_iald (n := 3) hC dX11_store_32 (w_id hv1) (zFx_kd hF 67 rfl) (zFx_ln hF 67 rfl) c8.1 c8.2 (fun hg9 => ?_)
    refine j_if_ne hC dX11_store_33 rfl (w_id hg9) (fun c10 => ?_) (fun c10 => ?_)
    · have h := zf c10 h
      refine j_aload_n hC 0 dX11_store_41 rfl rfl ?_
      refine j_getq (q := 67) hC dX11_store_42 f_X11_77 (zFx_kd hF 48 rfl) rfl 34 rfl (zFx_rf hF 48 34 rfl) ?_
      refine j_iload_n hC 1 dX11_store_45 rfl rfl ?_
      obtain ⟨c11, h⟩ := zchk_ex h
      refine j_iald (n := 3) hC dX11_store_46 (w_id hv1) (zFx_kd hF 67 rfl) (zFx_ln hF 67 rfl) c11.1 c11.2 (fun hg12 => ?_)
      refine j_iconst hC dX11_store_47 ?_
      refine j_icmp_ne hC dX11_store_48 rfl (w_id hg12) (w_id kR_1) (fun c13 => ?_) (fun c13 => ?_)
      · have h := zf c13 h
        refine j_iload_n hC 3 dX11_store_56 rfl rfl ?_
        refine j_sub [] rfl ?_
        refine j_stk (st2 := [.int (zi v3), .int (zi (w ((20 * v1) + v2))), zr g 69]) (by simp only [zi_w, zl_wl]) ?_
        exact J_57 (w ((20 * v1) + v2)) v3 (inR_w _) hv3 M5 h
      · have h := zt c13 h
        refine j_iload_n hC 3 dX11_store_51 rfl rfl ?_
        refine j_i2s hC dX11_store_52 ?_
        refine j_goto hC dX11_store_53 rfl ?_
        refine j_sub [] rfl ?_
        refine j_stk (st2 := [.int (zi (zi2s v3)), .int (zi (w ((20 * v1) + v2))), zr g 69]) (by simp only [zi_w, zl_wl]) ?_
        exact J_57 (w ((20 * v1) + v2)) (zi2s v3) (inR_w _) (cR_zi2s _) M5 h
    · have h := zt c10 h
      refine j_iload_n hC 3 dX11_store_36 rfl rfl ?_
      refine j_i2b hC dX11_store_37 ?_
      refine j_goto hC dX11_store_38 rfl ?_
      refine j_sub [] rfl ?_
      refine j_stk (st2 := [.int (zi (zi2b v3)), .int (zi (w ((20 * v1) + v2))), zr g 69]) (by simp only [zi_w, zl_wl]) ?_
      exact J_57 (w ((20 * v1) + v2)) (zi2b v3) (inR_w _) (cR_zi2b _) M5 h
set_option maxHeartbeats 4000000 in
set_option maxRecDepth 100000 in
theorem c_X11_element (l : Launch) (hlt : l.stackTraces = false) (g : zG) (v1 : Int) (v2 : Int) (hv1 : inR v1) (hv2 : inR v2) (M : zM) (S : zS) (hF : zFx S) {r : Int} {M' : zM} (h : F_X11_element v1 v2 M = some (r, M')) : zMet l g yX11_element cX11_element 3 (some .int) 4 0 0 [zr g 48, .int (zi v1), .int (zi v2)] M S (.inl (some (.int (zi r)))) M' S (inR r) := by
  refine zMet_of (by decide) hlt [(0, zr g 48), (1, .int (zi v1)), (2, .int (zi v2))] rfl (Nat.le_of_ble_eq_true rfl) (fun K hC hE hN => ?_)
  unfold F_X11_element at h
  refine j_aload_n hC 0 dX11_element_0 rfl rfl ?_
  refine j_aload_n hC 0 dX11_element_1 rfl rfl ?_
  refine j_iload_n hC 1 dX11_element_2 rfl rfl ?_
  refine j_iload_n hC 2 dX11_element_3 rfl rfl ?_
  obtain ⟨r1, hy, h⟩ := zb1_ex h
  refine j_callVi (ci := 8) hC hE lk_X11_350 dX11_element_4 (c_X11_problem l hlt g v1 v2 hv1 hv2 M S hF hy) [.int (zi v1), .int (zi v2)] [zr g 48] (zFx_kd hF 48 rfl) ⟨_, rfl, by decide, rfl⟩ rfl rfl rfl (zcat (Nat.le_of_ble_eq_true rfl)) (Nat.le_of_ble_eq_true rfl) (Nat.le_of_ble_eq_true rfl) (Nat.le_of_ble_eq_true rfl) (Nat.le_of_ble_eq_true rfl) (fun hp2 => ?_)
  have hr1 := hp2
  obtain ⟨M3, eM3, h⟩ := zlet_ex h
  refine j_put hC dX11_element_7 f_X11_104 pF_X11 (zFx_kd hF 48 rfl) (Or.inl rfl) rfl 0 rfl (w_id hr1) hr1 eM3 ?_
  refine j_aload_n hC 0 dX11_element_10 rfl rfl ?_
  refine j_get hC dX11_element_11 f_X11_104 (zFx_kd hF 48 rfl) rfl 0 rfl (fun hg4 => ?_)
  refine j_if_ne hC dX11_element_14 rfl (w_id hg4) (fun c5 => ?_) (fun c5 => ?_)
  · have h := zf c5 h
    refine j_iconst hC dX11_element_31 ?_
    obtain ⟨e1, e2⟩ := zpr2 (Option.some.inj h)
    exact j_iret hC hE dX11_element_32 (w_id kR_0) (zn_i _) (by rw [← e1]) e2 rfl (by rw [← e1]; exact kR_0) (Nat.le_of_ble_eq_true rfl) (Nat.le_of_ble_eq_true rfl)
  · have h := zt c5 h
    refine j_aload_n hC 0 dX11_element_17 rfl rfl ?_
    refine j_getq (q := 69) hC dX11_element_18 f_X11_83 (zFx_kd hF 48 rfl) rfl 36 rfl (zFx_rf hF 48 36 rfl) ?_
    refine j_bipush hC dX11_element_21 rfl ?_
    refine j_iload_n hC 1 dX11_element_23 rfl rfl ?_
    refine j_imul hC dX11_element_24 ?_
    refine j_iload_n hC 2 dX11_element_25 rfl rfl ?_
    refine j_iadd hC dX11_element_26 ?_
    obtain ⟨c6, h⟩ := zchk_ex h
    refine j_iald (n := 60) hC dX11_element_27 rfl (zFx_kd hF 69 rfl) (zFx_ln hF 69 rfl) c6.1 c6.2 (fun hg7 => ?_)
    refine j_goto hC dX11_element_28 rfl ?_
    obtain ⟨e1, e2⟩ := zpr2 (Option.some.inj h)
    exact j_iret hC hE dX11_element_32 (w_id hg7) (zn_i _) (by rw [← e1]) e2 rfl (by rw [← e1]; exact hg7) (Nat.le_of_ble_eq_true rfl) (Nat.le_of_ble_eq_true rfl)
set_option maxHeartbeats 4000000 in
set_option maxRecDepth 100000 in
theorem c_X11_compareSizes (l : Launch) (hlt : l.stackTraces = false) (g : zG) (v1 : Int) (hv1 : inR v1) (M : zM) (S : zS) (hF : zFx S) {r : Int} {M' : zM} (h : F_X11_compareSizes v1 M = some (r, M')) : zMet l g yX11_compareSizes cX11_compareSizes 3 (some .int) 11 0 0 [zr g 48, .int (zi v1)] M S (.inl (some (.int (zi r)))) M' S (inR r) := by
  refine zMet_of (by decide) hlt [(0, zr g 48), (1, .int (zi v1))] rfl (Nat.le_of_ble_eq_true rfl) (fun K hC hE hN => ?_)
  unfold F_X11_compareSizes at h
  have J_113 : ∀ (M : zM) (_ : F_X11_compareSizes_J113 M = some (r, M')), zJ K g 0 0 113 3 [] [] M S := by
    intro M h
    unfold F_X11_compareSizes_J113 at h
    refine j_iconst hC dX11_compareSizes_113 ?_
    obtain ⟨e1, e2⟩ := zpr2 (Option.some.inj h)
    exact j_iret hC hE dX11_compareSizes_114 (w_id kR_m1) (zn_i _) (by rw [← e1]) e2 rfl (by rw [← e1]; exact kR_m1) (Nat.le_of_ble_eq_true rfl) (Nat.le_of_ble_eq_true rfl)
  have J_105 : ∀ (v2 : Int) (hv2 : inR v2) (M : zM) (_ : F_X11_compareSizes_J105 v2 M = some (r, M')), zJ K g 0 0 105 3 [(2, .int (zi v2))] [] M S := by
    intro v2 hv2 M h
    unfold F_X11_compareSizes_J105 at h
    refine j_iload_n hC 0 dX11_compareSizes_105 rfl rfl ?_
    obtain ⟨e1, e2⟩ := zpr2 (Option.some.inj h)
    exact j_iret hC hE dX11_compareSizes_106 (w_id hv2) (zn_i _) (by rw [← e1]) e2 rfl (by rw [← e1]; exact hv2) (Nat.le_of_ble_eq_true rfl) (Nat.le_of_ble_eq_true rfl)
  have J_80 : ∀ (M : zM) (_ : F_X11_compareSizes_J80 M = some (r, M')), zJ K g 0 0 80 3 [(0, zr g 48)] [] M S := by
    intro M h
    unfold F_X11_compareSizes_J80 at h
    refine j_aload_n hC 0 dX11_compareSizes_80 rfl rfl ?_
    refine j_iconst hC dX11_compareSizes_81 ?_
    obtain ⟨r1, M2, hy, h⟩ := zb2_ex h
    refine j_callVi (ci := 8) hC hE lk_X11_134 dX11_compareSizes_82 (c_X11_fail l hlt g 1 kR_1 M S hF hy) [.int (zi 1)] [] (zFx_kd hF 48 rfl) ⟨_, rfl, by decide, rfl⟩ rfl rfl rfl (zcat (Nat.le_of_ble_eq_true rfl)) (Nat.le_of_ble_eq_true rfl) (Nat.le_of_ble_eq_true rfl) (Nat.le_of_ble_eq_true rfl) (Nat.le_of_ble_eq_true rfl) (fun hp3 => ?_)
    have hr1 := hp3
    obtain ⟨e1, e2⟩ := zpr2 (Option.some.inj h)
    exact j_iret hC hE dX11_compareSizes_85 (w_id hr1) (zn_i _) (by rw [← e1]) e2 rfl (by rw [← e1]; exact hr1) (Nat.le_of_ble_eq_true rfl) (Nat.le_of_ble_eq_true rfl)
  have L_62 : ∀ (v1 : Int) (v2 : Int) (hv1 : inR v1) (hv2 : inR v2) (M : zM) (_ : F_X11_compareSizes_L62 v1 v2 M = some (r, M')), zJ K g 0 0 62 3 [(0, zr g 48), (1, .int (zi v1)), (2, .int (zi v2))] [] M S := by
    intro v1 v2 hv1 hv2 M h
    unfold F_X11_compareSizes_L62 at h
    obtain ⟨ex62, hl, hd62⟩ := zb1_ex h
    obtain ⟨bd62, ebd⟩ : ∃ f, f = (fun (s : Int) => F_X11_compareSizes_B62 v1 s M) := ⟨_, rfl⟩
    rw [← ebd] at hl
    have main : ∀ (n62 : Nat) (v2 : Int) (hv2 : inR v2) (_ : zloop bd62 n62 v2 = some ex62), zJ K g 0 0 62 3 [(0, zr g 48), (1, .int (zi v1)), (2, .int (zi v2))] [] M S := by
      intro n62
      induction n62 with
      | zero => intro v2 hv2 hl; exact zloop_0 hl
      | succ n62 ih62 =>
        intro v2 hv2 hl
        obtain ⟨o, h, hT⟩ := zloop_ex hl
        have h : F_X11_compareSizes_B62 v1 v2 M = some o := by rw [ebd] at h; exact h
        unfold F_X11_compareSizes_B62 at h
        refine j_iload_n hC 2 dX11_compareSizes_62 rfl rfl ?_
        refine j_aload_n hC 0 dX11_compareSizes_63 rfl rfl ?_
        refine j_get hC dX11_compareSizes_64 f_X11_29 (zFx_kd hF 48 rfl) rfl 9 rfl (fun hg4 => ?_)
        refine j_icmp_gt hC dX11_compareSizes_67 rfl (w_id hv2) (w_id hg4) (fun c5 => ?_) (fun c5 => ?_)
        · have h := zt c5 h
          obtain rfl := Option.some.inj h
          have hx62 := hd62
          rw [← show _ = ex62 from hT] at hx62
          dsimp only [Sum.elim] at hx62
          refine j_sub [] rfl ?_
          exact J_113 M hx62
        · have h := zf c5 h
          refine j_iload_n hC 2 dX11_compareSizes_70 rfl rfl ?_
          refine j_aload_n hC 0 dX11_compareSizes_71 rfl rfl ?_
          refine j_getq (q := 68) hC dX11_compareSizes_72 f_X11_80 (zFx_kd hF 48 rfl) rfl 35 rfl (zFx_rf hF 48 35 rfl) ?_
          refine j_iload_n hC 1 dX11_compareSizes_75 rfl rfl ?_
          obtain ⟨c6, h⟩ := zchk_ex h
          refine j_iald (n := 3) hC dX11_compareSizes_76 (w_id hv1) (zFx_kd hF 68 rfl) (zFx_ln hF 68 rfl) c6.1 c6.2 (fun hg7 => ?_)
          refine j_icmp_lt hC dX11_compareSizes_77 rfl (w_id hv2) (w_id hg7) (fun c8 => ?_) (fun c8 => ?_)
          · have h := zt c8 h
            refine j_aload_n hC 0 dX11_compareSizes_86 rfl rfl ?_
            refine j_getq (q := 69) hC dX11_compareSizes_87 f_X11_83 (zFx_kd hF 48 rfl) rfl 36 rfl (zFx_rf hF 48 36 rfl) ?_
            refine j_bipush hC dX11_compareSizes_90 rfl ?_
            refine j_iload_n hC 1 dX11_compareSizes_92 rfl rfl ?_
            refine j_imul hC dX11_compareSizes_93 ?_
            refine j_iload_n hC 2 dX11_compareSizes_94 rfl rfl ?_
            refine j_iadd hC dX11_compareSizes_95 ?_
            obtain ⟨c9, h⟩ := zchk_ex h
            refine j_iald (n := 60) hC dX11_compareSizes_96 rfl (zFx_kd hF 69 rfl) (zFx_ln hF 69 rfl) c9.1 c9.2 (fun hg10 => ?_)
            refine j_aload_n hC 0 dX11_compareSizes_97 rfl rfl ?_
            refine j_iload_n hC 2 dX11_compareSizes_98 rfl rfl ?_
            obtain ⟨r11, hy, h⟩ := zb1_ex h
            refine j_callVi (ci := 8) hC hE lk_X11_281 dX11_compareSizes_99 (c_X11_countOf l hlt g v2 hv2 M S hF hy) [.int (zi v2)] [.int (zi (M 69 (w ((20 * v1) + v2))))] (zFx_kd hF 48 rfl) ⟨_, rfl, by decide, rfl⟩ rfl rfl rfl (zcat (Nat.le_of_ble_eq_true rfl)) (Nat.le_of_ble_eq_true rfl) (Nat.le_of_ble_eq_true rfl) (Nat.le_of_ble_eq_true rfl) (Nat.le_of_ble_eq_true rfl) (fun hp12 => ?_)
            have hr11 := hp12
            refine j_icmp_eq hC dX11_compareSizes_102 rfl (w_id hg10) (w_id hr11) (fun c13 => ?_) (fun c13 => ?_)
            · have h := zt c13 h
              obtain ⟨x14, ex14, h⟩ := zlet_ex h
              have hx14 : inR x14 := by rw [ex14]; exact inR_w _
              refine j_iinc hC 2 dX11_compareSizes_107 rfl ex14 (Nat.le_of_ble_eq_true rfl) rfl ?_
              refine j_goto hC dX11_compareSizes_110 rfl ?_
              obtain rfl := Option.some.inj h
              refine j_sub [1, 2, 0] rfl ?_
              exact ih62 x14 hx14 hT
            · have h := zf c13 h
              obtain rfl := Option.some.inj h
              have hx62 := hd62
              rw [← show _ = ex62 from hT] at hx62
              dsimp only [Sum.elim] at hx62
              refine j_sub [2] rfl ?_
              exact J_105 v2 hv2 M hx62
          · have h := zf c8 h
            obtain rfl := Option.some.inj h
            have hx62 := hd62
            rw [← show _ = ex62 from hT] at hx62
            dsimp only [Sum.elim] at hx62
            refine j_sub [0] rfl ?_
            exact J_80 M hx62
    exact main zN v2 hv2 hl
  have J_56 : ∀ (t1 : Int) (ht1 : inR t1) (M : zM) (_ : F_X11_compareSizes_J56 t1 M = some (r, M')), zJ K g 0 0 56 3 [] [.int (zi t1), zr g 48] M S := by
    intro t1 ht1 M h
    unfold F_X11_compareSizes_J56 at h
    obtain ⟨r15, M16, hy, h⟩ := zb2_ex h
    refine j_callVi (ci := 8) hC hE lk_X11_134 dX11_compareSizes_56 (c_X11_fail l hlt g t1 ht1 M S hF hy) [.int (zi t1)] [] (zFx_kd hF 48 rfl) ⟨_, rfl, by decide, rfl⟩ rfl rfl rfl (zcat (Nat.le_of_ble_eq_true rfl)) (Nat.le_of_ble_eq_true rfl) (Nat.le_of_ble_eq_true rfl) (Nat.le_of_ble_eq_true rfl) (Nat.le_of_ble_eq_true rfl) (fun hp17 => ?_)
    have hr15 := hp17
    obtain ⟨e1, e2⟩ := zpr2 (Option.some.inj h)
    exact j_iret hC hE dX11_compareSizes_59 (w_id hr15) (zn_i _) (by rw [← e1]) e2 rfl (by rw [← e1]; exact hr15) (Nat.le_of_ble_eq_true rfl) (Nat.le_of_ble_eq_true rfl)
  refine j_aload_n hC 0 dX11_compareSizes_0 rfl rfl ?_
  refine j_iconst hC dX11_compareSizes_1 ?_
  obtain ⟨M18, eM18, h⟩ := zlet_ex h
  refine j_put hC dX11_compareSizes_2 f_X11_104 pF_X11 (zFx_kd hF 48 rfl) (Or.inl rfl) rfl 0 rfl (w_id kR_0) kR_0 eM18 ?_
  refine j_iload_n hC 1 dX11_compareSizes_5 rfl rfl ?_
  obtain ⟨r19, hy, h⟩ := zb1_ex h
  refine j_callSi hC hE lk_X11_347 dX11_compareSizes_6 (c_X11_isSlot l hlt g v1 hv1 M18 S hy) [.int (zi v1)] [] rfl rfl rfl (zcat (Nat.le_of_ble_eq_true rfl)) (Nat.le_of_ble_eq_true rfl) (Nat.le_of_ble_eq_true rfl) (Nat.le_of_ble_eq_true rfl) (Nat.le_of_ble_eq_true rfl) (fun hp20 => ?_)
  have hr19 := hp20
  refine j_if_ne hC dX11_compareSizes_9 rfl (w_id hr19) (fun c21 => ?_) (fun c21 => ?_)
  · have h := zf c21 h
    refine j_aload_n hC 0 dX11_compareSizes_18 rfl rfl ?_
    obtain ⟨r22, M23, hy, h⟩ := zb2_ex h
    refine j_callVi (ci := 8) hC hE lk_X11_278 dX11_compareSizes_19 (c_X11_findAll l hlt g M18 S hF hy) [] [] (zFx_kd hF 48 rfl) ⟨_, rfl, by decide, rfl⟩ rfl rfl rfl (zcat (Nat.le_of_ble_eq_true rfl)) (Nat.le_of_ble_eq_true rfl) (Nat.le_of_ble_eq_true rfl) (Nat.le_of_ble_eq_true rfl) (Nat.le_of_ble_eq_true rfl) (fun hp24 => ?_)
    have hr22 := hp24
    refine j_if_ne hC dX11_compareSizes_22 rfl (w_id hr22) (fun c25 => ?_) (fun c25 => ?_)
    · have h := zf c25 h
      refine j_aload_n hC 0 dX11_compareSizes_31 rfl rfl ?_
      refine j_getq (q := 67) hC dX11_compareSizes_32 f_X11_77 (zFx_kd hF 48 rfl) rfl 34 rfl (zFx_rf hF 48 34 rfl) ?_
      refine j_iload_n hC 1 dX11_compareSizes_35 rfl rfl ?_
      obtain ⟨c26, h⟩ := zchk_ex h
      refine j_iald (n := 3) hC dX11_compareSizes_36 (w_id hv1) (zFx_kd hF 67 rfl) (zFx_ln hF 67 rfl) c26.1 c26.2 (fun hg27 => ?_)
      refine j_iconst hC dX11_compareSizes_37 ?_
      refine j_icmp_eq hC dX11_compareSizes_38 rfl (w_id hg27) (w_id kR_2) (fun c28 => ?_) (fun c28 => ?_)
      · have h := zt c28 h
        refine j_iconst hC dX11_compareSizes_60 ?_
        refine j_istore_n hC dX11_compareSizes_61 rfl (Nat.le_of_ble_eq_true rfl) rfl ?_
        refine j_sub [1, 2, 0] rfl ?_
        exact L_62 v1 0 hv1 kR_0 M23 h
      · have h := zf c28 h
        refine j_aload_n hC 0 dX11_compareSizes_41 rfl rfl ?_
        refine j_aload_n hC 0 dX11_compareSizes_42 rfl rfl ?_
        refine j_getq (q := 67) hC dX11_compareSizes_43 f_X11_77 (zFx_kd hF 48 rfl) rfl 34 rfl (zFx_rf hF 48 34 rfl) ?_
        refine j_iload_n hC 1 dX11_compareSizes_46 rfl rfl ?_
        obtain ⟨c29, h⟩ := zchk_ex h
        refine j_iald (n := 3) hC dX11_compareSizes_47 (w_id hv1) (zFx_kd hF 67 rfl) (zFx_ln hF 67 rfl) c29.1 c29.2 (fun hg30 => ?_)
        refine j_if_ge hC dX11_compareSizes_48 rfl (w_id hg30) (fun c31 => ?_) (fun c31 => ?_)
        · have h := zf c31 h
          refine j_iconst hC dX11_compareSizes_55 ?_
          refine j_sub [] rfl ?_
          exact J_56 4 kR_4 M23 h
        · have h := zt c31 h
          refine j_iconst hC dX11_compareSizes_51 ?_
          refine j_goto hC dX11_compareSizes_52 rfl ?_
          refine j_sub [] rfl ?_
          exact J_56 3 kR_3 M23 h
    · have h := zt c25 h
      refine j_aload_n hC 0 dX11_compareSizes_25 rfl rfl ?_
      refine j_iconst hC dX11_compareSizes_26 ?_
      obtain ⟨r32, M33, hy, h⟩ := zb2_ex h
      refine j_callVi (ci := 8) hC hE lk_X11_134 dX11_compareSizes_27 (c_X11_fail l hlt g 2 kR_2 M23 S hF hy) [.int (zi 2)] [] (zFx_kd hF 48 rfl) ⟨_, rfl, by decide, rfl⟩ rfl rfl rfl (zcat (Nat.le_of_ble_eq_true rfl)) (Nat.le_of_ble_eq_true rfl) (Nat.le_of_ble_eq_true rfl) (Nat.le_of_ble_eq_true rfl) (Nat.le_of_ble_eq_true rfl) (fun hp34 => ?_)
      have hr32 := hp34
      obtain ⟨e1, e2⟩ := zpr2 (Option.some.inj h)
      exact j_iret hC hE dX11_compareSizes_30 (w_id hr32) (zn_i _) (by rw [← e1]) e2 rfl (by rw [← e1]; exact hr32) (Nat.le_of_ble_eq_true rfl) (Nat.le_of_ble_eq_true rfl)
  · have h := zt c21 h
    refine j_aload_n hC 0 dX11_compareSizes_12 rfl rfl ?_
    refine j_iconst hC dX11_compareSizes_13 ?_
    obtain ⟨r35, M36, hy, h⟩ := zb2_ex h
    refine j_callVi (ci := 8) hC hE lk_X11_134 dX11_compareSizes_14 (c_X11_fail l hlt g 1 kR_1 M18 S hF hy) [.int (zi 1)] [] (zFx_kd hF 48 rfl) ⟨_, rfl, by decide, rfl⟩ rfl rfl rfl (zcat (Nat.le_of_ble_eq_true rfl)) (Nat.le_of_ble_eq_true rfl) (Nat.le_of_ble_eq_true rfl) (Nat.le_of_ble_eq_true rfl) (Nat.le_of_ble_eq_true rfl) (fun hp37 => ?_)
    have hr35 := hp37
    obtain ⟨e1, e2⟩ := zpr2 (Option.some.inj h)
    exact j_iret hC hE dX11_compareSizes_17 (w_id hr35) (zn_i _) (by rw [← e1]) e2 rfl (by rw [← e1]; exact hr35) (Nat.le_of_ble_eq_true rfl) (Nat.le_of_ble_eq_true rfl)
set_option maxHeartbeats 4000000 in
set_option maxRecDepth 100000 in
theorem c_X11_save (l : Launch) (hlt : l.stackTraces = false) (g : zG) (M : zM) (S : zS) (hF : zFx S) {M' : zM} (h : F_X11_save M = some M') : zMet l g yX11_save cX11_save 2 none 1 0 0 [zr g 48] M S (.inl none) M' S (True) := by
  refine zMet_of (by decide) hlt [(0, zr g 48)] rfl (Nat.le_of_ble_eq_true rfl) (fun K hC hE hN => ?_)
  unfold F_X11_save at h
  have J_103 : ∀ (M : zM) (_ : F_X11_save_J103 M = some M'), zJ K g 0 0 103 2 [(0, zr g 48)] [] M S := by
    intro M h
    unfold F_X11_save_J103 at h
    refine j_aload_n hC 0 dX11_save_103 rfl rfl ?_
    refine j_getq (q := 75) hC dX11_save_104 f_X11_101 (zFx_kd hF 48 rfl) rfl 43 rfl (zFx_rf hF 48 43 rfl) ?_
    refine j_iconst hC dX11_save_107 ?_
    refine j_aload_n hC 0 dX11_save_108 rfl rfl ?_
    refine j_get hC dX11_save_109 f_X11_128 (zFx_kd hF 48 rfl) rfl 2 rfl (fun hg1 => ?_)
    obtain ⟨M2, eM2, h⟩ := zlet_ex h
    refine j_iast (n := 5) hC dX11_save_112 (w_id kR_0) (w_id hg1) hg1 (zFx_kd hF 75 rfl) (zFx_ln hF 75 rfl) (by decide) (by decide) eM2 ?_
    refine j_aload_n hC 0 dX11_save_113 rfl rfl ?_
    refine j_getq (q := 75) hC dX11_save_114 f_X11_101 (zFx_kd hF 48 rfl) rfl 43 rfl (zFx_rf hF 48 43 rfl) ?_
    refine j_iconst hC dX11_save_117 ?_
    refine j_aload_n hC 0 dX11_save_118 rfl rfl ?_
    refine j_get hC dX11_save_119 f_X11_121 (zFx_kd hF 48 rfl) rfl 7 rfl (fun hg3 => ?_)
    obtain ⟨M4, eM4, h⟩ := zlet_ex h
    refine j_iast (n := 5) hC dX11_save_122 (w_id kR_1) (w_id hg3) hg3 (zFx_kd hF 75 rfl) (zFx_ln hF 75 rfl) (by decide) (by decide) eM4 ?_
    refine j_aload_n hC 0 dX11_save_123 rfl rfl ?_
    refine j_getq (q := 75) hC dX11_save_124 f_X11_101 (zFx_kd hF 48 rfl) rfl 43 rfl (zFx_rf hF 48 43 rfl) ?_
    refine j_iconst hC dX11_save_127 ?_
    refine j_aload_n hC 0 dX11_save_128 rfl rfl ?_
    refine j_get hC dX11_save_129 f_X11_25 (zFx_kd hF 48 rfl) rfl 8 rfl (fun hg5 => ?_)
    obtain ⟨M6, eM6, h⟩ := zlet_ex h
    refine j_iast (n := 5) hC dX11_save_132 (w_id kR_2) (w_id hg5) hg5 (zFx_kd hF 75 rfl) (zFx_ln hF 75 rfl) (by decide) (by decide) eM6 ?_
    refine j_aload_n hC 0 dX11_save_133 rfl rfl ?_
    refine j_getq (q := 75) hC dX11_save_134 f_X11_101 (zFx_kd hF 48 rfl) rfl 43 rfl (zFx_rf hF 48 43 rfl) ?_
    refine j_iconst hC dX11_save_137 ?_
    refine j_aload_n hC 0 dX11_save_138 rfl rfl ?_
    refine j_get hC dX11_save_139 f_X11_29 (zFx_kd hF 48 rfl) rfl 9 rfl (fun hg7 => ?_)
    obtain ⟨M8, eM8, h⟩ := zlet_ex h
    refine j_iast (n := 5) hC dX11_save_142 (w_id kR_3) (w_id hg7) hg7 (zFx_kd hF 75 rfl) (zFx_ln hF 75 rfl) (by decide) (by decide) eM8 ?_
    refine j_aload_n hC 0 dX11_save_143 rfl rfl ?_
    refine j_getq (q := 75) hC dX11_save_144 f_X11_101 (zFx_kd hF 48 rfl) rfl 43 rfl (zFx_rf hF 48 43 rfl) ?_
    refine j_iconst hC dX11_save_147 ?_
    refine j_aload_n hC 0 dX11_save_148 rfl rfl ?_
    refine j_get hC dX11_save_149 f_X11_317 (zFx_kd hF 48 rfl) rfl 29 rfl (fun hg9 => ?_)
    obtain ⟨M10, eM10, h⟩ := zlet_ex h
    refine j_iast (n := 5) hC dX11_save_152 (w_id kR_4) (w_id hg9) hg9 (zFx_kd hF 75 rfl) (zFx_ln hF 75 rfl) (by decide) (by decide) eM10 ?_
    have e1 := Option.some.inj h
    exact j_vret hC hE dX11_save_153 rfl e1 rfl trivial (Nat.le_of_ble_eq_true rfl) (Nat.le_of_ble_eq_true rfl)
  have L_12 : ∀ (v1 : Int) (hv1 : inR v1) (M : zM) (_ : F_X11_save_L12 v1 M = some M'), zJ K g 0 0 12 2 [(0, zr g 48), (1, .int (zi v1))] [] M S := by
    intro v1 hv1 M h
    unfold F_X11_save_L12 at h
    obtain ⟨ex12, hl, hd12⟩ := zb1_ex h
    obtain ⟨bd12, ebd⟩ : ∃ f, f = (fun (s : Int × zM) => F_X11_save_B12 s.1 s.2) := ⟨_, rfl⟩
    rw [← ebd] at hl
    have main : ∀ (n12 : Nat) (v1 : Int) (hv1 : inR v1) (M : zM) (_ : zloop bd12 n12 (v1, M) = some ex12), zJ K g 0 0 12 2 [(0, zr g 48), (1, .int (zi v1))] [] M S := by
      intro n12
      induction n12 with
      | zero => intro v1 hv1 M hl; exact zloop_0 hl
      | succ n12 ih12 =>
        intro v1 hv1 M hl
        obtain ⟨o, h, hT⟩ := zloop_ex hl
        have h : F_X11_save_B12 v1 M = some o := by rw [ebd] at h; exact h
        unfold F_X11_save_B12 at h
        refine j_iload_n hC 1 dX11_save_12 rfl rfl ?_
        refine j_sipush hC dX11_save_13 rfl ?_
        refine j_icmp_ge hC dX11_save_16 rfl (w_id hv1) (w_id kR_300) (fun c11 => ?_) (fun c11 => ?_)
        · have h := zf c11 h
          obtain rfl := Option.some.inj h
          have hx12 := hd12
          rw [← show _ = ex12 from hT] at hx12
          refine j_sub [0] rfl ?_
          exact J_103 M hx12
        · have h := zt c11 h
          refine j_aload_n hC 0 dX11_save_19 rfl rfl ?_
          refine j_getq (q := 73) hC dX11_save_20 f_X11_95 (zFx_kd hF 48 rfl) rfl 41 rfl (zFx_rf hF 48 41 rfl) ?_
          refine j_iload_n hC 1 dX11_save_23 rfl rfl ?_
          refine j_aload_n hC 0 dX11_save_24 rfl rfl ?_
          refine j_getq (q := 52) hC dX11_save_25 f_X11_19 (zFx_kd hF 48 rfl) rfl 5 rfl (zFx_rf hF 48 5 rfl) ?_
          refine j_iload_n hC 1 dX11_save_28 rfl rfl ?_
          obtain ⟨c12, h⟩ := zchk_ex h
          refine j_iald (n := 300) hC dX11_save_29 (w_id hv1) (zFx_kd hF 52 rfl) (zFx_ln hF 52 rfl) c12.1 c12.2 (fun hg13 => ?_)
          obtain ⟨c14, h⟩ := zchk_ex h
          obtain ⟨M15, eM15, h⟩ := zlet_ex h
          refine j_iast (n := 300) hC dX11_save_30 (w_id hv1) (w_id hg13) hg13 (zFx_kd hF 73 rfl) (zFx_ln hF 73 rfl) c14.1 c14.2 eM15 ?_
          refine j_aload_n hC 0 dX11_save_31 rfl rfl ?_
          refine j_getq (q := 70) hC dX11_save_32 f_X11_86 (zFx_kd hF 48 rfl) rfl 38 rfl (zFx_rf hF 48 38 rfl) ?_
          refine j_iload_n hC 1 dX11_save_35 rfl rfl ?_
          refine j_bipush hC dX11_save_36 rfl ?_
          refine j_irem hC dX11_save_38 (w_id kR_6) (by decide) ?_
          refine j_aload_n hC 0 dX11_save_39 rfl rfl ?_
          refine j_getq (q := 49) hC dX11_save_40 f_X11_7 (zFx_kd hF 48 rfl) rfl 1 rfl (zFx_rf hF 48 1 rfl) ?_
          refine j_iload_n hC 1 dX11_save_43 rfl rfl ?_
          refine j_bipush hC dX11_save_44 rfl ?_
          refine j_irem hC dX11_save_46 (w_id kR_6) (by decide) ?_
          obtain ⟨c16, h⟩ := zchk_ex h
          refine j_iald (n := 6) hC dX11_save_47 (w_id (cR_zrem _ _)) (zFx_kd hF 49 rfl) (zFx_ln hF 49 rfl) c16.1 c16.2 (fun hg17 => ?_)
          obtain ⟨c18, h⟩ := zchk_ex h
          obtain ⟨M19, eM19, h⟩ := zlet_ex h
          refine j_iast (n := 6) hC dX11_save_48 (w_id (cR_zrem _ _)) (w_id hg17) hg17 (zFx_kd hF 70 rfl) (zFx_ln hF 70 rfl) c18.1 c18.2 eM19 ?_
          refine j_aload_n hC 0 dX11_save_49 rfl rfl ?_
          refine j_getq (q := 71) hC dX11_save_50 f_X11_89 (zFx_kd hF 48 rfl) rfl 39 rfl (zFx_rf hF 48 39 rfl) ?_
          refine j_iload_n hC 1 dX11_save_53 rfl rfl ?_
          refine j_iconst hC dX11_save_54 ?_
          refine j_irem hC dX11_save_55 (w_id kR_5) (by decide) ?_
          refine j_aload_n hC 0 dX11_save_56 rfl rfl ?_
          refine j_getq (q := 50) hC dX11_save_57 f_X11_13 (zFx_kd hF 48 rfl) rfl 3 rfl (zFx_rf hF 48 3 rfl) ?_
          refine j_iload_n hC 1 dX11_save_60 rfl rfl ?_
          refine j_iconst hC dX11_save_61 ?_
          refine j_irem hC dX11_save_62 (w_id kR_5) (by decide) ?_
          obtain ⟨c20, h⟩ := zchk_ex h
          refine j_iald (n := 5) hC dX11_save_63 (w_id (cR_zrem _ _)) (zFx_kd hF 50 rfl) (zFx_ln hF 50 rfl) c20.1 c20.2 (fun hg21 => ?_)
          obtain ⟨c22, h⟩ := zchk_ex h
          obtain ⟨M23, eM23, h⟩ := zlet_ex h
          refine j_iast (n := 5) hC dX11_save_64 (w_id (cR_zrem _ _)) (w_id hg21) hg21 (zFx_kd hF 71 rfl) (zFx_ln hF 71 rfl) c22.1 c22.2 eM23 ?_
          refine j_aload_n hC 0 dX11_save_65 rfl rfl ?_
          refine j_getq (q := 72) hC dX11_save_66 f_X11_92 (zFx_kd hF 48 rfl) rfl 40 rfl (zFx_rf hF 48 40 rfl) ?_
          refine j_iload_n hC 1 dX11_save_69 rfl rfl ?_
          refine j_iconst hC dX11_save_70 ?_
          refine j_irem hC dX11_save_71 (w_id kR_5) (by decide) ?_
          refine j_aload_n hC 0 dX11_save_72 rfl rfl ?_
          refine j_getq (q := 51) hC dX11_save_73 f_X11_16 (zFx_kd hF 48 rfl) rfl 4 rfl (zFx_rf hF 48 4 rfl) ?_
          refine j_iload_n hC 1 dX11_save_76 rfl rfl ?_
          refine j_iconst hC dX11_save_77 ?_
          refine j_irem hC dX11_save_78 (w_id kR_5) (by decide) ?_
          obtain ⟨c24, h⟩ := zchk_ex h
          refine j_iald (n := 5) hC dX11_save_79 (w_id (cR_zrem _ _)) (zFx_kd hF 51 rfl) (zFx_ln hF 51 rfl) c24.1 c24.2 (fun hg25 => ?_)
          obtain ⟨c26, h⟩ := zchk_ex h
          obtain ⟨M27, eM27, h⟩ := zlet_ex h
          refine j_iast (n := 5) hC dX11_save_80 (w_id (cR_zrem _ _)) (w_id hg25) hg25 (zFx_kd hF 72 rfl) (zFx_ln hF 72 rfl) c26.1 c26.2 eM27 ?_
          refine j_aload_n hC 0 dX11_save_81 rfl rfl ?_
          refine j_getq (q := 74) hC dX11_save_82 f_X11_98 (zFx_kd hF 48 rfl) rfl 42 rfl (zFx_rf hF 48 42 rfl) ?_
          refine j_iload_n hC 1 dX11_save_85 rfl rfl ?_
          refine j_iconst hC dX11_save_86 ?_
          refine j_irem hC dX11_save_87 (w_id kR_5) (by decide) ?_
          refine j_aload_n hC 0 dX11_save_88 rfl rfl ?_
          refine j_getq (q := 53) hC dX11_save_89 f_X11_22 (zFx_kd hF 48 rfl) rfl 6 rfl (zFx_rf hF 48 6 rfl) ?_
          refine j_iload_n hC 1 dX11_save_92 rfl rfl ?_
          refine j_iconst hC dX11_save_93 ?_
          refine j_irem hC dX11_save_94 (w_id kR_5) (by decide) ?_
          obtain ⟨c28, h⟩ := zchk_ex h
          refine j_iald (n := 5) hC dX11_save_95 (w_id (cR_zrem _ _)) (zFx_kd hF 53 rfl) (zFx_ln hF 53 rfl) c28.1 c28.2 (fun hg29 => ?_)
          obtain ⟨c30, h⟩ := zchk_ex h
          obtain ⟨M31, eM31, h⟩ := zlet_ex h
          refine j_iast (n := 5) hC dX11_save_96 (w_id (cR_zrem _ _)) (w_id hg29) hg29 (zFx_kd hF 74 rfl) (zFx_ln hF 74 rfl) c30.1 c30.2 eM31 ?_
          obtain ⟨x32, ex32, h⟩ := zlet_ex h
          have hx32 : inR x32 := by rw [ex32]; exact inR_w _
          refine j_iinc hC 1 dX11_save_97 rfl ex32 (Nat.le_of_ble_eq_true rfl) rfl ?_
          refine j_goto hC dX11_save_100 rfl ?_
          obtain rfl := Option.some.inj h
          refine j_sub [1, 0] rfl ?_
          exact ih12 x32 hx32 M31 hT
    exact main zN v1 hv1 M hl
  refine j_aload_n hC 0 dX11_save_0 rfl rfl ?_
  refine j_iconst hC dX11_save_1 ?_
  obtain ⟨M33, eM33, h⟩ := zlet_ex h
  refine j_put hC dX11_save_2 f_X11_104 pF_X11 (zFx_kd hF 48 rfl) (Or.inl rfl) rfl 0 rfl (w_id kR_0) kR_0 eM33 ?_
  refine j_aload_n hC 0 dX11_save_5 rfl rfl ?_
  refine j_iconst hC dX11_save_6 ?_
  obtain ⟨M34, eM34, h⟩ := zlet_ex h
  refine j_put hC dX11_save_7 f_X11_353 pF_X11 (zFx_kd hF 48 rfl) (Or.inr rfl) rfl 37 rfl (w_id kR_1) zb01_1 eM34 ?_
  refine j_iconst hC dX11_save_10 ?_
  refine j_istore_n hC dX11_save_11 rfl (Nat.le_of_ble_eq_true rfl) rfl ?_
  refine j_sub [1, 0] rfl ?_
  exact L_12 0 kR_0 M34 h
set_option maxHeartbeats 4000000 in
set_option maxRecDepth 100000 in
theorem c_X11_restore (l : Launch) (hlt : l.stackTraces = false) (g : zG) (M : zM) (S : zS) (hF : zFx S) {M' : zM} (h : F_X11_restore M = some M') : zMet l g yX11_restore cX11_restore 2 none 1 0 0 [zr g 48] M S (.inl none) M' S (True) := by
  refine zMet_of (by decide) hlt [(0, zr g 48)] rfl (Nat.le_of_ble_eq_true rfl) (fun K hC hE hN => ?_)
  unfold F_X11_restore at h
  have J_116 : ∀ (M : zM) (_ : F_X11_restore_J116 M = some M'), zJ K g 0 0 116 2 [(0, zr g 48)] [] M S := by
    intro M h
    unfold F_X11_restore_J116 at h
    refine j_aload_n hC 0 dX11_restore_116 rfl rfl ?_
    refine j_getz hC dX11_restore_117 f_X11_353 (zFx_kd hF 48 rfl) rfl 37 rfl (fun hg1 => ?_)
    refine j_if_eq hC dX11_restore_120 rfl (w_id (inR_b hg1)) (fun c2 => ?_) (fun c2 => ?_)
    · have h := zt c2 h
      have e1 := Option.some.inj h
      exact j_vret hC hE dX11_restore_173 rfl e1 rfl trivial (Nat.le_of_ble_eq_true rfl) (Nat.le_of_ble_eq_true rfl)
    · have h := zf c2 h
      refine j_aload_n hC 0 dX11_restore_123 rfl rfl ?_
      refine j_aload_n hC 0 dX11_restore_124 rfl rfl ?_
      refine j_getq (q := 75) hC dX11_restore_125 f_X11_101 (zFx_kd hF 48 rfl) rfl 43 rfl (zFx_rf hF 48 43 rfl) ?_
      refine j_iconst hC dX11_restore_128 ?_
      refine j_iald (n := 5) hC dX11_restore_129 (w_id kR_0) (zFx_kd hF 75 rfl) (zFx_ln hF 75 rfl) (by decide) (by decide) (fun hg3 => ?_)
      obtain ⟨M4, eM4, h⟩ := zlet_ex h
      refine j_put hC dX11_restore_130 f_X11_128 pF_X11 (zFx_kd hF 48 rfl) (Or.inl rfl) rfl 2 rfl (w_id hg3) hg3 eM4 ?_
      refine j_aload_n hC 0 dX11_restore_133 rfl rfl ?_
      refine j_aload_n hC 0 dX11_restore_134 rfl rfl ?_
      refine j_getq (q := 75) hC dX11_restore_135 f_X11_101 (zFx_kd hF 48 rfl) rfl 43 rfl (zFx_rf hF 48 43 rfl) ?_
      refine j_iconst hC dX11_restore_138 ?_
      refine j_iald (n := 5) hC dX11_restore_139 (w_id kR_1) (zFx_kd hF 75 rfl) (zFx_ln hF 75 rfl) (by decide) (by decide) (fun hg5 => ?_)
      obtain ⟨M6, eM6, h⟩ := zlet_ex h
      refine j_put hC dX11_restore_140 f_X11_121 pF_X11 (zFx_kd hF 48 rfl) (Or.inl rfl) rfl 7 rfl (w_id hg5) hg5 eM6 ?_
      refine j_aload_n hC 0 dX11_restore_143 rfl rfl ?_
      refine j_aload_n hC 0 dX11_restore_144 rfl rfl ?_
      refine j_getq (q := 75) hC dX11_restore_145 f_X11_101 (zFx_kd hF 48 rfl) rfl 43 rfl (zFx_rf hF 48 43 rfl) ?_
      refine j_iconst hC dX11_restore_148 ?_
      refine j_iald (n := 5) hC dX11_restore_149 (w_id kR_2) (zFx_kd hF 75 rfl) (zFx_ln hF 75 rfl) (by decide) (by decide) (fun hg7 => ?_)
      obtain ⟨M8, eM8, h⟩ := zlet_ex h
      refine j_put hC dX11_restore_150 f_X11_25 pF_X11 (zFx_kd hF 48 rfl) (Or.inl rfl) rfl 8 rfl (w_id hg7) hg7 eM8 ?_
      refine j_aload_n hC 0 dX11_restore_153 rfl rfl ?_
      refine j_aload_n hC 0 dX11_restore_154 rfl rfl ?_
      refine j_getq (q := 75) hC dX11_restore_155 f_X11_101 (zFx_kd hF 48 rfl) rfl 43 rfl (zFx_rf hF 48 43 rfl) ?_
      refine j_iconst hC dX11_restore_158 ?_
      refine j_iald (n := 5) hC dX11_restore_159 (w_id kR_3) (zFx_kd hF 75 rfl) (zFx_ln hF 75 rfl) (by decide) (by decide) (fun hg9 => ?_)
      obtain ⟨M10, eM10, h⟩ := zlet_ex h
      refine j_put hC dX11_restore_160 f_X11_29 pF_X11 (zFx_kd hF 48 rfl) (Or.inl rfl) rfl 9 rfl (w_id hg9) hg9 eM10 ?_
      refine j_aload_n hC 0 dX11_restore_163 rfl rfl ?_
      refine j_aload_n hC 0 dX11_restore_164 rfl rfl ?_
      refine j_getq (q := 75) hC dX11_restore_165 f_X11_101 (zFx_kd hF 48 rfl) rfl 43 rfl (zFx_rf hF 48 43 rfl) ?_
      refine j_iconst hC dX11_restore_168 ?_
      refine j_iald (n := 5) hC dX11_restore_169 (w_id kR_4) (zFx_kd hF 75 rfl) (zFx_ln hF 75 rfl) (by decide) (by decide) (fun hg11 => ?_)
      obtain ⟨M12, eM12, h⟩ := zlet_ex h
      refine j_put hC dX11_restore_170 f_X11_317 pF_X11 (zFx_kd hF 48 rfl) (Or.inl rfl) rfl 29 rfl (w_id hg11) hg11 eM12 ?_
      have e1 := Option.some.inj h
      exact j_vret hC hE dX11_restore_173 rfl e1 rfl trivial (Nat.le_of_ble_eq_true rfl) (Nat.le_of_ble_eq_true rfl)
  have L_18 : ∀ (v1 : Int) (hv1 : inR v1) (M : zM) (_ : F_X11_restore_L18 v1 M = some M'), zJ K g 0 0 18 2 [(0, zr g 48), (1, .int (zi v1))] [] M S := by
    intro v1 hv1 M h
    unfold F_X11_restore_L18 at h
    obtain ⟨ex18, hl, hd18⟩ := zb1_ex h
    obtain ⟨bd18, ebd⟩ : ∃ f, f = (fun (s : Int × zM) => F_X11_restore_B18 s.1 s.2) := ⟨_, rfl⟩
    rw [← ebd] at hl
    have main : ∀ (n18 : Nat) (v1 : Int) (hv1 : inR v1) (M : zM) (_ : zloop bd18 n18 (v1, M) = some ex18), zJ K g 0 0 18 2 [(0, zr g 48), (1, .int (zi v1))] [] M S := by
      intro n18
      induction n18 with
      | zero => intro v1 hv1 M hl; exact zloop_0 hl
      | succ n18 ih18 =>
        intro v1 hv1 M hl
        obtain ⟨o, h, hT⟩ := zloop_ex hl
        have h : F_X11_restore_B18 v1 M = some o := by rw [ebd] at h; exact h
        unfold F_X11_restore_B18 at h
        refine j_iload_n hC 1 dX11_restore_18 rfl rfl ?_
        refine j_sipush hC dX11_restore_19 rfl ?_
        refine j_icmp_ge hC dX11_restore_22 rfl (w_id hv1) (w_id kR_300) (fun c13 => ?_) (fun c13 => ?_)
        · have h := zf c13 h
          obtain rfl := Option.some.inj h
          have hx18 := hd18
          rw [← show _ = ex18 from hT] at hx18
          refine j_sub [0] rfl ?_
          exact J_116 M hx18
        · have h := zt c13 h
          refine j_aload_n hC 0 dX11_restore_25 rfl rfl ?_
          refine j_getz hC dX11_restore_26 f_X11_353 (zFx_kd hF 48 rfl) rfl 37 rfl (fun hg14 => ?_)
          refine j_if_eq hC dX11_restore_29 rfl (w_id (inR_b hg14)) (fun c15 => ?_) (fun c15 => ?_)
          · have h := zt c15 h
            obtain rfl := Option.some.inj h
            have hx18 := hd18
            rw [← show _ = ex18 from hT] at hx18
            refine j_sub [0] rfl ?_
            exact J_116 M hx18
          · have h := zf c15 h
            refine j_aload_n hC 0 dX11_restore_32 rfl rfl ?_
            refine j_getq (q := 52) hC dX11_restore_33 f_X11_19 (zFx_kd hF 48 rfl) rfl 5 rfl (zFx_rf hF 48 5 rfl) ?_
            refine j_iload_n hC 1 dX11_restore_36 rfl rfl ?_
            refine j_aload_n hC 0 dX11_restore_37 rfl rfl ?_
            refine j_getq (q := 73) hC dX11_restore_38 f_X11_95 (zFx_kd hF 48 rfl) rfl 41 rfl (zFx_rf hF 48 41 rfl) ?_
            refine j_iload_n hC 1 dX11_restore_41 rfl rfl ?_
            obtain ⟨c16, h⟩ := zchk_ex h
            refine j_iald (n := 300) hC dX11_restore_42 (w_id hv1) (zFx_kd hF 73 rfl) (zFx_ln hF 73 rfl) c16.1 c16.2 (fun hg17 => ?_)
            obtain ⟨c18, h⟩ := zchk_ex h
            obtain ⟨M19, eM19, h⟩ := zlet_ex h
            refine j_iast (n := 300) hC dX11_restore_43 (w_id hv1) (w_id hg17) hg17 (zFx_kd hF 52 rfl) (zFx_ln hF 52 rfl) c18.1 c18.2 eM19 ?_
            refine j_aload_n hC 0 dX11_restore_44 rfl rfl ?_
            refine j_getq (q := 49) hC dX11_restore_45 f_X11_7 (zFx_kd hF 48 rfl) rfl 1 rfl (zFx_rf hF 48 1 rfl) ?_
            refine j_iload_n hC 1 dX11_restore_48 rfl rfl ?_
            refine j_bipush hC dX11_restore_49 rfl ?_
            refine j_irem hC dX11_restore_51 (w_id kR_6) (by decide) ?_
            refine j_aload_n hC 0 dX11_restore_52 rfl rfl ?_
            refine j_getq (q := 70) hC dX11_restore_53 f_X11_86 (zFx_kd hF 48 rfl) rfl 38 rfl (zFx_rf hF 48 38 rfl) ?_
            refine j_iload_n hC 1 dX11_restore_56 rfl rfl ?_
            refine j_bipush hC dX11_restore_57 rfl ?_
            refine j_irem hC dX11_restore_59 (w_id kR_6) (by decide) ?_
            obtain ⟨c20, h⟩ := zchk_ex h
            refine j_iald (n := 6) hC dX11_restore_60 (w_id (cR_zrem _ _)) (zFx_kd hF 70 rfl) (zFx_ln hF 70 rfl) c20.1 c20.2 (fun hg21 => ?_)
            obtain ⟨c22, h⟩ := zchk_ex h
            obtain ⟨M23, eM23, h⟩ := zlet_ex h
            refine j_iast (n := 6) hC dX11_restore_61 (w_id (cR_zrem _ _)) (w_id hg21) hg21 (zFx_kd hF 49 rfl) (zFx_ln hF 49 rfl) c22.1 c22.2 eM23 ?_
            refine j_aload_n hC 0 dX11_restore_62 rfl rfl ?_
            refine j_getq (q := 50) hC dX11_restore_63 f_X11_13 (zFx_kd hF 48 rfl) rfl 3 rfl (zFx_rf hF 48 3 rfl) ?_
            refine j_iload_n hC 1 dX11_restore_66 rfl rfl ?_
            refine j_iconst hC dX11_restore_67 ?_
            refine j_irem hC dX11_restore_68 (w_id kR_5) (by decide) ?_
            refine j_aload_n hC 0 dX11_restore_69 rfl rfl ?_
            refine j_getq (q := 71) hC dX11_restore_70 f_X11_89 (zFx_kd hF 48 rfl) rfl 39 rfl (zFx_rf hF 48 39 rfl) ?_
            refine j_iload_n hC 1 dX11_restore_73 rfl rfl ?_
            refine j_iconst hC dX11_restore_74 ?_
            refine j_irem hC dX11_restore_75 (w_id kR_5) (by decide) ?_
            obtain ⟨c24, h⟩ := zchk_ex h
            refine j_iald (n := 5) hC dX11_restore_76 (w_id (cR_zrem _ _)) (zFx_kd hF 71 rfl) (zFx_ln hF 71 rfl) c24.1 c24.2 (fun hg25 => ?_)
            obtain ⟨c26, h⟩ := zchk_ex h
            obtain ⟨M27, eM27, h⟩ := zlet_ex h
            refine j_iast (n := 5) hC dX11_restore_77 (w_id (cR_zrem _ _)) (w_id hg25) hg25 (zFx_kd hF 50 rfl) (zFx_ln hF 50 rfl) c26.1 c26.2 eM27 ?_
            refine j_aload_n hC 0 dX11_restore_78 rfl rfl ?_
            refine j_getq (q := 51) hC dX11_restore_79 f_X11_16 (zFx_kd hF 48 rfl) rfl 4 rfl (zFx_rf hF 48 4 rfl) ?_
            refine j_iload_n hC 1 dX11_restore_82 rfl rfl ?_
            refine j_iconst hC dX11_restore_83 ?_
            refine j_irem hC dX11_restore_84 (w_id kR_5) (by decide) ?_
            refine j_aload_n hC 0 dX11_restore_85 rfl rfl ?_
            refine j_getq (q := 72) hC dX11_restore_86 f_X11_92 (zFx_kd hF 48 rfl) rfl 40 rfl (zFx_rf hF 48 40 rfl) ?_
            refine j_iload_n hC 1 dX11_restore_89 rfl rfl ?_
            refine j_iconst hC dX11_restore_90 ?_
            refine j_irem hC dX11_restore_91 (w_id kR_5) (by decide) ?_
            obtain ⟨c28, h⟩ := zchk_ex h
            refine j_iald (n := 5) hC dX11_restore_92 (w_id (cR_zrem _ _)) (zFx_kd hF 72 rfl) (zFx_ln hF 72 rfl) c28.1 c28.2 (fun hg29 => ?_)
            obtain ⟨c30, h⟩ := zchk_ex h
            obtain ⟨M31, eM31, h⟩ := zlet_ex h
            refine j_iast (n := 5) hC dX11_restore_93 (w_id (cR_zrem _ _)) (w_id hg29) hg29 (zFx_kd hF 51 rfl) (zFx_ln hF 51 rfl) c30.1 c30.2 eM31 ?_
            refine j_aload_n hC 0 dX11_restore_94 rfl rfl ?_
            refine j_getq (q := 53) hC dX11_restore_95 f_X11_22 (zFx_kd hF 48 rfl) rfl 6 rfl (zFx_rf hF 48 6 rfl) ?_
            refine j_iload_n hC 1 dX11_restore_98 rfl rfl ?_
            refine j_iconst hC dX11_restore_99 ?_
            refine j_irem hC dX11_restore_100 (w_id kR_5) (by decide) ?_
            refine j_aload_n hC 0 dX11_restore_101 rfl rfl ?_
            refine j_getq (q := 74) hC dX11_restore_102 f_X11_98 (zFx_kd hF 48 rfl) rfl 42 rfl (zFx_rf hF 48 42 rfl) ?_
            refine j_iload_n hC 1 dX11_restore_105 rfl rfl ?_
            refine j_iconst hC dX11_restore_106 ?_
            refine j_irem hC dX11_restore_107 (w_id kR_5) (by decide) ?_
            obtain ⟨c32, h⟩ := zchk_ex h
            refine j_iald (n := 5) hC dX11_restore_108 (w_id (cR_zrem _ _)) (zFx_kd hF 74 rfl) (zFx_ln hF 74 rfl) c32.1 c32.2 (fun hg33 => ?_)
            obtain ⟨c34, h⟩ := zchk_ex h
            obtain ⟨M35, eM35, h⟩ := zlet_ex h
            refine j_iast (n := 5) hC dX11_restore_109 (w_id (cR_zrem _ _)) (w_id hg33) hg33 (zFx_kd hF 53 rfl) (zFx_ln hF 53 rfl) c34.1 c34.2 eM35 ?_
            obtain ⟨x36, ex36, h⟩ := zlet_ex h
            have hx36 : inR x36 := by rw [ex36]; exact inR_w _
            refine j_iinc hC 1 dX11_restore_110 rfl ex36 (Nat.le_of_ble_eq_true rfl) rfl ?_
            refine j_goto hC dX11_restore_113 rfl ?_
            obtain rfl := Option.some.inj h
            refine j_sub [1, 0] rfl ?_
            exact ih18 x36 hx36 M35 hT
    exact main zN v1 hv1 M hl
  have J_13 : ∀ (t1 : Int) (ht1 : inR t1) (M : zM) (_ : F_X11_restore_J13 t1 M = some M'), zJ K g 0 0 13 2 [(0, zr g 48)] [.int (zi t1), zr g 48] M S := by
    intro t1 ht1 M h
    unfold F_X11_restore_J13 at h
    obtain ⟨M37, eM37, h⟩ := zlet_ex h
    refine j_put hC dX11_restore_13 f_X11_104 pF_X11 (zFx_kd hF 48 rfl) (Or.inl rfl) rfl 0 rfl (w_id ht1) ht1 eM37 ?_
    refine j_iconst hC dX11_restore_16 ?_
    refine j_istore_n hC dX11_restore_17 rfl (Nat.le_of_ble_eq_true rfl) rfl ?_
    refine j_sub [1, 0] rfl ?_
    exact L_18 0 kR_0 M37 h
  refine j_aload_n hC 0 dX11_restore_0 rfl rfl ?_
  refine j_aload_n hC 0 dX11_restore_1 rfl rfl ?_
  refine j_getz hC dX11_restore_2 f_X11_353 (zFx_kd hF 48 rfl) rfl 37 rfl (fun hg38 => ?_)
  refine j_if_eq hC dX11_restore_5 rfl (w_id (inR_b hg38)) (fun c39 => ?_) (fun c39 => ?_)
  · have h := zt c39 h
    refine j_iconst hC dX11_restore_12 ?_
    exact J_13 1 kR_1 M h
  · have h := zf c39 h
    refine j_iconst hC dX11_restore_8 ?_
    refine j_goto hC dX11_restore_9 rfl ?_
    exact J_13 0 kR_0 M h
