/-! PURE 84: texts: characters, digits, the end -/
theorem zi2b_id : ∀ c : Nat, c < 128 → zi2b (zi2b (c : Int)) = (c : Int) ∧ zi2b (c : Int) = (c : Int) ∧ zi2c (zand (c : Int) 255) = (c : Int) := by decide +kernel
theorem sb_lat {n q : Nat} {T : List Int} {M : zM} {S : zS} (h : sbO n q T M S) : F_J5_isLatin1_aae02 q M S = some 1 := by
  unfold F_J5_isLatin1_aae02
  rw [if_neg (by decide), zchk_pos h.2.1, if_pos h.2.2.1]
theorem SB_chr {n q : Nat} {T : List Int} {M : zM} {S : zS} {c : Int} (h : sbO n q T M S) (h0 : 0 ≤ c) (h1 : c < 128) (hl : T.length + 1 ≤ 34) : Ok (F_J4_append_cf468 q c M S) (fun r => r.1 = q ∧ kp n S M r.2.2 r.2.1 ∧ sbO n q (T ++ [c]) r.2.1 r.2.2 ∧ r.2.2.1 ≤ S.1 + 1 ∧ (T.length + 1 ≤ 16 → r.2.2 = S)) := by
  obtain ⟨⟨a1, a2, a3⟩, b1, b2, b3, ⟨c1, c2⟩, c3, c4, c5, c6, c7⟩ := id h
  unfold F_J4_append_cf468
  refine Ok.chk b1 (Ok.b3 (Q := fun r => kp n S M r.2.2 r.2.1 ∧ sbO n q (T ++ [c]) r.2.1 r.2.2 ∧ r.2.2.1 ≤ S.1 + 1 ∧ (T.length + 1 ≤ 16 → r.2.2 = S)) ?_ (fun a M1 S1 g => Ok.ret ⟨rfl, g⟩))
  unfold F_J5_append_3fe6f
  refine Ok.chk b1 (Ok.chk b1 ?_)
  rw [b3, w_id ⟨by omega, by omega⟩]
  refine Ok.b2 (SB_ens h (m := (T.length : Int) + 1) (by omega) (by omega)) (fun M4 S5 ⟨g1, g2, g3, g4, g5, g6⟩ => ?_)
  dsimp only at g1 g2 g3 g4 g5 g6
  obtain ⟨⟨d1, d2, d3⟩, e1, e2, e3, ⟨f1, f2⟩, f3, f4, f5, f6, f7⟩ := id g2
  refine Ok.chk e1 ?_
  rw [sb_lat g2]
  simp only [zb1_some]
  rw [if_neg (by decide)]
  unfold F_J1_canEncode_fc78d
  rw [if_neg (by omega)]
  simp only [zb1_some]
  rw [if_neg (by decide)]
  have hqr : q ≠ zrf S5 q 0 := fun e => by rw [← e] at f3; omega
  have hz := (zi2b_id c.toNat (by omega)).1
  rw [show ((c.toNat : Nat) : Int) = c by omega] at hz
  refine Ok.chk e1 (Ok.chk e1 (Ok.chk e1 (Ok.lett (Ok.chk f3 (Ok.chk ⟨by omega, by omega⟩ (Ok.lett (Ok.ret ?_)))))))
  rw [e3, w_id ⟨by omega, by omega⟩, hz]
  obtain ⟨M8, hM8⟩ : ∃ M8, M8 = zs (zs M4 q 3 ((T.length : Int) + 1)) (zrf S5 q 0) (T.length : Int) c := ⟨_, rfl⟩
  have hr : ∀ b, b ≠ q → b ≠ zrf S5 q 0 → M8 b = M4 b := fun b h8 h9 => by rw [hM8, zs_ne _ _ _ h9, zs_ne _ _ _ h8]
  have hq3 : M8 q 3 = (T.length : Int) + 1 := by rw [hM8, zs_ne _ _ _ hqr, zs_at]
  have hq1 : M8 q 1 = 0 := by rw [hM8, zs_ne _ _ _ hqr, zs_off _ _ (Or.inr (by decide))]; exact e2
  have hrn : M8 (zrf S5 q 0) (T.length : Int) = c := by rw [hM8]; exact zs_at _ _ _ _
  have hro : ∀ k : Int, k < (T.length : Int) → M8 (zrf S5 q 0) k = M4 (zrf S5 q 0) k := fun k hk => by rw [hM8, zs_off _ _ (Or.inr (by omega)), zs_ne _ _ _ (fun e => hqr e.symm)]
  rw [← hM8]
  clear hM8
  dsimp only
  refine ⟨g1.trans ⟨⟨Nat.le_refl _, Nat.le_trans g1.1.2 g1.1.1⟩, fun b hb => ⟨rfl, rfl, hr b (by omega) (by omega)⟩⟩, g2.put (fun x hx => by rw [List.mem_singleton.mp hx]; exact ⟨h0, h1⟩) (by rw [List.length_append]; simp only [List.length_cons, List.length_nil]; omega) hq1 (by rw [hq3, List.length_append]; simp only [List.length_cons, List.length_nil]; omega) (fun k _ k1 => hro k k1) (fun i x hi => ?_), g4, fun z => g6 (by omega)⟩
  match i, hi with
  | 0, hi => cases hi; rw [show (T.length : Int) + ((0 : Nat) : Int) = (T.length : Int) by omega]; exact hrn
  | i + 1, hi => simp at hi
theorem ss_1 {v : Int} (h0 : 0 ≤ v) (h1 : v ≤ 9) : F_J6_stringSize_0f7a4 v = some 1 := by
  refine Ok.eqs ?_
  unfold F_J6_stringSize_0f7a4 F_J6_stringSize_0f7a4_J11 F_J6_stringSize_0f7a4_L16
  rw [if_neg (by omega), zlet_eq, w_id (a := -v) ⟨by omega, by omega⟩]
  refine Ok.loop (fun s => s = ((-10 : Int), (1 : Int))) (fun _ => 0) (fun e => e = Sum.inl (1 : Int)) rfl (by decide) (fun s hs => ?_) (fun e he => ?_)
  · subst hs
    unfold F_J6_stringSize_0f7a4_B16
    dsimp only
    rw [if_pos (by decide), if_pos (by omega)]
    exact Ok.ret rfl
  · subst he
    show Ok (F_J6_stringSize_0f7a4_J27 0 1) _
    unfold F_J6_stringSize_0f7a4_J27
    exact Ok.ret (by decide +kernel)
theorem SB_int {n q : Nat} {T : List Int} {M : zM} {S : zS} {v : Int} (h : sbO n q T M S) (h0 : 0 ≤ v) (h1 : v ≤ 9) (hl : T.length + 1 ≤ 34) : Ok (F_J4_append_bf812 q v M S) (fun r => r.1 = q ∧ kp n S M r.2.2 r.2.1 ∧ sbO n q (T ++ [48 + v]) r.2.1 r.2.2 ∧ r.2.2.1 ≤ S.1 + 1) := by
  obtain ⟨⟨a1, a2, a3⟩, b1, b2, b3, ⟨c1, c2⟩, c3, c4, c5, c6, c7⟩ := id h
  unfold F_J4_append_bf812
  refine Ok.chk b1 (Ok.b3 (Q := fun r => kp n S M r.2.2 r.2.1 ∧ sbO n q (T ++ [48 + v]) r.2.1 r.2.2 ∧ r.2.2.1 ≤ S.1 + 1) ?_ (fun a M1 S1 g => Ok.ret ⟨rfl, g⟩))
  unfold F_J5_append_c97b9
  refine Ok.chk b1 (Ok.lett ?_)
  rw [ss_1 h0 h1]
  simp only [zb1_some]
  refine Ok.lett (Ok.chk b1 ?_)
  rw [b3, w_id ⟨by omega, by omega⟩]
  refine Ok.b2 (SB_ens h (m := (T.length : Int) + 1) (by omega) (by omega)) (fun M4 S5 ⟨g1, g2, g3, g4, g5, g6⟩ => ?_)
  dsimp only at g1 g2 g3 g4 g5 g6
  obtain ⟨⟨d1, d2, d3⟩, e1, e2, e3, ⟨f1, f2⟩, f3, f4, f5, f6, f7⟩ := id g2
  refine Ok.chk e1 ?_
  rw [sb_lat g2]
  simp only [zb1_some]
  rw [if_neg (by decide)]
  refine Ok.chk e1 ?_
  have hqr : q ≠ zrf S5 q 0 := fun e => by rw [← e] at f3; omega
  have hz := (zi2b_id (48 + v).toNat (by omega)).2.1
  rw [show (((48 + v).toNat : Nat) : Int) = 48 + v by omega] at hz
  have hgc : F_J6_getChars_ba4f3 v ((T.length : Int) + 1) (zrf S5 q 0) M4 S5 = some ((T.length : Int), zs M4 (zrf S5 q 0) (T.length : Int) (48 + v)) := by
    unfold F_J6_getChars_ba4f3 F_J6_getChars_ba4f3_J22
    rw [if_neg (by omega), if_pos rfl, zlet_eq, w_id (a := -v) ⟨by omega, by omega⟩, if_pos (by omega)]
    simp only [zlet_eq]
    rw [show -(-v) = v by omega, w_id (a := v) ⟨by omega, by omega⟩, w_id (a := (T.length : Int) + 1 + -1) ⟨by omega, by omega⟩, show (T.length : Int) + 1 + -1 = (T.length : Int) by omega, zchk_pos ⟨h0, by omega⟩, zchk_pos f3, zchk_pos ⟨by omega, by omega⟩, if_neg (by omega), if_pos trivial, hz]
  rw [hgc]
  simp only [zb2_some]
  refine Ok.chk e1 (Ok.lett (Ok.ret ?_))
  obtain ⟨M8, hM8⟩ : ∃ M8, M8 = zs (zs M4 (zrf S5 q 0) (T.length : Int) (48 + v)) q 3 ((T.length : Int) + 1) := ⟨_, rfl⟩
  have hr : ∀ b, b ≠ q → b ≠ zrf S5 q 0 → M8 b = M4 b := fun b h8 h9 => by rw [hM8, zs_ne _ _ _ h8, zs_ne _ _ _ h9]
  have hq3 : M8 q 3 = (T.length : Int) + 1 := by rw [hM8, zs_at]
  have hq1 : M8 q 1 = 0 := by rw [hM8, zs_off _ _ (Or.inr (by decide)), zs_ne _ _ _ hqr]; exact e2
  have hrn : M8 (zrf S5 q 0) (T.length : Int) = 48 + v := by rw [hM8, zs_ne _ _ _ (fun e => hqr e.symm)]; exact zs_at _ _ _ _
  have hro : ∀ k : Int, k < (T.length : Int) → M8 (zrf S5 q 0) k = M4 (zrf S5 q 0) k := fun k hk => by rw [hM8, zs_ne _ _ _ (fun e => hqr e.symm), zs_off _ _ (Or.inr (by omega))]
  rw [← hM8]
  clear hM8
  dsimp only
  refine ⟨g1.trans ⟨⟨Nat.le_refl _, Nat.le_trans g1.1.2 g1.1.1⟩, fun b hb => ⟨rfl, rfl, hr b (by omega) (by omega)⟩⟩, g2.put (fun x hx => by rw [List.mem_singleton.mp hx]; exact ⟨by omega, by omega⟩) (by rw [List.length_append]; simp only [List.length_cons, List.length_nil]; omega) hq1 (by rw [hq3, List.length_append]; simp only [List.length_cons, List.length_nil]; omega) (fun k _ k1 => hro k k1) (fun i x hi => ?_), g4⟩
  match i, hi with
  | 0, hi => cases hi; rw [show (T.length : Int) + ((0 : Nat) : Int) = (T.length : Int) by omega]; exact hrn
  | i + 1, hi => simp at hi
theorem cpR {row : Nat} {T : List Int} {M : zM} {S : zS} (k24 : zkd S row = 24) (hrow : row ≤ S.1) (hT : (T.length : Int) ≤ zlen S row) (hc : zlen S row ≤ 100) (hr : rowl (M row) T) : Ok (F_J7_copyOfRange_39247 row 0 (T.length : Int) M S) (fun r => r.1 = S.1 + 1 ∧ r.2.2 = zn S (24, T.length) ∧ (∀ b, b ≤ S.1 → r.2.1 b = M b) ∧ rowl (r.2.1 (S.1 + 1)) T) := by
  unfold F_J7_copyOfRange_39247 F_J7_copyOfRange_39247_J10
  rw [if_pos rfl, zchk_pos k24]
  refine Ok.ite (fun e => ?_) (fun e => ?_)
  · rw [← e, show ((T.length : Int)).toNat = T.length from Int.toNat_natCast _]
    refine Ok.chk k24 (Ok.chk (by omega) (Ok.lett (Ok.lett (Ok.lett (Ok.chk (zk_new rfl).1 (Ok.ret ⟨rfl, rfl, fun b hb => up_ne _ _ (by omega), ?_⟩))))))
    dsimp only
    rw [up_eq]; exact hr
  · refine Ok.b3 (Q := fun r => r.1 = S.1 + 1 ∧ r.2.2 = zn S (24, T.length) ∧ (∀ b, b ≤ S.1 → r.2.1 b = M b) ∧ rowl (r.2.1 (S.1 + 1)) T) ?_ (fun a M1 S1 g => Ok.ret g)
    unfold F_J7_copyOfRangeByte_39247 F_J7_checkLength_df160
    rw [if_neg (by omega)]
    simp only [zb1_some]
    refine Ok.lett ?_
    rw [show (T.length : Int) - 0 = (T.length : Int) by omega, w_id ⟨by omega, by omega⟩, show ((T.length : Int)).toNat = T.length from Int.toNat_natCast _]
    have kr : zkd (zn S (24, T.length)) row = 24 := by rw [(zk_old hrow).1]; exact k24
    have lr : zlen (zn S (24, T.length)) row = zlen S row := (zk_old hrow).2
    have hm : zmin (w (zlen S row - 0)) (T.length : Int) = (T.length : Int) := by
      rw [w_id ⟨by omega, by omega⟩]
      unfold zmin
      by_cases q : (T.length : Int) < zlen S row - 0
      · rw [if_pos q]
      · rw [if_neg q]; omega
    refine Ok.chk ⟨by omega, by omega⟩ (Ok.lett (Ok.lett (Ok.chk kr (Ok.chk kr (Ok.chk (zk_new rfl).1 ?_)))))
    rw [lr, hm, (zk_new rfl).2]
    refine Ok.chk ⟨by omega, by omega, by omega, by omega, by dsimp only; omega⟩ (Ok.lett (Ok.ret ⟨rfl, rfl, fun b hb => up_ne _ _ (by omega), fun i c hi => ?_⟩))
    have hl := (List.getElem?_eq_some_iff.mp hi).1
    dsimp only
    unfold zcpy
    rw [up_eq]
    show (if 0 ≤ (i : Int) ∧ (i : Int) < 0 + (T.length : Int) then M row (0 + ((i : Int) - 0)) else M (S.1 + 1) (i : Int)) = c
    rw [if_pos ⟨by omega, by omega⟩, show 0 + ((i : Int) - 0) = (i : Int) by omega]
    exact hr i c hi
theorem SB_str {n q : Nat} {T : List Int} {M : zM} {S : zS} (h : sbO n q T M S) : Ok (F_J4_toString_0e30d q M S) (fun r => r.1 = S.1 + 1 ∧ stO r.1 T r.2.1 r.2.2 ∧ kp S.1 S M r.2.2 r.2.1 ∧ r.2.2.1 = S.1 + 2 ∧ zrf r.2.2 r.1 0 = S.1 + 2) := by
  obtain ⟨⟨a1, a2, a3⟩, b1, b2, b3, ⟨c1, c2⟩, c3, c4, c5, c6, c7⟩ := id h
  unfold F_J4_toString_0e30d
  refine Ok.lett (Ok.lett ?_)
  have e1 : (zn S (9, 4)).1 = S.1 + 1 := rfl
  have k8 : zkd (zn S (9, 4)) q = 8 := by rw [(zk_old a2).1]; exact b1
  have k9 : zkd (zn S (9, 4)) (S.1 + 1) = 9 := (zk_new rfl).1
  have rq : zrf (zn S (9, 4)) q 0 = zrf S q 0 := rfl
  refine Ok.b2 (Q := fun r => stO (S.1 + 1) T r.1 r.2 ∧ kp S.1 S M r.2 r.1 ∧ r.2.1 = S.1 + 2 ∧ zrf r.2 (S.1 + 1) 0 = S.1 + 2) ?_ (fun M4 S5 g => Ok.ret ⟨rfl, g⟩)
  unfold F_J0_init_81219
  refine Ok.chk (by omega) (Ok.b2 (Q := fun r => stO (S.1 + 1) T r.1 r.2 ∧ kp S.1 S M r.2 r.1 ∧ r.2.1 = S.1 + 2 ∧ zrf r.2 (S.1 + 1) 0 = S.1 + 2) ?_ (fun M4 S5 g => Ok.ret g))
  unfold F_J0_init_db425 F_J5_getValue_6d5f1 F_J4_length_8abf5 F_J5_length_8abf5 F_J5_isLatin1_aae02
  refine Ok.chk (by omega) (Ok.chk k8 ?_)
  rw [zchk_pos k8, rq]
  simp only [zb1_some]
  refine Ok.chk k8 ?_
  rw [zchk_pos k8, zchk_pos k8]
  simp only [zb1_some]
  refine Ok.chk k8 ?_
  rw [if_neg (by decide), zchk_pos k8, if_pos b2]
  simp only [zb1_some]
  rw [if_neg (by decide)]
  refine Ok.chk k9 (Ok.chk ⟨by decide, by decide⟩ (Ok.lett ?_))
  rw [b3]
  have hz : ∀ b, b ≤ S.1 → zs M (S.1 + 1) 1 0 b = M b := fun b hb => zs_ne _ _ _ (by omega)
  have hz1 : zs M (S.1 + 1) 1 0 (S.1 + 1) 1 = 0 := zs_at _ _ _ _
  generalize zs M (S.1 + 1) 1 0 = M14 at hz hz1
  refine Ok.b3 (cpR (S := zn S (9, 4)) (M := M14) (T := T) (row := zrf S q 0) (by rw [(zk_old c2).1]; exact c3) (by rw [e1]; omega) (by rw [(zk_old c2).2]; exact c5) (by rw [(zk_old c2).2]; omega) (by rw [hz _ c2]; exact c6)) (fun r15 M16 S17 ⟨g1, g2, g3, g4⟩ => ?_)
  dsimp only at g1 g2 g3 g4
  rw [e1] at g1 g3 g4
  subst g1 g2
  have k9' : zkd (zn (zn S (9, 4)) (24, T.length)) (S.1 + 1) = 9 := by rw [(zk_old (by rw [e1]; omega)).1]; exact k9
  refine Ok.chk k9' (Ok.chk (by omega) (Ok.lett (Ok.ret ?_)))
  dsimp only
  refine ⟨⟨⟨by omega, Nat.le_succ _⟩, k9', by rw [g3 _ (by omega)]; exact hz1, ?_, ?_, ?_, ?_, c7⟩, ⟨⟨Nat.le_trans (Nat.le_succ _) (Nat.le_succ _), Nat.le_refl _⟩, fun b hb => ⟨?_, zr_qn (j := 0) (by omega), ?_⟩⟩, rfl, zr_q⟩
  · rw [zr_q]; exact ⟨by omega, Nat.le_refl _⟩
  · rw [zr_q, zk_q.1]; exact (zk_new rfl).1
  · rw [zr_q, zk_q.2]; exact (zk_new rfl).2
  · rw [zr_q]; exact g4
  · show (zn (zn S (9, 4)) (24, T.length)).2.1 b = _
    rw [zn_old (by rw [e1]; omega), zn_old hb]
  · rw [g3 b (by omega)]; exact hz b hb
/-- a character of a text -/
theorem ST_at {r i : Nat} {T : List Int} {M : zM} {S : zS} {c : Int} (h : stO r T M S) (hi : T[i]? = some c) : F_J0_charAt_5068e r (i : Int) M S = some c := by
  obtain ⟨⟨a1, a2⟩, b1, b2, ⟨c1, c2⟩, c3, c4, c6, c7⟩ := h
  have hl := (List.getElem?_eq_some_iff.mp hi).1
  have hc := c7 c (List.mem_of_getElem? hi)
  have hz := (zi2b_id c.toNat (by omega)).2.2
  rw [show ((c.toNat : Nat) : Int) = c by omega] at hz
  unfold F_J0_charAt_5068e F_J0_isLatin1_aae02 F_J1_charAt_3b067
  rw [zchk_pos b1, if_neg (by decide), zchk_pos b1, if_pos b2]
  simp only [zb1_some]
  rw [if_neg (by decide), zchk_pos b1, zchk_pos c3, zchk_pos ⟨by omega, by omega⟩, zchk_pos c3, zchk_pos ⟨by omega, by omega⟩, c6 i c hi, hz, zchk_pos ⟨by omega, by omega⟩]
  simp only [zb1_some]
  rw [zchk_pos ⟨by omega, by omega⟩]
