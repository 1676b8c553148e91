/-! PURE 83: texts: making, appending, ending -/
theorem Ok.b3 {α γ δ β : Type} {x : Option (α × γ × δ)} {k : α → γ → δ → Option β} {P : β → Prop} {Q : α × γ × δ → Prop} (h : Ok x Q) (i : ∀ a c d, Q (a, c, d) → Ok (k a c d) P) : Ok (zb3 x k) P := by
  obtain ⟨⟨a, c, d⟩, h1, h2⟩ := h
  rw [h1, zb3_some]
  exact i a c d h2
theorem zn_old {S : zS} {kd : Nat × Nat} {b : Nat} (hb : b ≤ S.1) : (zn S kd).2.1 b = S.2.1 b := up_ne _ _ (by omega)
theorem zn_new {S : zS} {kd : Nat × Nat} {b : Nat} (hb : b = S.1 + 1) : (zn S kd).2.1 b = kd := by subst hb; exact up_eq _ _ _
theorem zk_new {S : zS} {kd : Nat × Nat} {b : Nat} (hb : b = S.1 + 1) : zkd (zn S kd) b = kd.1 ∧ zlen (zn S kd) b = (kd.2 : Int) := by
  unfold zkd zlen
  rw [zn_new hb]
  exact ⟨rfl, rfl⟩
theorem zk_old {S : zS} {kd : Nat × Nat} {b : Nat} (hb : b ≤ S.1) : zkd (zn S kd) b = zkd S b ∧ zlen (zn S kd) b = zlen S b := by
  unfold zkd zlen
  rw [zn_old hb]
  exact ⟨rfl, rfl⟩
theorem zk_q {S : zS} {a b v : Nat} {k : Int} : zkd (zq S a k v) b = zkd S b ∧ zlen (zq S a k v) b = zlen S b := ⟨rfl, rfl⟩
theorem zr_q {S : zS} {a v : Nat} {k : Int} : zrf (zq S a k v) a k = v := by
  show up S.2.2 a (up (S.2.2 a) k v) a k = v
  rw [up_eq, up_eq]
theorem zr_qn {S : zS} {a b v : Nat} {k j : Int} (h : b ≠ a) : (zq S a k v).2.2 b = S.2.2 b := up_ne _ _ h
theorem SB_new {n : Nat} {S : zS} {M : zM} (hn : n ≤ S.1) (h89 : 89 ≤ n) : Ok (F_J4_init_da8c8 (S.1 + 1) (up M (S.1 + 1) (fun _ => 0)) (zn S (8, 4))) (fun r => kp n S M r.2 r.1 ∧ sbO n (S.1 + 1) [] r.1 r.2 ∧ r.2.1 = S.1 + 2) := by
  unfold F_J4_init_da8c8 F_J5_init_d00df
  refine Ok.chk (by omega) ?_
  rw [zchk_pos (by omega), if_neg (by decide), zchk_pos ⟨by decide, by decide⟩]
  have e16 : (16 : Int).toNat = 16 := rfl
  rw [e16]
  have e1 : (zn S (8, 4)).1 = S.1 + 1 := rfl
  have k8 : zkd (zn (zn S (8, 4)) (24, 16)) (S.1 + 1) = 8 := by rw [(zk_old (by rw [e1]; omega)).1, (zk_new rfl).1]
  simp only [zlet_eq]
  rw [zchk_pos k8, zchk_pos (by omega), zk_q.1, zchk_pos k8, zchk_pos ⟨by decide, by decide⟩]
  simp only [zb2_some, e1]
  refine Ok.ret ⟨⟨⟨Nat.le_trans (Nat.le_succ _) (Nat.le_succ _), hn⟩, fun b hb => ⟨?_, ?_, ?_⟩⟩, ⟨⟨by omega, Nat.le_succ _, h89⟩, ?_, ?_, ?_, ?_, ?_, ?_, ?_, ?_, ?_⟩, rfl⟩
  · show (zn (zn S (8, 4)) (24, 16)).2.1 b = _
    rw [zn_old (by rw [e1]; omega), zn_old (by omega)]
  · exact zr_qn (j := 0) (by omega)
  · show zs (up M (S.1 + 1) (fun _ => 0)) (S.1 + 1) 1 0 b = M b
    rw [zs_ne _ _ _ (show b ≠ S.1 + 1 by omega)]; exact up_ne _ _ (by omega)
  · exact k8
  · exact zs_at _ _ _ _
  · show zs (up M (S.1 + 1) (fun _ => 0)) (S.1 + 1) 1 0 (S.1 + 1) 3 = 0
    rw [zs_off _ _ (Or.inr (by decide)), up_eq]
  · rw [zr_q]; exact ⟨by omega, Nat.le_refl _⟩
  · rw [zr_q, zk_q.1]; exact (zk_new rfl).1
  · rw [zr_q, zk_q.2]; exact Or.inl (zk_new rfl).2
  · rw [zr_q, zk_q.2, (zk_new (by rw [e1])).2]; exact Int.natCast_nonneg _
  · exact rowl_nil _
  · intro c hc; cases hc
/-- the cells but q's references stand -/
def kq (q : Nat) (S : zS) (M : zM) (S1 : zS) (M1 : zM) : Prop := S.1 ≤ S1.1 ∧ ∀ b, b ≤ S.1 → S1.2.1 b = S.2.1 b ∧ M1 b = M b ∧ (b ≠ q → S1.2.2 b = S.2.2 b)
theorem txO.kq {v q : Nat} {T : List Int} {M M1 : zM} {S S1 : zS} (h : txO v T M S) (hq : zkd S q = 8) (k : kq q S M S1 M1) : txO v T M1 S1 := by
  rcases h with h | ⟨⟨a1, a2⟩, b1, b2, ⟨c1, c2⟩, c3, c4, c6, c7⟩
  · exact Or.inl h
  · have hn := k.1
    have hv : v ≠ q := fun e => by subst e; omega
    have e1 := k.2 v a2
    have e2 := k.2 _ c2
    have er : zrf S1 v 0 = zrf S v 0 := by unfold zrf; rw [e1.2.2 hv]
    refine Or.inr ⟨⟨a1, by omega⟩, by unfold zkd at *; rw [e1.1]; exact b1, by rw [e1.2.1]; exact b2, ?_, ?_, ?_, ?_, c7⟩ <;> rw [er]
    · exact ⟨c1, by omega⟩
    · unfold zkd at *; rw [e2.1]; exact c3
    · unfold zlen at *; rw [e2.1]; exact c4
    · rw [e2.2.1]; exact c6
/-- the room grows where it must -/
theorem SB_ens {n q : Nat} {T : List Int} {M : zM} {S : zS} {m : Int} (h : sbO n q T M S) (h0 : 0 ≤ m) (h1 : m ≤ 34) : Ok (F_J5_ensureCapacityInternal_d00df q m M S) (fun r => kp n S M r.2 r.1 ∧ sbO n q T r.1 r.2 ∧ m ≤ zlen r.2 (zrf r.2 q 0) ∧ r.2.1 ≤ S.1 + 1 ∧ kq q S M r.2 r.1 ∧ (m ≤ 16 → r.2 = S)) := by
  obtain ⟨⟨a1, a2, a3⟩, b1, b2, b3, ⟨c1, c2⟩, c3, c4, c5, c6, c7⟩ := id h
  unfold F_J5_ensureCapacityInternal_d00df
  rw [zchk_pos b1, zchk_pos c3, zchk_pos b1, b2]
  simp only [zlet_eq]
  rw [zshr_0 (by omega) (by omega), w_id ⟨by omega, by omega⟩]
  by_cases hg : 0 < m - zlen S (zrf S q 0)
  · have e16 : zlen S (zrf S q 0) = 16 := by omega
    rw [if_pos hg]
    refine Ok.chk b1 (Ok.chk b1 ?_)
    have hnc : F_J5_newCapacity_0f7a4 q m M S = some 34 := by
      unfold F_J5_newCapacity_0f7a4 F_J8_newLength_cabcc
      rw [zchk_pos b1, zchk_pos c3]
      simp only [zlet_eq]
      rw [zchk_pos b1, b2, e16, zshl_0 h0 (by omega), zchk_pos b1, w_id (a := m - 16) ⟨by omega, by omega⟩, show w (16 + zshl 2 0) = 18 from by decide +kernel]
      have hm : zmax (m - 16) 18 = 18 := by
        unfold zmax
        by_cases q : m - 16 < 18
        · rw [if_pos q]
        · rw [if_neg q]; omega
      rw [hm, show w (16 + 18) = 34 from by decide +kernel, if_pos (by decide), if_neg (by decide)]
      simp only [zb1_some]
      rw [if_neg (by decide), zchk_pos b1, zshr_0 (by decide) (by decide)]
    rw [hnc]
    simp only [zb1_some]
    refine Ok.chk b1 ?_
    rw [zshl_0 (by decide) (by decide)]
    have e34 : (34 : Int).toNat = 34 := rfl
    have kr : zkd (zn S (24, 34)) (zrf S q 0) = 24 := by rw [(zk_old c2).1]; exact c3
    have lr : zlen (zn S (24, 34)) (zrf S q 0) = 16 := by rw [(zk_old c2).2]; exact e16
    have kn : zkd (zn S (24, 34)) (S.1 + 1) = 24 := (zk_new rfl).1
    have ln' : zlen (zn S (24, 34)) (S.1 + 1) = 34 := (zk_new rfl).2
    have hcp : F_J7_copyOf_9075b (zrf S q 0) 34 M S = some (S.1 + 1, zcpy M (zrf S q 0) 0 (S.1 + 1) 0 16, zn S (24, 34)) := by
      unfold F_J7_copyOf_9075b
      rw [zchk_pos c3, e16, if_neg (by decide), zchk_pos ⟨by decide, by decide⟩, e34]
      simp only [zlet_eq]
      rw [zchk_pos kr, zchk_pos kr, zchk_pos kn, lr, ln', show zmin 16 34 = 16 from rfl, zchk_pos ⟨by decide, by decide, by decide, by decide, by decide⟩]
    rw [hcp]
    simp only [zb3_some]
    have k8 : zkd (zn S (24, 34)) q = 8 := by rw [(zk_old a2).1]; exact b1
    refine Ok.chk k8 (Ok.chk (by omega) (Ok.lett (Ok.ret ?_)))
    obtain ⟨M2, hM2⟩ : ∃ M2, M2 = zcpy M (zrf S q 0) 0 (S.1 + 1) 0 16 := ⟨_, rfl⟩
    rw [← hM2]
    dsimp only
    have hM : ∀ b, b ≤ S.1 → M2 b = M b := fun b hb => by rw [hM2]; exact up_ne _ _ (by omega)
    have hN : ∀ i : Int, 0 ≤ i → i < 16 → M2 (S.1 + 1) i = M (zrf S q 0) i := fun i h0 h1 => by
      rw [hM2]
      unfold zcpy
      rw [up_eq]
      show (if 0 ≤ i ∧ i < 0 + 16 then M (zrf S q 0) (0 + (i - 0)) else M (S.1 + 1) i) = _
      rw [if_pos ⟨h0, by omega⟩, show 0 + (i - 0) = i by omega]
    clear hM2
    refine ⟨⟨⟨Nat.le_succ _, by omega⟩, fun b hb => ⟨zn_old (by omega), zr_qn (j := 0) (by omega), hM b (by omega)⟩⟩, ⟨⟨a1, Nat.le_succ_of_le a2, a3⟩, k8, by rw [hM q a2]; exact b2, by rw [hM q a2]; exact b3, ?_, ?_, ?_, ?_, ?_, c7⟩, ?_, Nat.le_refl _, ⟨Nat.le_succ _, fun b hb => ⟨zn_old hb, hM b hb, fun hq => zr_qn (j := 0) hq⟩⟩, fun q => by omega⟩
    · rw [zr_q]; exact ⟨by omega, Nat.le_refl _⟩
    · rw [zr_q, zk_q.1]; exact kn
    · rw [zr_q, zk_q.2]; exact Or.inr ln'
    · rw [zr_q, zk_q.2, ln']; omega
    · rw [zr_q]
      intro i c hi
      have hl := (List.getElem?_eq_some_iff.mp hi).1
      rw [hN i (by omega) (by omega)]
      exact c6 i c hi
    · rw [zr_q, zk_q.2, ln']; omega
  · rw [if_neg hg]
    exact Ok.ret ⟨kp.refl (by omega), h, by dsimp only; omega, Nat.le_succ _, ⟨Nat.le_refl _, fun b hb => ⟨rfl, rfl, fun _ => rfl⟩⟩, fun _ => rfl⟩
/-- a memory in which the text under way has grown -/
theorem sbO.put {n q : Nat} {T U : List Int} {M M1 : zM} {S : zS} (h : sbO n q T M S) (hU : byt U) (hl : ((T ++ U).length : Int) ≤ zlen S (zrf S q 0)) (e1 : M1 q 1 = 0) (e3 : M1 q 3 = ((T ++ U).length : Int)) (ho : ∀ k : Int, 0 ≤ k → k < (T.length : Int) → M1 (zrf S q 0) k = M (zrf S q 0) k) (hn : ∀ (i : Nat) (c : Int), U[i]? = some c → M1 (zrf S q 0) ((T.length : Int) + i) = c) : sbO n q (T ++ U) M1 S := by
  obtain ⟨⟨a1, a2, a3⟩, b1, b2, b3, ⟨c1, c2⟩, c3, c4, c5, c6, c7⟩ := h
  refine ⟨⟨a1, a2, a3⟩, b1, e1, e3, ⟨c1, c2⟩, c3, c4, hl, fun i c hi => ?_, fun c hc => ?_⟩
  · by_cases q1 : i < T.length
    · rw [List.getElem?_append_left q1] at hi
      rw [ho i (by omega) (by omega)]
      exact c6 i c hi
    · rw [List.getElem?_append_right (by omega)] at hi
      have := hn (i - T.length) c hi
      rw [show (T.length : Int) + ((i - T.length : Nat) : Int) = (i : Int) by omega] at this
      exact this
  · rcases List.mem_append.mp hc with a | a
    · exact c7 c a
    · exact hU c a
theorem SB_app {n q v : Nat} {T U : List Int} {M : zM} {S : zS} (h : sbO n q T M S) (ht : txO v U M S) (hl : T.length + U.length ≤ 34) : Ok (F_J4_append_15ec4 q v M S) (fun r => r.1 = q ∧ kp n S M r.2.2 r.2.1 ∧ sbO n q (T ++ U) r.2.1 r.2.2 ∧ r.2.2.1 ≤ S.1 + 1) := by
  have hv : v ≠ 0 := by
    rcases ht with ⟨i, -, h1, -⟩ | h1
    · omega
    · have := h1.1.1; omega
  obtain ⟨⟨a1, a2, a3⟩, b1, b2, b3, ⟨c1, c2⟩, c3, c4, c5, c6, c7⟩ := id h
  unfold F_J4_append_15ec4
  refine Ok.chk b1 (Ok.b3 (Q := fun r => kp n S M r.2.2 r.2.1 ∧ sbO n q (T ++ U) r.2.1 r.2.2 ∧ r.2.2.1 ≤ S.1 + 1) ?_ (fun a M1 S1 g => Ok.ret ⟨rfl, g⟩))
  unfold F_J5_append_cf1ce
  rw [if_neg hv, tx_len ht (by omega)]
  simp only [zb1_some]
  refine Ok.chk b1 (Ok.chk b1 ?_)
  rw [b3, w_id ⟨by omega, by omega⟩]
  refine Ok.b2 (SB_ens h (m := (T.length : Int) + (U.length : Int)) (by omega) (by omega)) (fun M6 S7 ⟨g1, g2, g3, g4, g5, _⟩ => ?_)
  dsimp only at g1 g2 g3 g4 g5
  obtain ⟨⟨d1, d2, d3⟩, e1, e2, e3, ⟨f1, f2⟩, f3, f4, f5, f6, f7⟩ := id g2
  have ht7 := ht.kq b1 g5
  refine Ok.chk e1 (Ok.chk e1 ?_)
  have hput : Ok (F_J5_putStringAt_47b60 q (M6 q 3) v M6 S7) (fun M1 => (∀ b, b ≠ zrf S7 q 0 → M1 b = M6 b) ∧ (∀ k : Int, ¬ ((T.length : Int) ≤ k ∧ k < (T.length : Int) + (U.length : Int)) → M1 (zrf S7 q 0) k = M6 (zrf S7 q 0) k) ∧ ∀ (i : Nat) (c : Int), U[i]? = some c → M1 (zrf S7 q 0) ((T.length : Int) + i) = c) := by
    unfold F_J5_putStringAt_47b60 F_J5_inflateIfNeededFor_a7421
    refine Ok.chk e1 ?_
    rw [if_neg (by decide), zchk_pos e1, tx_cod ht7]
    simp only [zb1_some]
    rw [if_pos e2]
    simp only [zb1_some]
    rw [e2, e3]
    refine Ok.chk e1 (Ok.chk e1 (Ok.b1 (tx_gby ht7 (by omega) f3 (by omega) (by omega) (by omega)) (fun M1 hM1 => Ok.ret hM1)))
  refine Ok.b1 hput (fun M13 ⟨i1, i2, i3⟩ => ?_)
  have hqr : q ≠ zrf S7 q 0 := fun e => by rw [← e] at f3; omega
  refine Ok.chk e1 (Ok.chk e1 (Ok.lett (Ok.ret ?_)))
  rw [i1 q hqr, e3, w_id ⟨by omega, by omega⟩]
  obtain ⟨M18, hM18⟩ : ∃ M18, M18 = zs M13 q 3 ((T.length : Int) + (U.length : Int)) := ⟨_, rfl⟩
  have hr : ∀ b, b ≠ q → M18 b = M13 b := fun b hb => by rw [hM18]; exact zs_ne _ _ _ hb
  have h3 : M18 q 3 = (T.length : Int) + (U.length : Int) := by rw [hM18]; exact zs_at _ _ _ _
  have h1 : M18 q 1 = 0 := by rw [hM18, zs_off _ _ (Or.inr (by decide)), i1 q hqr]; exact e2
  rw [← hM18]
  clear hM18
  dsimp only
  refine ⟨g1.trans ⟨⟨Nat.le_refl _, Nat.le_trans g1.1.2 g1.1.1⟩, fun b hb => ⟨rfl, rfl, ?_⟩⟩, g2.put ht.byt (by rw [List.length_append]; omega) h1 (by show M18 q 3 = _; rw [List.length_append, h3]; omega) (fun k k0 k1 => by rw [hr _ (fun e => hqr e.symm)]; exact i2 k (by omega)) (fun i c hi => by rw [hr _ (fun e => hqr e.symm)]; exact i3 i c hi), g4⟩
  show M18 b = M6 b
  rw [hr b (by omega), i1 b (by omega)]
