/-! PURE 99: the law answers 1 -/
section
variable {ln : Int} {scr : Int → Int} {M : zM} {S : zS}
/-- one round: a grammar, its words, its sizes, its contexts -/
theorem LR {i n : Nat} (hB : BW n M S) (hn : n ≤ 2500) (hi : i < 2) : Ok (F_L_law_B67 ln scr (i : Int) M S) (fun r => ∃ M1 S1, r = .inl ((i : Int) + 1, M1, S1) ∧ BW (n + 1700) M1 S1) := by
  have hnn := hB.h89
  have hend : ∀ M1 S1, BW (n + 1700) M1 S1 → Ok (F_L_law_J178 ln scr (i : Int) M1 S1) (fun r => ∃ M1 S1, r = .inl ((i : Int) + 1, M1, S1) ∧ BW (n + 1700) M1 S1) := fun M1 S1 h => by
    unfold F_L_law_J178
    refine Ok.lett (Ok.ret ⟨M1, S1, ?_, h⟩)
    rw [w_id (a := (i : Int) + 1) ⟨by omega, by omega⟩]
  unfold F_L_law_B67
  rw [if_pos (by omega), w_id (a := 10 + 100 * (i : Int)) ⟨by omega, by omega⟩]
  refine Ok.lett (Ok.chk (by omega) (Ok.b2 (LB hB (by omega) ⟨by omega, by omega⟩) (fun M6 S7 h6 => ?_)))
  dsimp only at h6
  have h7 := h6.h89
  obtain ⟨G, ax, cur, R, hC, hR, hG, -⟩ := h6
  refine Ok.chk (by omega) (Ok.b3 (LS_size hC (by omega)) (fun r11 M12 S13 ⟨a1, a2, a3⟩ => ?_))
  dsimp only at a1 a2 a3
  rcases a3 with ⟨hf, b2, b3⟩ | ⟨hf, b2, b3⟩
  · subst b2 b3
    refine Ok.neg (by omega) (Ok.chk (by omega) (Ok.lett (Ok.lett (Ok.lett ?_))))
    have e1 : (zn S13 (20, 10)).1 = S13.1 + 1 := rfl
    have e2 : (zn (zn S13 (20, 10)) (22, 5)).1 = S13.1 + 2 := rfl
    rw [e1]
    refine Ok.chk (by omega) (Ok.lett (Ok.lett (Ok.lett ?_)))
    have hkp : kp S13.1 S13 M12 (zn (zn S13 (20, 10)) (22, 5)) (up (up M12 (S13.1 + 1) (fun _ => 0)) (S13.1 + 1 + 1) (fun _ => 0)) := ⟨⟨by rw [e2]; omega, Nat.le_refl _⟩, fun b hb => ⟨by rw [zn_old (by rw [e1]; omega), zn_old hb], rfl, by rw [up_ne _ _ (by omega), up_ne _ _ (by omega)]⟩⟩
    have hC1 := a1.kp hkp
    have hA : AWs (S13.1 + 1) (zn (zn S13 (20, 10)) (22, 5)) := by
      have k1 : zkd (zn (zn S13 (20, 10)) (22, 5)) (S13.1 + 1) = 20 ∧ zlen (zn (zn S13 (20, 10)) (22, 5)) (S13.1 + 1) = 10 := by
        rw [(zk_old (by rw [e1]; omega)).1, (zk_old (by rw [e1]; omega)).2]; exact zk_new rfl
      have k2 := zk_new (S := zn S13 (20, 10)) (kd := (22, 5)) (b := S13.1 + 1 + 1) rfl
      exact ⟨⟨by omega, by rw [e2]; omega⟩, k1.1, k1.2, k2.1, k2.2⟩
    have hW : AWi 0 G ax R (S13.1 + 1) [] (fun _ => False) (up (up M12 (S13.1 + 1) (fun _ => 0)) (S13.1 + 1 + 1) (fun _ => 0)) (zn (zn S13 (20, 10)) (22, 5)) := by
      refine ⟨⟨cur, hC1⟩, hA, fun m hm => ?_, fun c hc => ?_⟩
      · rw [up_ne _ _ (by omega), up_eq]; rfl
      · rw [up_eq]; exact tv_f (fun q => q)
    generalize up (up M12 (S13.1 + 1) (fun _ => 0)) (S13.1 + 1 + 1) (fun _ => 0) = M23 at hW
    generalize zn (zn S13 (20, 10)) (22, 5) = S24 at hW e2
    have hwl : ((cnt (lcA G ax) 29524 : Nat) : Int) = ((wl_ (lcA G ax)).length : Int) := by rw [wl_cnt]
    refine Ok.chk (by omega) (Ok.b3 (Q := fun r => r.1 = 1 ∧ AWi 0 G ax R (S13.1 + 1) (wl_ (lcA G ax)) (uK G (wl_ (lcA G ax))) r.2.1 r.2.2 ∧ r.2.2.1 ≤ n + 410 + 1200) (by rw [hwl]; exact LW (n0 := n + 410) hf hG hW (by omega) (by omega)) (fun r27 M28 S29 ⟨c1, c2, c3⟩ => ?_))
    dsimp only at c1 c2 c3
    refine Ok.neg (by omega) (Ok.chk (by omega) (Ok.b3 (LS_take c2 hf (t := ((cnt (lcA G ax) 29524 : Nat) : Int)) (by omega) (by omega)) (fun r33 M34 S35 ⟨d1, d2, d3⟩ => ?_)))
    dsimp only at d1 d2 d3
    refine Ok.pos d1 (Ok.chk (by omega) (Ok.b3 (LS_take d2 hf (t := -1) (by omega) (by omega)) (fun r39 M40 S41 ⟨e1, e2, e3⟩ => ?_)))
    dsimp only at e1 e2 e3
    refine Ok.pos e1 (Ok.chk (by omega) (Ok.b3 (Q := fun r => r.1 = 1 ∧ r.2.2 = S41 ∧ ∃ R1, AWi 0 G ax R1 (S13.1 + 1) (wl_ (lcA G ax)) (uK G (wl_ (lcA G ax))) r.2.1 S41 ∧ R1.2.1 = R.2.1) (by rw [hwl]; exact LZ e2 hf (by omega)) (fun r45 M46 S47 ⟨f1, f2, R1, f3, f4⟩ => ?_)))
    dsimp only at f1 f2 f3
    subst f2
    refine Ok.neg (by omega) (Ok.chk (by omega) (Ok.b3 (LC f3 hf (by omega)) (fun r51 M52 S53 ⟨g1, ⟨cur3, R3, cur4, g2, g3, g4⟩, g5⟩ => ?_)))
    dsimp only at g1 g2 g5
    refine Ok.neg (by omega) (Ok.chk (by omega) (Ok.b3 (LF g2 hf (by omega)) (fun r57 M58 S59 ⟨h1, h2, cur5, h3⟩ => ?_)))
    dsimp only at h1 h2 h3
    refine Ok.neg (by omega) (hend M58 S59 ⟨G, ax, cur5, R3, h3, ?_, hG, by omega⟩)
    rw [g4, f4, hR]
  · subst b2 b3
    have e1 : (zer S7).1 = S7.1 + 1 := rfl
    exact Ok.pos (by omega) (hend M12 (zer S7) ⟨G, ax, cur, R, a1, hR, hG, by omega⟩)
theorem LL {n : Nat} (hB : BW n M S) (hn : n ≤ 500) : Ok (F_L_law_L67 ln scr 0 M S) (fun r => r.1 = 1) := by
  unfold F_L_law_L67
  refine Ok.loop (fun s : Int × zM × zS => ∃ i : Nat, s.1 = (i : Int) ∧ i ≤ 2 ∧ BW (n + 1700 * i) s.2.1 s.2.2) (fun s => 2 - s.1.toNat) (fun e : zM × zS => BW (n + 3400) e.1 e.2) ⟨0, rfl, by omega, hB⟩ (by show 2 - 0 < 1000000; omega) (fun s ⟨i, h1, h2, h3⟩ => ?_) (fun e h => ?_)
  · obtain ⟨s1, M1, S1⟩ := s
    dsimp only at h1 h3 ⊢
    subst h1
    by_cases q : i < 2
    · refine (LR h3 (by omega) q).mono (fun r ⟨M2, S2, e1, e2⟩ => ?_)
      subst e1
      exact ⟨⟨i + 1, rfl, by omega, e2.mono (by omega)⟩, by dsimp only; omega⟩
    · unfold F_L_law_B67
      exact Ok.neg (by omega) (Ok.ret (h3.mono (by omega)))
  · unfold F_L_law_J184
    have := h.h89
    exact Ok.chk (by omega) (Ok.ret rfl)
/-- on every script the law answers 1 -/
theorem law_ok : Ok (F_L_law ln scr Mz Sz) (fun r => r.1 = 1) := by
  unfold F_L_law
  refine Ok.chk rfl (Ok.lett ?_)
  have eA : F_X10_init 1 Mz (zn Sz (7, 12)) = some (MCa, sA) := oA_eq
  rw [eA]
  simp only [zb2_some]
  refine Ok.chk sA_n (Ok.lett (Ok.chkP sE_fx ?_))
  show Ok (zchk (sE.1 + 100 ≤ 6000) (zb3 (F_L_size MCa sE) _)) _
  have hs : sE.1 = 89 := rfl
  have hc := cls_z
  generalize MCa = M0 at hc
  generalize sE = S0 at hc hs
  have hcnt : cnt (lcA Gz []) 29524 = 0 := cnt_none (fun y => lc_z) _
  refine Ok.chk (by omega) (Ok.b3 (LS_size hc (by omega)) (fun r69 M1 S1 ⟨a1, a2, a3⟩ => ?_))
  dsimp only at a1 a2 a3
  rcases a3 with ⟨_, b2, b3⟩ | ⟨q, -⟩
  · subst b3
    refine Ok.pos (by rw [b2, hcnt]; rfl) (Ok.chk (by omega) ?_)
    rw [Q_cnt2 a1, zbx_inr]
    refine Ok.pos rfl (Ok.chk (by omega) ?_)
    rw [Q_cnt3 a1, zbx_inr]
    refine Ok.pos rfl (Ok.chk (by omega) (Ok.q (Q_minimal a1 few_z) (fun m M2 c1 c2 c3 => ?_)))
    have hm : m < (2 : Int) ^ (0 : Nat) := c3.1.2
    refine Ok.pos (by have := c3.1.1; omega) (Ok.chk (by omega) (Ok.q (Q_isGenerated c1 few_z) (fun g M3 d1 d2 d3 => ?_)))
    have hg : g = 0 := by
      rcases d3 with z | z
      · exact (lc_z z.2).elim
      · exact z.1
    refine Ok.pos hg (Ok.chk (by omega) ?_)
    refine Ok.b3 (Q := fun r => r.1 = -1 ∧ clsW 0 Gz [] 0 Rz r.2.1 r.2.2 ∧ r.2.2.1 = S1.1 + 1) ?_ (fun r M4 S4 ⟨e1, e2, e3⟩ => ?_)
    · unfold F_L_rank
      refine Ok.chk (by omega) (Ok.bx (Q_rankN d1 few_z lc_z) (fun e M4 S4 ⟨z1, z2, _, z3⟩ => ?_) (fun a M4 S4 q => by cases q.1))
      dsimp only at z1 z2 z3
      cases z1
      subst z3
      have e1 : (zer S1).1 = S1.1 + 1 := rfl
      rw [if_pos rfl]
      exact Ok.chk (by omega) (Ok.ret ⟨rfl, z2, rfl⟩)
    · dsimp only at e1 e2 e3
      refine Ok.pos e1 (Ok.chk (by omega) (Ok.q (Q_isConfluent e2 few_z) (fun v M5 f1 f2 f3 => ?_)))
      have hv : v = 1 := by
        rcases f3 with z | z
        · exact z.1
        · exact absurd (fun y hy => (lc_z hy).elim) z.2
      exact Ok.neg (by omega) (LL (n := 200) ⟨Gz, [], 0, Rz, f1, rfl, by decide, by omega⟩ (by omega))
  · exact absurd few_z q
theorem law_one : ∃ M1 S1, F_L_law ln scr Mz Sz = some (1, M1, S1) := by
  obtain ⟨⟨r, M1, S1⟩, a1, a2⟩ := law_ok (ln := ln) (scr := scr)
  dsimp only at a2
  exact ⟨M1, S1, by rw [a1, a2]⟩
end
