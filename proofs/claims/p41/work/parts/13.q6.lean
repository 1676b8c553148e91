/-! PURE 85: definitions: how much they make, what they do to the limit -/
theorem RD_J82 {k v : Int} {M2 : zM} {r : Int × zM} (h : F_X1_read_J82 k v M2 = some r) (h3 : r.1 = 3) : k = 3 ∧ r.2 = M2 ∧ v ≠ 0 := by
  unfold F_X1_read_J82 F_X1_read_J101 at h
  by_cases q : v = 0
  · rw [if_pos q] at h; cases h; exact absurd h3 (show ¬ ((-1 : Int) = 3) by decide)
  · rw [if_neg q] at h
    by_cases q2 : M2 2 4 = M2 2 3
    · rw [if_pos q2] at h; cases h; exact ⟨h3, rfl, q⟩
    · rw [if_neg q2] at h; cases h; exact absurd h3 (show ¬ ((-1 : Int) = 3) by decide)
theorem RD_lim {T : List Int} {M : zM} {r : Int × zM} (hT : txtT T) (hC : M 2 3 = (T.length : Int) ∧ rowl (M 3) T) (h : F_X1_read M = some r) (h3 : r.1 = 3) : chT T 0 = 108 ∧ r.2 2 8 = chT T 6 - 48 := by
  have hC0 : cpS T [] 0 (zs (zs M 2 4 0) 2 2 0) := by
    refine ⟨?_, ?_, ?_, zs_at _ 2 2 0, fun i a h => by simp at h⟩
    · rw [zs_off _ _ (Or.inr (by decide)), zs_off _ _ (Or.inr (by decide))]; exact hC.1
    · rw [zs_ne _ _ _ (by decide), zs_ne _ _ _ (by decide)]; exact hC.2
    · rw [zs_off _ _ (Or.inr (by decide)), zs_at]; rfl
  unfold F_X1_read at h
  simp only [zlet_eq] at h
  generalize zs (zs M 2 4 0) 2 2 0 = M6 at h hC0
  obtain ⟨r7, M8, hk, h⟩ := zb2_ex h
  obtain ⟨⟨v, M8'⟩, e1, t, hF, hp, hh⟩ := CP_kind hT hC0
  rw [hk] at e1
  obtain ⟨rfl, rfl⟩ := Prod.mk.inj (Option.some.inj e1)
  dsimp only at hp hh
  by_cases q0 : r7 = 0
  · rw [if_pos q0] at h
    obtain ⟨v2, M2, -, h⟩ := zb2_ex h
    have := (RD_J82 h h3).1; omega
  rw [if_neg q0] at h
  by_cases q1 : r7 = 1
  · rw [if_pos q1] at h
    obtain ⟨v2, M2, -, h⟩ := zb2_ex h
    have := (RD_J82 h h3).1; omega
  rw [if_neg q1] at h
  by_cases q2 : r7 = 2
  · rw [if_pos q2] at h
    obtain ⟨v2, M2, -, h⟩ := zb2_ex h
    have := (RD_J82 h h3).1; omega
  rw [if_neg q2] at h
  by_cases q3 : r7 = 3
  · rw [if_pos q3] at h
    obtain ⟨v2, M2, hl, h⟩ := zb2_ex h
    obtain ⟨-, e2, e3⟩ := RD_J82 h h3
    rcases hh with ⟨t4, et, hc⟩ | ⟨-, et, -⟩
    · have t3 : t = 3 := by omega
      subst t3
      have hc6 : cpS T [] 6 M8 := hc
      refine ⟨?_, ?_⟩
      · have hpre := hF.2.2 (by omega)
        have hpre : preT T 0 [108, 105, 109, 105, 116, 32] = 6 := hpre
        unfold preT at hpre
        by_cases c : chT T 0 = ((108 : Nat) : Int)
        · exact c
        · rw [if_neg c] at hpre; cases hpre
      · unfold F_X1_readLimit at hl
        rw [CP_here hT hc6] at hl
        simp only [zb1_some] at hl
        have hr := chT_r (p := 6) hT
        by_cases c1 : chT T 6 < 49
        · rw [if_pos c1] at hl; cases hl; exact absurd rfl e3
        · rw [if_neg c1] at hl
          by_cases c2 : 57 < chT T 6
          · rw [if_pos c2] at hl; cases hl; exact absurd rfl e3
          · rw [if_neg c2] at hl
            simp only [zlet_eq] at hl
            obtain ⟨-, e4⟩ := Prod.mk.inj (Option.some.inj hl)
            rw [e2, ← e4, zs_off _ _ (Or.inr (by decide)), zs_at, w_id ⟨by omega, by omega⟩]
    · omega
  · rw [if_neg q3] at h
    have := (RD_J82 h h3).1; omega
/-- places made by a definition -/
def grw (n : Nat) (S S1 : zS) : Prop := S.1 ≤ S1.1 ∧ S1.1 ≤ S.1 + n
theorem GR_ax {v : Int} {M M1 : zM} {S S1 : zS} {r : Nat ⊕ Int} (h : F_X10_defineAxiom v M S = some (r, M1, S1)) : grw 1 S S1 := by
  unfold F_X10_defineAxiom F_X10_defineAxiom_J23 at h
  have hz : some ((Sum.inl 0 : Nat ⊕ Int), M, zn S (99, 0)) = some (r, M1, S1) → grw 1 S S1 := fun e => by
    cases e; exact ⟨Nat.le_succ _, Nat.le_refl _⟩
  by_cases q : M 5 2 < 6
  · rw [if_pos q] at h
    obtain ⟨a, -, h⟩ := zb1_ex h
    by_cases q2 : a = 0
    · rw [if_pos q2] at h
      obtain ⟨M2, -, h⟩ := zb1_ex h
      obtain ⟨M3, -, h⟩ := zb1_ex h
      cases h; exact ⟨Nat.le_refl _, Nat.le_succ _⟩
    · rw [if_neg q2] at h; exact hz h
  · rw [if_neg q] at h; exact hz h
theorem GR_copy {a : Nat} {v : Int} {M M1 : zM} {S S1 : zS} {r : Nat} (h : F_J7_copyOf_59c91 a v M S = some (r, M1, S1)) : S1.1 = S.1 + 1 := by
  unfold F_J7_copyOf_59c91 at h
  obtain ⟨-, h⟩ := zchk_ex h
  by_cases q : v = zlen S a
  · rw [if_pos q] at h
    obtain ⟨-, h⟩ := zchk_ex h
    obtain ⟨-, h⟩ := zchk_ex h
    simp only [zlet_eq] at h
    obtain ⟨-, h⟩ := zchk_ex h
    cases h; rfl
  · rw [if_neg q] at h
    obtain ⟨-, h⟩ := zchk_ex h
    simp only [zlet_eq] at h
    obtain ⟨-, h⟩ := zchk_ex h
    obtain ⟨-, h⟩ := zchk_ex h
    obtain ⟨-, h⟩ := zchk_ex h
    obtain ⟨-, h⟩ := zchk_ex h
    cases h; rfl
theorem GR_sel {M M1 : zM} {S S1 : zS} {r : Nat} (h : F_X1_selectorProgram M S = some (r, M1, S1)) : S1.1 = S.1 + 1 := by
  unfold F_X1_selectorProgram F_X1_selectorProgram_J19 at h
  by_cases q : M 2 2 < 0
  · rw [if_pos q] at h
    obtain ⟨a, c, d, h1, h⟩ := zb3_ex h
    cases h; exact GR_copy h1
  · rw [if_neg q] at h
    obtain ⟨a, c, d, h1, h⟩ := zb3_ex h
    cases h; exact GR_copy h1
theorem GR_x7 {a b : Nat} {S S1 : zS} (h : F_X7_init a b S = some S1) : S1.1 = S.1 + 2 := by
  unfold F_X7_init at h
  obtain ⟨-, h⟩ := zchk_ex h
  rw [zlet_eq] at h
  obtain ⟨-, h⟩ := zchk_ex h
  rw [zlet_eq] at h
  obtain ⟨-, h⟩ := zchk_ex h
  rw [zlet_eq, zlet_eq] at h
  obtain ⟨-, h⟩ := zchk_ex h
  rw [zlet_eq] at h
  obtain ⟨-, h⟩ := zchk_ex h
  rw [zlet_eq] at h
  obtain ⟨-, h⟩ := zchk_ex h
  rw [zlet_eq] at h
  cases h; rfl
theorem GR_x0 {a d : Nat} {b c : Int} {M M1 : zM} {S S1 : zS} (h : F_X0_init a b c d M S = some (M1, S1)) : S1.1 = S.1 := by
  unfold F_X0_init at h
  obtain ⟨-, h⟩ := zchk_ex h
  obtain ⟨-, h⟩ := zchk_ex h
  rw [zlet_eq] at h
  obtain ⟨r4, -, h⟩ := zb1_ex h
  obtain ⟨-, h⟩ := zchk_ex h
  rw [zlet_eq] at h
  obtain ⟨-, h⟩ := zchk_ex h
  rw [zlet_eq] at h
  obtain ⟨r10, -, h⟩ := zb1_ex h
  obtain ⟨-, h⟩ := zchk_ex h
  rw [zlet_eq] at h
  obtain ⟨-, h⟩ := zchk_ex h
  rw [zlet_eq] at h
  cases h; rfl
theorem GR_ctx {M M1 : zM} {S S1 : zS} {r : Nat ⊕ Int} (h : F_X10_defineContext M S = some (r, M1, S1)) : grw 5 S S1 := by
  unfold F_X10_defineContext at h
  by_cases q : M 5 3 < 5
  · rw [if_pos q] at h
    rw [zlet_eq, zlet_eq, zlet_eq, zlet_eq] at h
    obtain ⟨r11, M12, S13, h1, h⟩ := zb3_ex h
    rw [zlet_eq] at h
    obtain ⟨S16, h2, h⟩ := zb1_ex h
    obtain ⟨M19, S20, h3, h⟩ := zb2_ex h
    obtain ⟨M23, S24, h4, h⟩ := zb2_ex h
    obtain ⟨M27, -, h⟩ := zb1_ex h
    have e1 := GR_sel h1
    have e2 := GR_x7 h2
    have e3 := GR_x0 h3
    have e0 : (zn (zn S (0, 5)) (5, 3)).1 = S.1 + 2 := rfl
    have e4 : S24.1 = S20.1 := by
      unfold F_X2_putContext at h4
      by_cases z : M19 5 3 < 0
      · rw [if_pos z] at h4; cases h4; rfl
      · rw [if_neg z] at h4
        by_cases z2 : M19 5 3 < 5
        · rw [if_pos z2] at h4
          obtain ⟨-, h4⟩ := zchk_ex h4
          obtain ⟨-, h4⟩ := zchk_ex h4
          rw [zlet_eq, zlet_eq] at h4
          cases h4; rfl
        · rw [if_neg z2] at h4; cases h4; rfl
    cases h
    exact ⟨by omega, by omega⟩
  · rw [if_neg q] at h
    cases h
    exact ⟨Nat.le_succ _, Nat.le_add_right (S.1 + 1) 4⟩
theorem GR_J25 {v t : Int} {M M1 : zM} {S S1 : zS} {r : Nat ⊕ Int} (h : F_X10_define_J25 v t M S = some (r, M1, S1)) : grw 5 S S1 := by
  unfold F_X10_define_J25 at h
  rw [zlet_eq] at h
  obtain ⟨M2, -, h⟩ := zb1_ex h
  by_cases q : v = -1
  · rw [if_pos q] at h; cases h; exact ⟨Nat.le_succ _, Nat.le_add_right (S.1 + 1) 4⟩
  rw [if_neg q] at h
  by_cases q0 : v = 0
  · rw [if_pos q0] at h
    obtain ⟨r2, M3, S3, h1, h2, h3⟩ := zbx_ex h
    have g := GR_ax h1
    have e : S3 = S1 := by
      cases r2 with
      | inl e => have := h2 e rfl; cases this; rfl
      | inr a => have := h3 a rfl; cases this; rfl
    subst e
    exact ⟨g.1, Nat.le_trans g.2 (by omega)⟩
  rw [if_neg q0] at h
  by_cases q1 : v = 1
  · rw [if_pos q1] at h
    obtain ⟨r2, M3, S3, h1, h2, h3⟩ := zbx_ex h
    have g := GR_ctx h1
    have e : S3 = S1 := by
      cases r2 with
      | inl e => have := h2 e rfl; cases this; rfl
      | inr a => have := h3 a rfl; cases this; rfl
    subst e
    exact g
  rw [if_neg q1] at h
  obtain ⟨r8, M9, -, h⟩ := zb2_ex h
  cases h
  exact ⟨Nat.le_refl _, Nat.le_add_right _ _⟩
theorem GR_define {M M1 : zM} {S S1 : zS} {r : Nat ⊕ Int} (h : F_X10_define M S = some (r, M1, S1)) : grw 5 S S1 := by
  unfold F_X10_define at h
  obtain ⟨r28, M29, -, h⟩ := zb2_ex h
  by_cases q : r28 = -1
  · rw [if_pos q] at h; exact GR_J25 h
  · rw [if_neg q] at h; exact GR_J25 h
/-- a definition of a limit keeps it low -/
def lmT (T : List Int) : Prop := chT T 0 = 108 → chT T 6 ≤ 54
theorem effD_f {G : zGr} {ax : List Int} {cur : Int} {R : zRst} {T : List Int} {o : zOut} (hv : vO T o) (hG : G.1 ≤ 6) (h3 : o.1 = 3 → o.2.2.1 ≤ 6) : (effD (G, ax, cur, R) o).2.2.2.2.1 = cur ∧ (effD (G, ax, cur, R) o).2.2.2.2.2.2.1 = [] ∧ (effD (G, ax, cur, R) o).2.2.1.1 ≤ 6 := by
  unfold effD
  by_cases q : o.1 = -1
  · rw [if_pos q]; exact ⟨rfl, rfl, hG⟩
  rw [if_neg q]
  by_cases q0 : o.1 = 0
  · rw [if_pos q0]
    by_cases z : ax.length < 6 ∧ o.2.2.1 ∉ ax
    · rw [if_pos z]; exact ⟨rfl, rfl, hG⟩
    · rw [if_neg z]; exact ⟨rfl, rfl, hG⟩
  rw [if_neg q0]
  by_cases q1 : o.1 = 1
  · rw [if_pos q1]
    by_cases z : G.2.2.length < 5
    · rw [if_pos z]; exact ⟨rfl, rfl, hG⟩
    · rw [if_neg z]; exact ⟨rfl, rfl, hG⟩
  rw [if_neg q1]
  by_cases q2 : o.1 = 2
  · rw [if_pos q2]; exact ⟨rfl, rfl, hG⟩
  · rw [if_neg q2]
    have : o.1 = 3 := by
      rcases hv with a | a | a | a | a
      · exact absurd a.1 q
      · exact absurd a.1 q0
      · exact absurd a.1 q1
      · exact absurd a.1 q2
      · exact a.1
    exact ⟨rfl, rfl, h3 this⟩
theorem stO.keep {v : Nat} {T : List Int} {M M1 : zM} {S : zS} (h : stO v T M S) (k : keepM S M M1) : stO v T M1 S := by
  obtain ⟨⟨a1, a2⟩, b1, b2, ⟨c1, c2⟩, c3, c4, c6, c7⟩ := h
  exact ⟨⟨a1, a2⟩, b1, by rw [k v a1 ⟨a2, by omega⟩]; exact b2, ⟨c1, c2⟩, c3, c4, by rw [k _ c1 ⟨c2, by omega⟩]; exact c6, c7⟩
section
variable {B : Int} {G : zGr} {ax : List Int} {cur : Int} {R : zRst} {M : zM} {S : zS}
theorem Q_append {t : Int} (hC : clsW B G ax cur R M S) (q : R.2.1.length < 60) (htr : 0 ≤ t ∧ t < 65536) : Ok (F_X10_append t M S) (qX B G ax cur (R.1, R.2.1 ++ [t], R.2.2) S M (fun _ => True)) := by
  obtain ⟨t1, t2, t3, t4⟩ := hC.2.2.2.2.2.2.2.2.2.1
  unfold F_X10_append
  refine Ok.b2 (Q := fun r => r.1 = 1 ∧ r.2 = zs (zs M 3 (R.2.1.length : Int) t) 2 3 ((R.2.1.length : Int) + 1)) ?_ (fun v M1 ⟨a1, a2⟩ => ?_)
  · unfold F_X1_accept
    rw [t1]
    refine Ok.neg (by omega) (Ok.pos (by omega) (Ok.chk ⟨by omega, by omega⟩ (Ok.chk htr (Ok.lett ?_))))
    rw [zs_ne (a := 3) (b := 2) _ _ _ (by decide), t1, w_id (a := (R.2.1.length : Int) + 1) (by omega)]
    exact Ok.lett (Ok.ret ⟨rfl, rfl⟩)
  · dsimp only at a1 a2
    subst a1 a2
    refine Ok.neg (by decide) (Ok.ret ⟨_, rfl, rfl, ?_⟩)
    have hf : cfr (fun b => b = 2 ∨ b = 3) S M (zs (zs M 3 (R.2.1.length : Int) t) 2 3 ((R.2.1.length : Int) + 1)) := (cfr.zs (Or.inr rfl) (by decide)).trans (cfr.zs (Or.inl rfl) (by decide))
    obtain ⟨c1, c2⟩ := hC.rest (R1 := (R.1, R.2.1 ++ [t], R.2.2)) hf (fun b a => by omega) rfl rfl ⟨by rw [zs_at]; show _ = ((R.2.1 ++ [t]).length : Int); rw [List.length_append, List.length_singleton]; omega, by show (R.2.1 ++ [t]).length ≤ 60; rw [List.length_append, List.length_singleton]; omega, by
      rw [zs_ne _ _ _ (by decide), zs_eq]
      exact rowl_push t3 rfl, fun c hc => by
      rcases List.mem_append.mp hc with a | a
      · exact t4 c a
      · rw [List.mem_singleton] at a; rw [a]; exact htr⟩ (fun k hk => by
      have := hC.2.2.2.2.2.2.2.2.2.2.2 k hk
      rw [hf.1 (42 + 2 * k) (by omega) (Or.inl (by omega)), hf.1 (43 + 2 * k) (by omega) (Or.inl (by omega))]
      exact this)
    exact ⟨c1, c2, trivial⟩
theorem LD {v : Nat} {T : List Int} (hC : clsW B G ax cur R M S) (hR : R.2.1 = []) (ht : stO v T M S) (hl : T.length ≤ 60) (hlim : lmT T) (hG : G.1 ≤ 6) (hs : S.1 + 106 ≤ 6000) : Ok (F_L_define v M S) (fun r => ∃ G1 ax1 R1, clsW B G1 ax1 cur R1 r.2.1 r.2.2 ∧ R1.2.1 = [] ∧ G1.1 ≤ 6 ∧ grw 6 S r.2.2) := by
  unfold F_L_define F_L_define_L2
  refine Ok.loop (fun s : Int × zM × zS => ∃ i : Nat, s.1 = i ∧ i ≤ T.length ∧ s.2.2 = S ∧ clsW B G ax cur (R.1, T.take i, R.2.2) s.2.1 S ∧ stO v T s.2.1 S) (fun s => T.length - s.1.toNat) (fun e : zM × zS => e.2 = S ∧ clsW B G ax cur (R.1, T, R.2.2) e.1 S) ⟨0, rfl, Nat.zero_le _, rfl, ?_, ht⟩ (by show T.length - 0 < 1000000; omega) (fun s ⟨i, h1, h2, h3, h4, h5⟩ => ?_) (fun e ⟨h1, h2⟩ => ?_)
  · rw [List.take_zero, ← hR]; exact hC
  · obtain ⟨s1, M1, S1⟩ := s
    dsimp only at h1 h2 h3 h4 h5 ⊢
    subst h1 h3
    unfold F_L_define_B2
    refine Ok.chk (by omega) ?_
    rw [tx_len (Or.inr h5) (by omega)]
    simp only [zb1_some]
    refine Ok.ite (fun c => ?_) (fun c => ?_)
    · have hil : i < T.length := by omega
      have hg := List.getElem?_eq_getElem hil
      generalize T[i] = x at hg
      have hx := ht.2.2.2.2.2.2.2 x (List.mem_of_getElem? hg)
      refine Ok.chk (by omega) (Ok.chk h5.2.1 ?_)
      rw [ST_at h5 hg]
      simp only [zb1_some]
      refine Ok.chk (by omega) (Ok.q (Q_append h4 (by show (T.take i).length < 60; rw [List.length_take]; omega) ⟨hx.1, by omega⟩) (fun a M2 c1 c2 _ => Ok.lett (Ok.ret ?_)))
      rw [w_id (a := (i : Int) + 1) ⟨by omega, by omega⟩]
      refine ⟨⟨i + 1, by dsimp only; omega, hil, rfl, ?_, h5.keep c2⟩, by dsimp only; omega⟩
      have e : T.take (i + 1) = T.take i ++ [x] := by rw [List.take_add_one, hg]; rfl
      rw [e]
      exact c1
    · have e : i = T.length := by omega
      rw [e, List.take_length] at h4
      exact Ok.ret ⟨rfl, h4⟩
  · obtain ⟨M1, S1⟩ := e
    dsimp only at h1 h2 ⊢
    subst h1
    unfold F_L_define_J25
    refine Ok.chk (by omega) ?_
    have hT : txtT T := ⟨hl, fun c hc => ⟨(ht.2.2.2.2.2.2.2 c hc).1, by have := (ht.2.2.2.2.2.2.2 c hc).2; omega⟩⟩
    have hx := h2.2.2.2.2.2.2.2.2.2.1
    have hc : M1 2 3 = (T.length : Int) ∧ rowl (M1 3) T := ⟨hx.1, hx.2.2.1⟩
    obtain ⟨o, o1, o2, -⟩ := read_joint (M0 := zs (up M1 54 (M1 3)) 48 11 (T.length : Int)) hT hc ⟨zs_at _ _ _ _, by rw [zs_ne _ _ _ (by decide), up_eq]; exact hc.2⟩
    obtain ⟨⟨a, M2, S2⟩, e1, k, k1, k2, k3, k4⟩ := CD_define h2 o1 o2
    have g := GR_define e1
    have h36 : o.1 = 3 → o.2.2.1 ≤ 6 := fun q => by
      obtain ⟨rr, z1, z2⟩ := o2
      obtain ⟨y1, y2⟩ := RD_lim hT hc z1 (z2.1.trans q)
      have y3 := z2.2.2.2.2.2 (Or.inr q)
      have := hlim y1
      omega
    obtain ⟨f1, f2, f3⟩ := effD_f (G := G) (ax := ax) (cur := cur) (R := (R.1, T, R.2.2)) o1 hG h36
    rw [← k3] at f1 f2 f3
    dsimp only at k1
    have hk : clsW B k.1 k.2.1 cur k.2.2.2 M2 S2 := by rw [← f1]; exact k1
    have fin : ∀ x : Int, Ok (zchk (S2.1 + 100 ≤ 6000) (some (x, M2, S2))) (fun r => ∃ G1 ax1 R1, clsW B G1 ax1 cur R1 r.2.1 r.2.2 ∧ R1.2.1 = [] ∧ G1.1 ≤ 6 ∧ grw 6 S1 r.2.2) := fun x => Ok.chk (by have := g.2; omega) (Ok.ret ⟨k.1, k.2.1, k.2.2.2, hk, f2, f3, g.1, by have := g.2; dsimp only; omega⟩)
    rw [e1]
    rcases k4 with ⟨z, -⟩ | ⟨z, -⟩ | ⟨z, -⟩
    · dsimp only at z
      subst z
      rw [zbx_inl, if_pos rfl]; exact fin _
    · dsimp only at z
      subst z
      rw [zbx_inl, if_neg (by decide), if_pos rfl]; exact fin _
    · dsimp only at z
      subst z
      rw [zbx_inr]; exact fin _
end
