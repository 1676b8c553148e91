/-! PURE 87: the law's own texts: selectors, grammars; a program has written the steps (wip/p41/genq8.py) -/
section
variable {ln : Int} {scr : Int → Int}
theorem LS_sel {M : zM} {S : zS} {i : Int} (hs : S.1 + 160 ≤ 6000) (h89 : 89 ≤ S.1) (h0 : 0 ≤ i ∧ i ≤ 900) : Ok (F_L_selector ln scr i M S) (fun r => ∃ U : List Int, U.length ≤ 14 ∧ txO r.1 U r.2.1 r.2.2 ∧ kp S.1 S M r.2.2 r.2.1 ∧ r.2.2.1 ≤ S.1 + 25) := by
  have hw : ∀ k : Int, 0 ≤ k → k ≤ 10 → w (i + k) = i + k := fun k k0 k1 => w_id ⟨by omega, by omega⟩
  have hr1 : ∀ r : Int, 0 ≤ r → r ≤ 10 → w (1 + r) = 1 + r := fun r k0 k1 => w_id ⟨by omega, by omega⟩
  unfold F_L_selector
  refine St_pick (by omega) h0.1 (by decide) (by decide) (fun p p0 p1 => ?_)
  refine Ok.ite (fun c => Ok.chk (by omega) (Ok.ret ⟨csT 9, by decide, txC 9 (by decide), kp.refl (Nat.le_refl _), Nat.le_add_right _ _⟩)) (fun c0 => ?_)
  refine Ok.ite (fun c => ?_) (fun cn => ?_)
  · refine St_new (by omega) h89 (fun M1 S1 g1 => ?_)
    refine St_app g1 (txC 10 (by decide)) (by have z := csT_ls; simp only [List.length_append, List.length_cons, List.length_nil]; omega) (by omega) (fun M2 S2 g2 => ?_)
    have b2 := g2.2.2
    refine St_pick (by omega) (by rw [hw 1 (by omega) (by omega)]; omega) (by decide) (by decide) (fun r r0 r1 => ?_)
    refine St_int g2 (by omega) (by omega) (by have z := csT_ls; simp only [List.length_append, List.length_cons, List.length_nil]; omega) (by omega) (fun M3 S3 g3 => ?_)
    exact St_str g3 (by omega) (fun r M9 S9 k1 k2 k3 => Ok.chk (by omega) (Ok.ret ⟨_, (by have z := csT_ls; simp only [List.length_append, List.length_cons, List.length_nil]; omega), Or.inr k2, k1, by dsimp only; omega⟩))
  refine Ok.ite (fun c => ?_) (fun cn => ?_)
  · refine St_new (by omega) h89 (fun M1 S1 g1 => ?_)
    refine St_app g1 (txC 11 (by decide)) (by have z := csT_ls; simp only [List.length_append, List.length_cons, List.length_nil]; omega) (by omega) (fun M2 S2 g2 => ?_)
    have b2 := g2.2.2
    refine St_pick (by omega) (by rw [hw 4 (by omega) (by omega)]; omega) (by decide) (by decide) (fun r r0 r1 => ?_)
    refine St_let g2 (by omega) (by rw [hw 1 (by omega) (by omega)]; omega) (by rw [hr1 r (by omega) (by omega)]; omega) (fun s3 U M3 S3 lU tU g3 => ?_)
    rw [hr1 r (by omega) (by omega)] at lU
    refine St_app g3 tU (by have z := csT_ls; simp only [List.length_append, List.length_cons, List.length_nil]; omega) (by omega) (fun M4 S4 g4 => ?_)
    exact St_str g4 (by omega) (fun r M9 S9 k1 k2 k3 => Ok.chk (by omega) (Ok.ret ⟨_, (by have z := csT_ls; simp only [List.length_append, List.length_cons, List.length_nil]; omega), Or.inr k2, k1, by dsimp only; omega⟩))
  refine Ok.ite (fun c => ?_) (fun cn => ?_)
  · refine St_new (by omega) h89 (fun M1 S1 g1 => ?_)
    refine St_app g1 (txC 12 (by decide)) (by have z := csT_ls; simp only [List.length_append, List.length_cons, List.length_nil]; omega) (by omega) (fun M2 S2 g2 => ?_)
    have b2 := g2.2.2
    refine St_pick (by omega) (by rw [hw 4 (by omega) (by omega)]; omega) (by decide) (by decide) (fun r r0 r1 => ?_)
    refine St_let g2 (by omega) (by rw [hw 1 (by omega) (by omega)]; omega) (by rw [hr1 r (by omega) (by omega)]; omega) (fun s3 U M3 S3 lU tU g3 => ?_)
    rw [hr1 r (by omega) (by omega)] at lU
    refine St_app g3 tU (by have z := csT_ls; simp only [List.length_append, List.length_cons, List.length_nil]; omega) (by omega) (fun M4 S4 g4 => ?_)
    exact St_str g4 (by omega) (fun r M9 S9 k1 k2 k3 => Ok.chk (by omega) (Ok.ret ⟨_, (by have z := csT_ls; simp only [List.length_append, List.length_cons, List.length_nil]; omega), Or.inr k2, k1, by dsimp only; omega⟩))
  refine Ok.ite (fun c => ?_) (fun cn => ?_)
  · refine St_new (by omega) h89 (fun M1 S1 g1 => ?_)
    refine St_app g1 (txC 13 (by decide)) (by have z := csT_ls; simp only [List.length_append, List.length_cons, List.length_nil]; omega) (by omega) (fun M2 S2 g2 => ?_)
    have b2 := g2.2.2
    refine St_pick (by omega) (by rw [hw 1 (by omega) (by omega)]; omega) (by decide) (by decide) (fun r r0 r1 => ?_)
    refine St_int g2 (by omega) (by omega) (by have z := csT_ls; simp only [List.length_append, List.length_cons, List.length_nil]; omega) (by omega) (fun M3 S3 g3 => ?_)
    refine St_app g3 (txC 14 (by decide)) (by have z := csT_ls; simp only [List.length_append, List.length_cons, List.length_nil]; omega) (by omega) (fun M4 S4 g4 => ?_)
    have b4 := g4.2.2
    refine St_pick (by omega) (by rw [hw 2 (by omega) (by omega)]; omega) (by decide) (by decide) (fun s s0 s1 => ?_)
    refine St_int g4 (by omega) (by omega) (by have z := csT_ls; simp only [List.length_append, List.length_cons, List.length_nil]; omega) (by omega) (fun M5 S5 g5 => ?_)
    refine St_app g5 (txC 15 (by decide)) (by have z := csT_ls; simp only [List.length_append, List.length_cons, List.length_nil]; omega) (by omega) (fun M6 S6 g6 => ?_)
    have b6 := g6.2.2
    refine St_pick (by omega) (by rw [hw 3 (by omega) (by omega)]; omega) (by decide) (by decide) (fun t t0 t1 => ?_)
    refine St_int g6 (by omega) (by omega) (by have z := csT_ls; simp only [List.length_append, List.length_cons, List.length_nil]; omega) (by omega) (fun M7 S7 g7 => ?_)
    exact St_str g7 (by omega) (fun r M9 S9 k1 k2 k3 => Ok.chk (by omega) (Ok.ret ⟨_, (by have z := csT_ls; simp only [List.length_append, List.length_cons, List.length_nil]; omega), Or.inr k2, k1, by dsimp only; omega⟩))
  refine Ok.ite (fun c => ?_) (fun cn => ?_)
  · refine St_new (by omega) h89 (fun M1 S1 g1 => ?_)
    refine St_app g1 (txC 16 (by decide)) (by have z := csT_ls; simp only [List.length_append, List.length_cons, List.length_nil]; omega) (by omega) (fun M2 S2 g2 => ?_)
    have b2 := g2.2.2
    refine St_pick (by omega) (by rw [hw 1 (by omega) (by omega)]; omega) (by decide) (by decide) (fun r r0 r1 => ?_)
    refine St_int g2 (by omega) (by omega) (by have z := csT_ls; simp only [List.length_append, List.length_cons, List.length_nil]; omega) (by omega) (fun M3 S3 g3 => ?_)
    exact St_str g3 (by omega) (fun r M9 S9 k1 k2 k3 => Ok.chk (by omega) (Ok.ret ⟨_, (by have z := csT_ls; simp only [List.length_append, List.length_cons, List.length_nil]; omega), Or.inr k2, k1, by dsimp only; omega⟩))
  refine St_new (by omega) h89 (fun M1 S1 g1 => ?_)
  refine St_app g1 (txC 17 (by decide)) (by have z := csT_ls; simp only [List.length_append, List.length_cons, List.length_nil]; omega) (by omega) (fun M2 S2 g2 => ?_)
  have b2 := g2.2.2
  refine St_pick (by omega) (by rw [hw 1 (by omega) (by omega)]; omega) (by decide) (by decide) (fun r r0 r1 => ?_)
  refine St_int g2 (by rw [hr1 r (by omega) (by omega)]; omega) (by rw [hr1 r (by omega) (by omega)]; omega) (by have z := csT_ls; simp only [List.length_append, List.length_cons, List.length_nil]; omega) (by omega) (fun M3 S3 g3 => ?_)
  exact St_str g3 (by omega) (fun r M9 S9 k1 k2 k3 => Ok.chk (by omega) (Ok.ret ⟨_, (by have z := csT_ls; simp only [List.length_append, List.length_cons, List.length_nil]; omega), Or.inr k2, k1, by dsimp only; omega⟩))
theorem LS_mode {r : Int} : ∃ j : Nat, j ≤ 4 ∧ F_L_mode r = some (48 + (4 + j)) := by
  unfold F_L_mode
  by_cases a : r = 0
  · rw [if_pos a]; exact ⟨0, by decide, rfl⟩
  rw [if_neg a]
  by_cases a : r = 1
  · rw [if_pos a]; exact ⟨1, by decide, rfl⟩
  rw [if_neg a]
  by_cases a : r = 2
  · rw [if_pos a]; exact ⟨2, by decide, rfl⟩
  rw [if_neg a]
  by_cases a : r = 3
  · rw [if_pos a]; exact ⟨3, by decide, rfl⟩
  rw [if_neg a]; exact ⟨4, by decide, rfl⟩
theorem csT_8 : ∀ j : Nat, j ≤ 4 → (csT (4 + j)).length ≤ 8 := by decide +kernel
end
/-- the class stands, its text is empty, its limit low, at most n places are taken -/
def BW (n : Nat) (M : zM) (S : zS) : Prop := ∃ G ax cur R, clsW 0 G ax cur R M S ∧ R.2.1 = [] ∧ G.1 ≤ 6 ∧ S.1 ≤ n
theorem BW.mono {n m : Nat} {M : zM} {S : zS} (h : BW n M S) (i : n ≤ m) : BW m M S := by
  obtain ⟨G, ax, cur, R, a, b, c, d⟩ := h
  exact ⟨G, ax, cur, R, a, b, c, Nat.le_trans d i⟩
theorem BW.h89 {n : Nat} {M : zM} {S : zS} (h : BW n M S) : 89 ≤ S.1 ∧ S.1 ≤ n := by
  obtain ⟨G, ax, cur, R, a, b, c, d⟩ := h
  exact ⟨a.1.1, d⟩
section
variable {β : Type} {P : β → Prop} {S S0 : zS} {M M0 : zM} {q d : Nat} {T : List Int} {ln : Int} {scr : Int → Int}
theorem St_sel {k : Nat → zM → zS → Option β} {i : Int} (g : SBx S0 M0 q T M S d) (hs : S0.1 + d + 160 ≤ 6000) (h0 : 0 ≤ i ∧ i ≤ 900) (hy : ∀ r U M1 S1, U.length ≤ 14 → txO r U M1 S1 → SBx S0 M0 q T M1 S1 (d + 25) → Ok (k r M1 S1) P) : Ok (zchk (S.1 + 100 ≤ 6000) (zb3 (F_L_selector ln scr i M S) k)) P := by
  have g3 := g.2.2
  have g4 := g.2.1.1
  exact Ok.chk (by omega) (Ok.b3 (LS_sel (by omega) (by omega) h0) (fun r M1 S1 ⟨U, u1, u2, u3, u4⟩ => hy r U M1 S1 u1 u2 (g.on u3 u4)))
theorem St_def {k : Int → zM → zS → Option β} {v n : Nat} (hB : BW n M0 S0) (k1 : kp S0.1 S0 M0 S M) (ht : stO v T M S) (hl : T.length ≤ 60) (hlim : lmT T) (hS : S.1 ≤ S0.1 + d) (hs : S0.1 + d + 106 ≤ 6000) (hy : ∀ a M1 S1, BW (n + d + 6) M1 S1 → Ok (k a M1 S1) P) : Ok (zchk (S.1 + 100 ≤ 6000) (zb3 (F_L_define v M S) k)) P := by
  obtain ⟨G, ax, cur, R, b1, b2, b3, b4⟩ := hB
  refine Ok.chk (by omega) (Ok.b3 (LD (b1.kp k1) b2 ht hl hlim b3 (by omega)) (fun a M1 S1 ⟨G1, ax1, R1, c1, c2, c3, c4⟩ => hy a M1 S1 ⟨G1, ax1, cur, R1, c1, c2, c3, ?_⟩))
  have := c4.2
  dsimp only at this
  omega
end
section
variable {ln : Int} {scr : Int → Int}
theorem LB_ctx {M : zM} {S : zS} {v2 v4 : Int} {i n : Nat} (hB : BW n M S) (hn : n ≤ 5000) (hv : 0 ≤ v2 ∧ v2 ≤ 300) (hi : (i : Int) < v4) (hi3 : i ≤ 3) : Ok (F_L_build_B189 ln scr v2 v4 (i : Int) M S) (fun r => ∃ M1 S1, r = .inl ((i : Int) + 1, M1, S1) ∧ BW (n + 80) M1 S1) := by
  obtain ⟨h89, hle⟩ := hB.h89
  obtain ⟨x, hx⟩ : ∃ x, x = v2 + 21 + 20 * (i : Int) := ⟨_, rfl⟩
  have hw : ∀ k : Int, 0 ≤ k → k ≤ 10 → w (x + k) = x + k := fun k k0 k1 => w_id ⟨by omega, by omega⟩
  have hr1 : ∀ r : Int, 0 ≤ r → r ≤ 10 → w (1 + r) = 1 + r := fun r k0 k1 => w_id ⟨by omega, by omega⟩
  unfold F_L_build_B189
  rw [if_pos hi, w_id (a := v2 + 21 + 20 * (i : Int)) ⟨by omega, by omega⟩, ← hx, zlet_eq]
  refine St_new (by omega) h89 (fun M1 S1 g1 => ?_)
  refine St_app g1 (txC 1 (by decide)) (by have z := csT_ls; simp only [List.length_append, List.length_cons, List.length_nil]; omega) (by omega) (fun M2 S2 g2 => ?_)
  have b2 := g2.2.2
  refine St_pick (by omega) (by rw [hw 3 (by omega) (by omega)]; omega) (by decide) (by decide) (fun r r0 r1 => ?_)
  refine St_let g2 (by omega) ⟨by omega, by omega⟩ (by rw [hr1 r (by omega) (by omega)]; omega) (fun s3 U M3 S3 lU tU g3 => ?_)
  rw [hr1 r (by omega) (by omega)] at lU
  refine St_app g3 tU (by have z := csT_ls; simp only [List.length_append, List.length_cons, List.length_nil]; omega) (by omega) (fun M4 S4 g4 => ?_)
  refine St_app g4 (txC 18 (by decide)) (by have z := csT_ls; simp only [List.length_append, List.length_cons, List.length_nil]; omega) (by omega) (fun M5 S5 g5 => ?_)
  have b5 := g5.2.2
  refine St_pick (by omega) (by rw [hw 7 (by omega) (by omega)]; omega) (by decide) (by decide) (fun s s0 s1 => ?_)
  refine St_let g5 (by omega) (by rw [hw 4 (by omega) (by omega)]; omega) ⟨by omega, by omega⟩ (fun s6 V M6 S6 lV tV g6 => ?_)
  refine St_app g6 tV (by have z := csT_ls; simp only [List.length_append, List.length_cons, List.length_nil]; omega) (by omega) (fun M7 S7 g7 => ?_)
  refine St_app g7 (txC 19 (by decide)) (by have z := csT_ls; simp only [List.length_append, List.length_cons, List.length_nil]; omega) (by omega) (fun M8 S8 g8 => ?_)
  refine St_sel g8 (by omega) (by rw [hw 8 (by omega) (by omega)]; omega) (fun s9 X M9 S9 lX tX g9 => ?_)
  refine St_app g9 tX (by have z := csT_ls; simp only [List.length_append, List.length_cons, List.length_nil]; omega) (by omega) (fun M10 S10 g10 => ?_)
  refine St_str g10 (by omega) (fun r M9 S9 k1 k2 k3 => ?_)
  refine St_def (d := 49) hB k1 k2 (by have z := csT_ls; simp only [List.length_append, List.length_nil]; omega) (fun q => absurd (show (99 : Int) = 108 from q) (by decide)) k3 (by omega) (fun a M8 S8 hb => Ok.lett (Ok.ret ⟨M8, S8, ?_, hb.mono (by omega)⟩))
  rw [w_id (a := (i : Int) + 1) ⟨by omega, by omega⟩]
theorem LB_ax {M : zM} {S : zS} {v2 v3 : Int} {i n : Nat} (hB : BW n M S) (hn : n ≤ 5000) (hv : 0 ≤ v2 ∧ v2 ≤ 300) (hi : (i : Int) < v3) (hi3 : i ≤ 3) : Ok (F_L_build_B111 ln scr v2 v3 (i : Int) M S) (fun r => ∃ M1 S1, r = .inl ((i : Int) + 1, M1, S1) ∧ BW (n + 40) M1 S1) := by
  obtain ⟨h89, hle⟩ := hB.h89
  have hw6 : w (v2 + 6 + 4 * (i : Int)) = v2 + 6 + 4 * (i : Int) := w_id ⟨by omega, by omega⟩
  have hw3 : w (v2 + 3 + 4 * (i : Int)) = v2 + 3 + 4 * (i : Int) := w_id ⟨by omega, by omega⟩
  have hr1 : ∀ r : Int, 0 ≤ r → r ≤ 10 → w (1 + r) = 1 + r := fun r k0 k1 => w_id ⟨by omega, by omega⟩
  unfold F_L_build_B111
  rw [if_pos hi]
  refine St_new (by omega) h89 (fun M1 S1 g1 => ?_)
  refine St_app g1 (txC 0 (by decide)) (by have z := csT_ls; simp only [List.length_append, List.length_cons, List.length_nil]; omega) (by omega) (fun M2 S2 g2 => ?_)
  have b2 := g2.2.2
  refine St_pick (by omega) (by rw [hw6]; omega) (by decide) (by decide) (fun r r0 r1 => ?_)
  refine St_let g2 (by omega) (by rw [hw3]; omega) (by rw [hr1 r (by omega) (by omega)]; omega) (fun s3 U M3 S3 lU tU g3 => ?_)
  rw [hr1 r (by omega) (by omega)] at lU
  refine St_app g3 tU (by have z := csT_ls; simp only [List.length_append, List.length_cons, List.length_nil]; omega) (by omega) (fun M4 S4 g4 => ?_)
  refine St_str g4 (by omega) (fun r M9 S9 k1 k2 k3 => ?_)
  refine St_def (d := 13) hB k1 k2 (by have z := csT_ls; simp only [List.length_append, List.length_nil]; omega) (fun q => absurd (show (97 : Int) = 108 from q) (by decide)) k3 (by omega) (fun a M8 S8 hb => Ok.lett (Ok.ret ⟨M8, S8, ?_, hb.mono (by omega)⟩))
  rw [w_id (a := (i : Int) + 1) ⟨by omega, by omega⟩]
theorem LB_L189 {M : zM} {S : zS} {v2 v4 : Int} {n : Nat} (hB : BW n M S) (hn : n ≤ 4000) (hv : 0 ≤ v2 ∧ v2 ≤ 300) (h4 : 0 ≤ v4 ∧ v4 ≤ 3) : Ok (F_L_build_L189 ln scr v2 v4 0 M S) (fun r => BW (n + 240) r.1 r.2) := by
  unfold F_L_build_L189
  refine Ok.loop (fun s : Int × zM × zS => ∃ i : Nat, s.1 = (i : Int) ∧ (i : Int) ≤ v4 ∧ BW (n + 80 * i) s.2.1 s.2.2) (fun s => v4.toNat - s.1.toNat) (fun e : zM × zS => BW (n + 240) e.1 e.2) ⟨0, rfl, h4.1, hB⟩ (by show v4.toNat - 0 < 1000000; omega) (fun s ⟨i, h1, h2, h3⟩ => ?_) (fun e h1 => ?_)
  · obtain ⟨s1, M2, S2⟩ := s
    dsimp only at h1 h2 h3 ⊢
    subst h1
    by_cases c : (i : Int) < v4
    · refine (LB_ctx h3 (by omega) hv c (by omega)).mono (fun r ⟨M1, S1, e, hb⟩ => ?_)
      subst e
      exact ⟨⟨i + 1, rfl, by omega, hb.mono (by omega)⟩, by dsimp only; omega⟩
    · unfold F_L_build_B189
      rw [if_neg c]
      exact Ok.ret (h3.mono (by omega))
  · unfold F_L_build_J299
    have := h1.h89
    exact Ok.chk (by omega) (Ok.ret h1)
theorem LB_J175 {M : zM} {S : zS} {v2 : Int} {n : Nat} (hB : BW n M S) (hn : n ≤ 4000) (hv : 0 ≤ v2 ∧ v2 ≤ 300) : Ok (F_L_build_J175 ln scr v2 M S) (fun r => BW (n + 240) r.1 r.2) := by
  have := hB.h89
  unfold F_L_build_J175
  refine St_pick (by omega) (by rw [w_id (a := v2 + 20) ⟨by omega, by omega⟩]; omega) (by decide) (by decide) (fun p p0 p1 => LB_L189 hB hn hv ⟨p0, by omega⟩)
theorem LB_L111 {M : zM} {S : zS} {v2 v3 : Int} {n : Nat} (hB : BW n M S) (hn : n ≤ 3500) (hv : 0 ≤ v2 ∧ v2 ≤ 300) (h4 : 0 ≤ v3 ∧ v3 ≤ 3) : Ok (F_L_build_L111 ln scr v2 v3 0 M S) (fun r => BW (n + 360) r.1 r.2) := by
  unfold F_L_build_L111
  refine Ok.loop (fun s : Int × zM × zS => ∃ i : Nat, s.1 = (i : Int) ∧ (i : Int) ≤ v3 ∧ BW (n + 40 * i) s.2.1 s.2.2) (fun s => v3.toNat - s.1.toNat) (fun e : zM × zS => BW (n + 120) e.1 e.2) ⟨0, rfl, h4.1, hB⟩ (by show v3.toNat - 0 < 1000000; omega) (fun s ⟨i, h1, h2, h3⟩ => ?_) (fun e h1 => ?_)
  · obtain ⟨s1, M2, S2⟩ := s
    dsimp only at h1 h2 h3 ⊢
    subst h1
    by_cases c : (i : Int) < v3
    · refine (LB_ax h3 (by omega) hv c (by omega)).mono (fun r ⟨M1, S1, e, hb⟩ => ?_)
      subst e
      exact ⟨⟨i + 1, rfl, by omega, hb.mono (by omega)⟩, by dsimp only; omega⟩
    · unfold F_L_build_B111
      rw [if_neg c]
      exact Ok.ret (h3.mono (by omega))
  · exact (LB_J175 h1 (by omega) hv).mono (fun r hr => hr.mono (by omega))
theorem LB_J32 {M : zM} {S : zS} {v2 : Int} {n : Nat} (hB : BW n M S) (hn : n ≤ 3000) (hv : 0 ≤ v2 ∧ v2 ≤ 300) : Ok (F_L_build_J32 ln scr v2 M S) (fun r => BW (n + 400) r.1 r.2) := by
  obtain ⟨h89, hle⟩ := hB.h89
  unfold F_L_build_J32
  refine St_new (by omega) h89 (fun M1 S1 g1 => ?_)
  refine St_app g1 (txC 2 (by decide)) (by have z := csT_ls; simp only [List.length_append, List.length_cons, List.length_nil]; omega) (by omega) (fun M2 S2 g2 => ?_)
  have b2 := g2.2.2
  refine St_pick (by omega) (by omega) (by decide) (by decide) (fun r r0 r1 => ?_)
  obtain ⟨j, j4, hj⟩ := LS_mode (r := r)
  rw [hj]
  have j8 := csT_8 j j4
  simp only [zb1_some]
  refine Ok.chk (by omega) ?_
  refine St_app g2 (txC (4 + j) (by omega)) (by have z := csT_ls; simp only [List.length_append, List.length_cons, List.length_nil]; omega) (by omega) (fun M3 S3 g3 => ?_)
  refine St_str g3 (by omega) (fun r M4 S4 k1 k2 k3 => ?_)
  refine St_def (d := 6) hB k1 k2 (by have z := csT_ls; simp only [List.length_append, List.length_nil]; omega) (fun q => absurd (show (109 : Int) = 108 from q) (by decide)) (by omega) (by omega) (fun a M8 S8 hb => ?_)
  clear h89 hle hB j4 hj j8 k1 k2 k3 g3 g1 g2
  obtain ⟨h89, hle⟩ := hb.h89
  refine St_new (by omega) h89 (fun M1 S1 g1 => ?_)
  refine St_app g1 (txC 3 (by decide)) (by have z := csT_ls; simp only [List.length_append, List.length_cons, List.length_nil]; omega) (by omega) (fun M2 S2 g2 => ?_)
  have b2 := g2.2.2
  refine St_pick (by omega) (by rw [w_id (a := v2 + 1) ⟨by omega, by omega⟩]; omega) (by decide) (by decide) (fun s s0 s1 => ?_)
  have hws : w (3 + s) = 3 + s := w_id ⟨by omega, by omega⟩
  rw [hws]
  refine St_int g2 (by omega) (by omega) (by have z := csT_ls; simp only [List.length_append, List.length_cons, List.length_nil]; omega) (by omega) (fun M3 S3 g3 => ?_)
  refine St_str g3 (by omega) (fun r M4 S4 k1 k2 k3 => ?_)
  refine St_def (d := 6) hb k1 k2 (by have z := csT_ls; simp only [List.length_append, List.length_nil, List.length_cons]; omega) (fun q => show 48 + (3 + s) ≤ 54 by omega) (by omega) (by omega) (fun a M6 S6 hc => ?_)
  have hc9 := hc.h89
  refine St_pick (by omega) (by rw [w_id (a := v2 + 2) ⟨by omega, by omega⟩]; omega) (by decide) (by decide) (fun t t0 t1 => Ok.lett ?_)
  rw [w_id (a := 1 + t) ⟨by omega, by omega⟩]
  exact (LB_L111 hc (by omega) hv ⟨by omega, by omega⟩).mono (fun r hr => hr.mono (by omega))
theorem LB_L16 {M : zM} {S : zS} {v2 : Int} {n : Nat} (hB : BW n M S) (hn : n ≤ 3000) (hv : 0 ≤ v2 ∧ v2 ≤ 300) : Ok (F_L_build_L16 ln scr v2 M S) (fun r => BW (n + 400) r.1 r.2) := by
  unfold F_L_build_L16
  refine Ok.loop (fun s : zM × zS => BW n s.1 s.2) (fun s => (s.1 5 3).toNat) (fun e : zM × zS => BW n e.1 e.2) hB ?_ (fun s h => ?_) (fun e h => LB_J32 h hn hv)
  · obtain ⟨G, ax, cur, R, a, b, c, d⟩ := hB
    have h1 := a.2.2.1.1
    have h5 := a.2.1.1.2.2.1
    show (M 5 3).toNat < 1000000
    omega
  · obtain ⟨M1, S1⟩ := s
    obtain ⟨G, ax, cur, R, a, b, c, d⟩ := h
    dsimp only at a b c d ⊢
    unfold F_L_build_B16
    refine Ok.chk (by omega) ?_
    rw [Q_cnt1 a, zbx_inr]
    refine Ok.ite (fun z => ?_) (fun z => Ok.ret ⟨G, ax, cur, R, a, b, c, d⟩)
    refine Ok.chk (by omega) (Ok.bx (Q_removeContext (t := 0) a (by omega)) (fun e M2 S2 q => by cases q.1) (fun u M2 S2 ⟨q1, q2, q3, q4⟩ => Ok.ret ⟨⟨_, ax, cur, R, q2, b, c, ?_⟩, ?_⟩))
    · have := q4.1; dsimp only at this ⊢; omega
    · have e1 := a.2.2.1.1
      have e2 : M2 5 3 = ((G.2.2.eraseIdx 0).length : Int) := q2.2.2.1.1
      rw [List.length_eraseIdx_of_lt (by omega)] at e2
      show (M2 5 3).toNat < (M1 5 3).toNat
      omega
theorem LB {M : zM} {S : zS} {v2 : Int} {n : Nat} (hB : BW n M S) (hn : n ≤ 3000) (hv : 0 ≤ v2 ∧ v2 ≤ 300) : Ok (F_L_build ln scr v2 M S) (fun r => BW (n + 400) r.1 r.2) := by
  unfold F_L_build F_L_build_L0
  refine Ok.loop (fun s : zM × zS => BW n s.1 s.2) (fun s => (s.1 5 2).toNat) (fun e : zM × zS => BW n e.1 e.2) hB ?_ (fun s h => ?_) (fun e h => LB_L16 h hn hv)
  · obtain ⟨G, ax, cur, R, a, b, c, d⟩ := hB
    have h1 := a.2.2.2.2.1.1
    have h5 := a.2.1.2.1.1
    show (M 5 2).toNat < 1000000
    omega
  · obtain ⟨M1, S1⟩ := s
    obtain ⟨G, ax, cur, R, a, b, c, d⟩ := h
    dsimp only at a b c d ⊢
    unfold F_L_build_B0
    refine Ok.chk (by omega) ?_
    rw [Q_cnt0 a, zbx_inr]
    refine Ok.ite (fun z => ?_) (fun z => Ok.ret ⟨G, ax, cur, R, a, b, c, d⟩)
    refine Ok.chk (by omega) (Ok.q (Q_removeAxiom (i := 0) a (by omega)) (fun u M2 q2 q3 _ => Ok.ret ⟨⟨G, _, cur, R, q2, b, c, d⟩, ?_⟩))
    have e1 := a.2.2.2.2.1.1
    have e2 : M2 5 2 = ((ax.eraseIdx 0).length : Int) := q2.2.2.2.2.1.1
    rw [List.length_eraseIdx_of_lt (by omega)] at e2
    show (M2 5 2).toNat < (M1 5 2).toNat
    omega
end
