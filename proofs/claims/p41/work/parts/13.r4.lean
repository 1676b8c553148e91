/-! PURE 92: sizes -/
theorem AWi.q {B : Int} {G G1 : zGr} {ax : List Int} {R R1 : zRst} {M M1 : zM} {S : zS} {v2 : Nat} {W : List Int} {U : Nat → Prop} {cur : Int} (h : AWi B G ax R v2 W U M S) (hC : clsW B G1 ax cur R1 M1 S) (k : keepM S M M1) : AWi B G1 ax R1 v2 W U M1 S := by
  obtain ⟨-, h2, h3, h4⟩ := h
  refine ⟨⟨cur, hC⟩, h2, fun n hn => ?_, fun c hc => ?_⟩
  · rw [k v2 h2.1.1 ⟨by have := h2.1.2; omega, by rw [h2.2.1]; decide⟩]; exact h3 n hn
  · rw [k (v2 + 1) (by have := h2.1.1; omega) ⟨h2.1.2, by rw [h2.2.2.2.1]; decide⟩]; exact h4 c hc
section
variable {B : Int} {G : zGr} {ax : List Int} {R : zRst} {M : zM} {S : zS} {v2 : Nat} {W : List Int} {U : Nat → Prop}
theorem LS_take {t : Int} (h : AWi B G ax R v2 W U M S) (hf : fewA G ax) (ht : ¬ (0 ≤ t ∧ t < ((wl_ (lcA G ax)).length : Int))) (hs : S.1 + 101 ≤ 6000) : Ok (F_L_take t M S) (fun r => r.1 = 1 ∧ AWi B G ax R v2 W U r.2.1 r.2.2 ∧ r.2.2.1 = S.1 + 1) := by
  obtain ⟨⟨cur, hC⟩, h2, h3, h4⟩ := h
  unfold F_L_take
  refine Ok.chk (by omega) (Ok.bx (Q_takeN hC hf ht) (fun e M1 S1 ⟨a1, a2, a3, a4⟩ => ?_) (fun u M1 S1 ⟨a1, a2⟩ => by cases a1))
  dsimp only at a1 a2 a3 a4
  cases a1
  subst a4
  have e1 : (zer S).1 = S.1 + 1 := rfl
  rw [if_pos rfl]
  have k1 : zkd (zer S) v2 = zkd S v2 ∧ zlen (zer S) v2 = zlen S v2 := zk_old (by have := h2.1.2; omega)
  have k2 : zkd (zer S) (v2 + 1) = zkd S (v2 + 1) ∧ zlen (zer S) (v2 + 1) = zlen S (v2 + 1) := zk_old h2.1.2
  refine Ok.chk (by omega) (Ok.ret ⟨rfl, ⟨⟨cur, a2⟩, ⟨⟨h2.1.1, by have := h2.1.2; dsimp only; omega⟩, k1.1.trans h2.2.1, k1.2.trans h2.2.2.1, k2.1.trans h2.2.2.2.1, k2.2.trans h2.2.2.2.2⟩, fun n hn => ?_, fun c hc => ?_⟩, rfl⟩)
  · dsimp only
    rw [a3 v2 h2.1.1 ⟨by have := h2.1.2; omega, by rw [h2.2.1]; decide⟩]; exact h3 n hn
  · dsimp only
    rw [a3 (v2 + 1) (by have := h2.1.1; omega) ⟨h2.1.2, by rw [h2.2.2.2.1]; decide⟩]; exact h4 c hc
end
theorem cnt_flt (D : Int → Prop) (n : Int) (N : Nat) : cnt (fun y => D y ∧ ln y = n) N = (((frl (fun k : Nat => D k) N).map (fun k : Nat => (k : Int))).filter (fun y => decide (ln y = n))).length := by
  unfold cnt frl
  rw [List.filter_map, List.length_map, List.filter_filter]
  refine congrArg List.length (List.filter_congr (fun k _ => ?_))
  show dcd (D (k : Int) ∧ ln (k : Int) = n) = (decide (ln (k : Int) = n) && dcd (D (k : Int)))
  by_cases h1 : D (k : Int)
  · by_cases h2 : ln (k : Int) = n
    · rw [dcd_t ⟨h1, h2⟩, dcd_t h1, decide_eq_true h2]; rfl
    · rw [dcd_f (fun q => h2 q.2), dcd_t h1, decide_eq_false h2]; rfl
  · rw [dcd_f (fun q => h1 q.1), dcd_f h1, Bool.and_false]
theorem cln_f {G : zGr} {ax : List Int} (n : Int) : cln G ax n = (((wl_ (lcA G ax)).filter (fun y => decide (ln y = n))).length : Int) := by
  unfold cln wl_
  exact congrArg (fun k : Nat => (k : Int)) (cnt_flt _ n 29524)
theorem flt_s (W : List Int) (n : Int) : (W.filter (fun y => decide (ln y < n + 1))).length = (W.filter (fun y => decide (ln y < n))).length + (W.filter (fun y => decide (ln y = n))).length := by
  induction W with
  | nil => rfl
  | cons a l ih =>
    by_cases h1 : ln a < n
    · rw [List.filter_cons_of_pos (by simp; omega), List.filter_cons_of_pos (by simp; omega), List.filter_cons_of_neg (by simp; omega), List.length_cons, List.length_cons, ih]; omega
    · by_cases h2 : ln a = n
      · rw [List.filter_cons_of_pos (by simp; omega), List.filter_cons_of_neg (by simp; omega), List.filter_cons_of_pos (by simp; omega), List.length_cons, List.length_cons, ih]; omega
      · rw [List.filter_cons_of_neg (by simp; omega), List.filter_cons_of_neg (by simp; omega), List.filter_cons_of_neg (by simp; omega), ih]
theorem flt_all (W : List Int) (n : Int) (h : ∀ y ∈ W, ln y < n) : (W.filter (fun y => decide (ln y < n))).length = W.length := by
  rw [List.filter_eq_self.mpr (fun y hy => by simp; exact h y hy)]
/-- the powers of three as the law makes them -/
def pw : Nat → UInt64
  | 0 => zd1
  | n + 1 => FP.dmul (pw n) 4613937818241073152
theorem pw_i : ∀ n : Nat, n < 10 → pw n = FP.i2d (zi (p3 (n : Int))) := by decide +kernel
theorem pw_n : ∀ n : Nat, n < 10 → vf_n64 (pw n) := by
  unfold vf_n64
  decide +kernel
theorem dens_e : ∀ a : Nat, a < 301 → ∀ n : Nat, n < 10 → zdcl (dens (a : Int) (n : Int)) (dens (a : Int) (n : Int)) = 0 := by decide +kernel
section
variable {B : Int} {G : zGr} {ax : List Int} {R : zRst} {M : zM} {S : zS} {v1 : Int} {v2 : Nat} {U : Nat → Prop}
theorem SZpow {n : Nat} {β : Type} {P : β → Prop} {v1 v3 v4 v5 : Int} {K : UInt64 → Option β} (hn : n < 10) (hy : Ok (K (pw n)) P) : Ok (zb1 (zloop (fun (s : UInt64 × Int) => F_L_areSizes_B46 v1 v2 v3 v4 v5 (n : Int) s.1 s.2 M S) zN (zd1, 0)) (fun (e : UInt64) => K e)) P := by
  refine Ok.loop (fun s : UInt64 × Int => ∃ k : Nat, k ≤ n ∧ s = (pw k, (k : Int))) (fun s => n - s.2.toNat) (fun e : UInt64 => e = pw n) ⟨0, Nat.zero_le _, rfl⟩ (by show n - 0 < 1000000; omega) (fun s ⟨k, h1, h2⟩ => ?_) (fun e he => by subst he; exact hy)
  subst h2
  unfold F_L_areSizes_B46
  dsimp only
  refine Ok.ite (fun c => ?_) (fun c => Ok.ret ?_)
  · refine Ok.chkP (pw_n (k + 1) (by omega)) (Ok.lett (Ok.lett (Ok.ret ?_)))
    rw [w_id (a := (k : Int) + 1) ⟨by omega, by omega⟩]
    exact ⟨⟨k + 1, by omega, rfl⟩, by dsimp only; omega⟩
  · have e : k = n := by omega
    rw [e]
    rfl
theorem rS_0 {R : zRst} {f : Nat → Int × Int × (Int → Int)} {e : Int × Int × (Int → Int)} : (rS R (slU f 0 e)).2.2.2 0 = e := by
  show slU f 0 e 0 = e
  exact slU_eq
/-- one length looked at -/
theorem SZ1 {f : Int → Int} {n : Nat} {v4 : Int} (h : AWi B G ax R v2 (wl_ (lcA G ax)) U M S) (hf : fewA G ax) (hR : R.2.2.2 0 = (2, 10, f)) (hn : (n : Int) ≤ G.1) (h4 : v4 = (((wl_ (lcA G ax)).filter (fun y => decide (ln y < (n : Int)))).length : Int)) (hs : S.1 + 100 ≤ 6000) : Ok (F_L_areSizes_B23 v1 v2 G.1 v4 1 (n : Int) M S) (fun r => ∃ M1 R1, r = .inl ((((wl_ (lcA G ax)).filter (fun y => decide (ln y < ((n + 1 : Nat) : Int)))).length : Int), 1, ((n + 1 : Nat) : Int), M1, S) ∧ AWi B G ax R1 v2 (wl_ (lcA G ax)) U M1 S ∧ R1.2.2.2 0 = (2, 10, up f (n : Int) (cln G ax (n : Int))) ∧ R1.2.1 = R.2.1) := by
  obtain ⟨⟨cur, hC⟩, hA, hct, -⟩ := id h
  have hG9 := hC.2.1.1.1
  have h300 : (wl_ (lcA G ax)).length ≤ 300 := by rw [wl_cnt]; exact hf
  have hcl := cln_f (G := G) (ax := ax) (n : Int)
  have hfs := flt_s (wl_ (lcA G ax)) (n : Int)
  have hle : ((wl_ (lcA G ax)).filter (fun y => decide (ln y < (n : Int) + 1))).length ≤ (wl_ (lcA G ax)).length := List.length_filter_le _ _
  have hcb := cln_b (n := (n : Int)) hf
  unfold F_L_areSizes_B23
  refine Ok.neg (by omega) (Ok.chk hs (Ok.q (Q_sizeOf hC hf (by omega) hn) (fun r85 M1 a1 a2 a3 => Ok.lett ?_)))
  subst a3
  have e4 : w (v4 + cln G ax (n : Int)) = (((wl_ (lcA G ax)).filter (fun y => decide (ln y < ((n + 1 : Nat) : Int)))).length : Int) := by
    rw [w_id ⟨by omega, by omega⟩, h4, hcl, show ((n + 1 : Nat) : Int) = (n : Int) + 1 by omega]
    omega
  rw [e4]
  unfold F_L_areSizes_L46
  refine SZpow (K := fun e => F_L_areSizes_J67 v1 v2 G.1 _ 1 (n : Int) e M1 S) (by omega) ?_
  unfold F_L_areSizes_J67
  refine Ok.neg (by decide) (Ok.chk hs (Ok.q (Q_sizeOf a1 hf (by omega) hn) (fun r53 M2 b1 b2 b3 => ?_)))
  subst b3
  have m2 : ∀ M3, keepM S M M3 → M3 v2 (n : Int) = cln G ax (n : Int) := fun M3 k => by
    rw [k v2 hA.1.1 ⟨by have := hA.1.2; omega, by rw [hA.2.1]; decide⟩, hct n (by omega), hcl]
  have k2 := a2.trans b2
  have z10 : (0 : Int) ≤ (n : Int) ∧ (n : Int) < zlen S v2 := by rw [hA.2.2.1]; omega
  refine Ok.chk hA.2.1 (Ok.chk z10 (Ok.pos (m2 M2 k2).symm (Ok.chk hs (Ok.q (Q_density b1 hf (by omega) hn) (fun r66 M3 c1 c2 c3 => ?_)))))
  subst c3
  have k3 := k2.trans c2
  have ed : FP.ddiv (FP.i2d (zi (cln G ax (n : Int)))) (pw n) = dens (cln G ax (n : Int)) (n : Int) := by
    rw [pw_i n (by omega)]; rfl
  refine Ok.chk hA.2.1 (Ok.chk z10 ?_)
  rw [m2 M3 k3, ed]
  have ee := dens_e (cln G ax (n : Int)).toNat (by omega) n (by omega)
  rw [show (((cln G ax (n : Int)).toNat : Nat) : Int) = cln G ax (n : Int) by omega] at ee
  refine Ok.chkP (dens_ok _ _ hcb.1 hcb.2 (by omega) (by omega)) (Ok.pos ee ?_)
  unfold F_L_areSizes_J108
  refine Ok.chk hA.2.1 (Ok.chk z10 (Ok.chk hs ?_))
  rw [m2 M3 k3]
  refine Ok.q (Q_store c1 hR (by omega) (by omega)) (fun u M4 d1 d2 _ => Ok.lett (Ok.ret ⟨M4, _, ?_, h.q d1 (k3.trans d2), rS_0, rfl⟩))
  rw [w_id (a := (n : Int) + 1) ⟨by omega, by omega⟩]
  rfl
theorem SZcmp {cur : Int} {f : Int → Int} {g : Int} (hC : clsW B G ax cur R M S) (hf : fewA G ax) (hR : R.2.2.2 0 = (2, 10, f)) (hlo : ∀ j : Nat, (j : Int) < G.1 → f j = cln G ax j) (hg : f G.1 = g) : Ok (F_X10_compareSizes 0 M S) (qX B G ax cur R S M (fun v => (g = cln G ax G.1 → v = -1) ∧ (g ≠ cln G ax G.1 → v = G.1))) := by
  have hG9 := hC.2.1.1.1
  obtain ⟨L, hL⟩ : ∃ L : Nat, G.1 = (L : Int) := ⟨G.1.toNat, by omega⟩
  refine (Q_compare hC hf hR).mono (fun r ⟨a, h1, h2, h3, h4, i, h5, h6⟩ => ⟨a, h1, h2, h3, h4, ?_⟩)
  rcases h6 with ⟨z1, z2⟩ | ⟨z1, z2, z3⟩
  · refine ⟨fun _ => z2, fun q => ?_⟩
    have := (h5 L (by omega)).2.2
    rw [← hL, hg] at this
    exact absurd this q
  · have hi : (i : Int) = G.1 := by
      by_cases q : (i : Int) < G.1
      · exact absurd (hlo i q) z2
      · omega
    rw [hi, hg] at z2
    exact ⟨fun q => absurd q z2, fun _ => by omega⟩
theorem LZ (h : AWi B G ax R v2 (wl_ (lcA G ax)) U M S) (hf : fewA G ax) (hs : S.1 + 100 ≤ 6000) : Ok (F_L_areSizes ((wl_ (lcA G ax)).length : Int) v2 M S) (fun r => r.1 = 1 ∧ r.2.2 = S ∧ ∃ R1, AWi B G ax R1 v2 (wl_ (lcA G ax)) U r.2.1 S ∧ R1.2.1 = R.2.1) := by
  obtain ⟨⟨cur, hC⟩, hA, hct, -⟩ := id h
  have hG9 := hC.2.1.1.1
  have hG := hC.2.1.1
  have hax := hC.2.1.2.1
  obtain ⟨L, hL⟩ : ∃ L : Nat, G.1 = (L : Int) := ⟨G.1.toNat, by omega⟩
  unfold F_L_areSizes
  refine Ok.chk hs ?_
  rw [Q_cnt3 hC, zbx_inr]
  refine Ok.chk hs (Ok.q (Q_allocate hC) (fun u M1 a1 a2 _ => ?_))
  unfold F_L_areSizes_L23
  refine Ok.loop (fun s : Int × Int × Int × zM × zS => ∃ (n : Nat) (R1 : zRst) (f : Int → Int), s.2.2.1 = (n : Int) ∧ n ≤ L + 1 ∧ s.2.1 = 1 ∧ s.1 = (((wl_ (lcA G ax)).filter (fun y => decide (ln y < (n : Int)))).length : Int) ∧ s.2.2.2.2 = S ∧ AWi B G ax R1 v2 (wl_ (lcA G ax)) U s.2.2.2.1 S ∧ R1.2.2.2 0 = (2, 10, f) ∧ (∀ j : Nat, j < n → f j = cln G ax j) ∧ R1.2.1 = R.2.1) (fun s => L + 1 - s.2.2.1.toNat) (fun e : Int × Int × zM × zS => e.1 = ((wl_ (lcA G ax)).length : Int) ∧ e.2.1 = 1 ∧ e.2.2.2 = S ∧ ∃ (R1 : zRst) (f : Int → Int), AWi B G ax R1 v2 (wl_ (lcA G ax)) U e.2.2.1 S ∧ R1.2.2.2 0 = (2, 10, f) ∧ (∀ j : Nat, j < L + 1 → f j = cln G ax j) ∧ R1.2.1 = R.2.1) ⟨0, _, _, rfl, Nat.zero_le _, rfl, ?_, rfl, h.q a1 a2, rS_0, fun j hj => absurd hj (Nat.not_lt_zero j), rfl⟩ (by show L + 1 - 0 < 1000000; omega) (fun s ⟨n, R1, f, h1, h2, h3, h4, h5, h6, h7, h8, h9⟩ => ?_) (fun e ⟨h1, h2, h3, R1, f, h4, h5, h6, h7⟩ => ?_)
  · show (0 : Int) = _
    have : (wl_ (lcA G ax)).filter (fun y => decide (ln y < ((0 : Nat) : Int))) = [] := List.filter_eq_nil_iff.mpr (fun y _ => by have := (ln_b y).1; simp; omega)
    rw [this]
    rfl
  · obtain ⟨s1, s2, s3, M2, S2⟩ := s
    dsimp only at h1 h3 h4 h5 h6 ⊢
    subst h1 h3 h5
    by_cases c : (n : Int) ≤ G.1
    · refine (SZ1 h6 hf h7 c h4 hs).mono (fun r ⟨M3, R3, e1, e2, e3, e4⟩ => ?_)
      subst e1
      refine ⟨⟨n + 1, R3, _, rfl, by omega, rfl, rfl, rfl, e2, e3, fun j hj => ?_, e4.trans h9⟩, by dsimp only; omega⟩
      by_cases q : j = n
      · rw [q, up_eq]
      · rw [up_ne _ _ (by omega)]; exact h8 j (by omega)
    · unfold F_L_areSizes_B23
      rw [if_pos (by omega)]
      refine Ok.ret ⟨?_, rfl, rfl, R1, f, h6, h7, fun j hj => h8 j (by omega), h9⟩
      dsimp only
      rw [h4, flt_all _ _ (fun y hy => ?_)]
      obtain ⟨i, hi, he⟩ := List.getElem_of_mem hy
      have hg := List.getElem?_eq_getElem hi
      rw [he] at hg
      have := (lc_wd hG hax (wl_idx hg).2.2).2
      omega
  · obtain ⟨e1, e2, M2, S2⟩ := e
    dsimp only at h1 h2 h3 h4 ⊢
    subst h1 h2 h3
    obtain ⟨⟨c2, hC2⟩, hA2, hct2, -⟩ := id h4
    have hcl := cln_f (G := G) (ax := ax) G.1
    have hcb := cln_b (n := G.1) hf
    have m2 : ∀ M3, keepM S2 M2 M3 → M3 v2 G.1 = cln G ax G.1 := fun M3 k => by
      rw [k v2 hA2.1.1 ⟨by have := hA2.1.2; omega, by rw [hA2.2.1]; decide⟩, hL, hct2 L (by omega), cln_f]
    unfold F_L_areSizes_J127
    refine Ok.neg (by decide) (Ok.chk hs (Ok.q (SZcmp hC2 hf h5 (fun j hj => h6 j (by omega)) rfl) (fun v M3 d1 d2 d3 => ?_)))
    have hv : v = -1 := d3.1 (by rw [hL]; exact h6 L (by omega))
    refine Ok.pos hv (Ok.pos rfl ?_)
    unfold F_L_areSizes_J152
    refine Ok.chk hA2.2.1 (Ok.chk (by rw [hA2.2.2.1]; omega) (Ok.chk hs ?_))
    rw [m2 M3 d2, w_id (a := cln G ax G.1 + 1) ⟨by omega, by omega⟩]
    refine Ok.q (Q_store d1 h5 (by omega) (by omega)) (fun u M4 e1 e2 _ => Ok.neg (by decide) (Ok.chk hs (Ok.q (SZcmp e1 hf rS_0 (fun j hj => ?_) (up_eq _ _ _)) (fun v2 M5 f1 f2 f3 => ?_))))
    · rw [up_ne _ _ (by omega)]; exact h6 j (by omega)
    · refine Ok.pos (f3.2 (by omega)) (Ok.chk hs (Ok.ret ⟨rfl, rfl, _, h4.q f1 ((d2.trans e2).trans f2), h7⟩))
end
