/-! PURE 50: the law's steps: density, count, letterAt -/
theorem dens_n : ∀ a : Nat, a < 301 → ∀ n : Nat, n < 10 → (dens (a : Int) (n : Int)) &&& 0x7fffffffffffffff ≤ 0x7ff0000000000000 := by decide +kernel
theorem dens_ok (a n : Int) (h0 : 0 ≤ a) (h1 : a ≤ 300) (h2 : 0 ≤ n) (h3 : n ≤ 9) : vf_n64 (dens a n) := by
  have := dens_n a.toNat (by omega) n.toNat (by omega)
  rw [show ((a.toNat : Nat) : Int) = a by omega, show ((n.toNat : Nat) : Int) = n by omega] at this
  exact this
theorem cln_b {G : zGr} {ax : List Int} {n : Int} (h : fewA G ax) : 0 ≤ cln G ax n ∧ cln G ax n ≤ 300 := by
  have h1 := cnt_le (D := fun y => lcA G ax y ∧ ln y = n) (E := lcA G ax) (n := 29524) (fun k _ a => a.1)
  unfold fewA at h
  unfold cln
  omega
section
variable {B : Int} {G : zGr} {ax : List Int} {cur : Int} {R : zRst} {M : zM} {S : zS} {lnS v5 : Int} {scr : Int → Int} {P : (Int × zM × zS) ⊕ (zM × zS) → Prop}
theorem L_density (hC : clsW B G ax cur R M S) (hM : mdlW G ax cur R M) (hb : (0 : Int) ≤ w (v5 + 1) ∧ w (v5 + 1) < lnS) (hn : lxt B G ax R lnS scr v5 P) : Ok (F_L_law_J535 lnS scr v5 M S) P := by
  unfold F_L_law_J535 F_L_law_J609
  simp only [zchk_pos hb]
  generalize scr (w (v5 + 1)) = n
  have hG1 := hC.2.1.1.1
  have hcls : Ok (F_L_density n M S) (fun r => clsW B G ax cur R r.2.1 r.2.2 ∧ keepM M r.2.1 ∧ ((¬ (0 ≤ n ∧ n ≤ G.1) ∧ r.1 = 1) ∨ ((0 ≤ n ∧ n ≤ G.1) ∧ ¬ fewA G ax ∧ r.1 = 2) ∨ ((0 ≤ n ∧ n ≤ G.1) ∧ fewA G ax ∧ r.1 = 0 ∧ zd (r.2.1 77 0) = dens (cln G ax n) n))) := by
    unfold F_L_density
    have hx : Ok (F_X10_density n M S) (clsX B G ax R M (fun r k => k = cur ∧ ((¬ (0 ≤ n ∧ n ≤ G.1) ∧ r = .inl 1) ∨ ((0 ≤ n ∧ n ≤ G.1) ∧ ¬ fewA G ax ∧ r = .inl 3) ∨ ((0 ≤ n ∧ n ≤ G.1) ∧ fewA G ax ∧ r = .inr (dens (cln G ax n) n))))) := by
      unfold F_X10_density F_X10_requireLength F_X10_requireLength_J15
      rw [hC.2.2.1.2.2.1]
      by_cases q : n < 0
      · rw [if_pos q, zbx_inl]
        exact Ok.ret ⟨cur, hC.zer _, keepM.refl, rfl, Or.inl ⟨by omega, rfl⟩⟩
      · rw [if_neg q]
        by_cases q2 : G.1 < n
        · rw [if_pos q2, zbx_inl]
          exact Ok.ret ⟨cur, hC.zer _, keepM.refl, rfl, Or.inl ⟨by omega, rfl⟩⟩
        · rw [if_neg q2, zbx_inr]
          have hA : 0 ≤ n ∧ n ≤ G.1 := ⟨by omega, by omega⟩
          refine CX_q hC (fun f => ⟨rfl, Or.inr (Or.inl ⟨hA, f, rfl⟩)⟩) (fun M1 b1 b2 b3 b4 b5 => ?_)
          rw [FX3_wordsOfLength b2.1 b3.1, FX9_power hA.1 (by omega)]
          simp only [zb1_some]
          have hcb := cln_b (n := n) b1
          exact Ok.chkP (dens_ok _ _ hcb.1 hcb.2 hA.1 (by omega)) (Ok.ret ⟨cur, b2, b5, rfl, Or.inr (Or.inr ⟨hA, b1, rfl⟩)⟩)
    refine Ok.bx hx (fun e M1 S1 ⟨k, a1, a2, a0, a3⟩ => ?_) (fun a M1 S1 ⟨k, a1, a2, a0, a3⟩ => ?_)
    · subst a0
      dsimp only at a1 a2 a3
      rcases a3 with ⟨q2, q3⟩ | ⟨q2, q3, q4⟩ | ⟨_, _, q4⟩
      · cases q3; exact Ok.ret ⟨a1, a2, Or.inl ⟨q2, rfl⟩⟩
      · cases q4; exact Ok.ret ⟨a1, a2, Or.inr (Or.inl ⟨q2, q3, rfl⟩)⟩
      · cases q4
    · subst a0
      dsimp only at a1 a2 a3
      rcases a3 with ⟨_, q3⟩ | ⟨_, _, q4⟩ | ⟨q2, q3, q4⟩
      · cases q3
      · cases q4
      · cases q4
        refine Ok.lett (Ok.ret ⟨a1.keep (fun b hb => zs_ne M1 0 _ (by omega)), a2.trans (fun b h1 h2 => zs_ne M1 0 _ (by omega)), Or.inr (Or.inr ⟨q2, q3, rfl, ?_⟩)⟩)
        dsimp only
        rw [zs_at, zd_zdi]
  refine Ok.b3 hcls (fun c M1 S1 ⟨a1, a2, a3⟩ => ?_)
  dsimp only at a1 a2 a3
  have hM1 := hM.keep a2
  refine Ok.b2 (FX11_density (n := n) (a1.mst hM1) dens_ok) (fun v M2 ⟨b1, b2, b3, b4⟩ => ?_)
  dsimp only at b1 b2 b3 b4
  unfold F_X11_thrown
  simp only [zb1_some]
  have fin := hn cur M2 S1 (a1.keep (keepC.scr b1)) (hM1.scr b1)
  have e77 : M2 77 = M1 77 := b1.1 77 (by omega) (by decide) (by decide) (by decide)
  rcases a3 with ⟨q2, q3⟩ | ⟨q2, q3, q4⟩ | ⟨q2, q3, q4, q5⟩
  · exact Ok.pos (by rw [b2 q2, q3]) (Ok.neg (by omega) fin)
  · exact Ok.pos (by rw [b3 q2 q3, q4]) (Ok.neg (by omega) fin)
  · obtain ⟨d1, d2⟩ := b4 q2 q3
    rw [e77, q5, d2]
    refine Ok.pos (by rw [d1, q4]) (Ok.pos q4 (Ok.ite (fun _ => fin) (fun z => Ok.neg z (Ok.neg z fin))))
theorem L_count (hC : clsW B G ax cur R M S) (hM : mdlW G ax cur R M) (hb : (0 : Int) ≤ w (v5 + 1) ∧ w (v5 + 1) < lnS) (hn : lxt B G ax R lnS scr v5 P) : Ok (F_L_law_J379 lnS scr v5 M S) P := by
  unfold F_L_law_J379 F_L_law_J432
  simp only [zchk_pos hb]
  generalize scr (w (v5 + 1)) = t
  have hw : ∀ v : Int, (t = 0 → v = (ax.length : Int)) → (t = 1 → v = (G.2.2.length : Int)) → (t = 2 → v = G.2.1) → (t = 3 → v = G.1) → (t = 4 → v = (R.2.1.length : Int)) → ((t = 0 → v = (ax.length : Int)) ∧ (t = 1 → v = (G.2.2.length : Int)) ∧ (t = 2 → v = G.2.1) ∧ (t = 3 → v = G.1) ∧ (t = 4 → v = (R.2.1.length : Int))) := fun v a b c d e => ⟨a, b, c, d, e⟩
  refine blkV (mn3.fnl (cur := cur) (A := 0 ≤ t ∧ t ≤ 4) (F := True) (ca := 1) (cf := 1) (W := fun v => (0 ≤ t ∧ t ≤ 4) ∧ (t = 0 → v = (ax.length : Int)) ∧ (t = 1 → v = (G.2.2.length : Int)) ∧ (t = 2 → v = G.2.1) ∧ (t = 3 → v = G.1) ∧ (t = 4 → v = (R.2.1.length : Int))) (by decide) (by decide) (fun v v2 ⟨a, a0, a1, a2, a3, a4⟩ ⟨_, b0, b1, b2, b3, b4⟩ => ?_)) hC hM ?_ (fun M1 hst hM1 => MX hM1 ?_) hn
  · rcases (show t = 0 ∨ t = 1 ∨ t = 2 ∨ t = 3 ∨ t = 4 by omega) with e | e | e | e | e
    · rw [a0 e, b0 e]
    · rw [a1 e, b1 e]
    · rw [a2 e, b2 e]
    · rw [a3 e, b3 e]
    · rw [a4 e, b4 e]
  · unfold F_L_count
    refine wrap3 (ea := 1) (ef := 1) ?_ (fun _ _ => rfl) (fun _ _ => rfl)
    obtain ⟨g1, g2, g3, _⟩ := hC.2.2.1
    have hA1 := hC.2.2.2.2.1.1
    have ht := hC.2.2.2.2.2.2.2.2.2.1.1
    unfold F_X10_count
    rw [hA1, g1, g2, g3, ht]
    have fin : ∀ v : Int, (0 ≤ t ∧ t ≤ 4) → ((t = 0 → v = (ax.length : Int)) ∧ (t = 1 → v = (G.2.2.length : Int)) ∧ (t = 2 → v = G.2.1) ∧ (t = 3 → v = G.1) ∧ (t = 4 → v = (R.2.1.length : Int))) → Ok (some ((Sum.inr v : Nat ⊕ Int), M, S)) (clsX B G ax R M (V3 cur (0 ≤ t ∧ t ≤ 4) True 1 1 (fun v => (0 ≤ t ∧ t ≤ 4) ∧ (t = 0 → v = (ax.length : Int)) ∧ (t = 1 → v = (G.2.2.length : Int)) ∧ (t = 2 → v = G.2.1) ∧ (t = 3 → v = G.1) ∧ (t = 4 → v = (R.2.1.length : Int))))) := fun v a b => Ok.ret ⟨cur, hC, keepM.refl, rfl, Or.inr (Or.inr ⟨a, trivial, v, rfl, a, b⟩)⟩
    refine Ok.ite (fun e => fin _ ⟨by omega, by omega⟩ (hw _ (fun _ => rfl) (fun _ => by omega) (fun _ => by omega) (fun _ => by omega) (fun _ => by omega))) (fun e0 => Ok.ite (fun e => fin _ ⟨by omega, by omega⟩ (hw _ (fun _ => by omega) (fun _ => rfl) (fun _ => by omega) (fun _ => by omega) (fun _ => by omega))) (fun e1 => Ok.ite (fun e => fin _ ⟨by omega, by omega⟩ (hw _ (fun _ => by omega) (fun _ => by omega) (fun _ => rfl) (fun _ => by omega) (fun _ => by omega))) (fun e2 => Ok.ite (fun e => fin _ ⟨by omega, by omega⟩ (hw _ (fun _ => by omega) (fun _ => by omega) (fun _ => by omega) (fun _ => rfl) (fun _ => by omega))) (fun e3 => Ok.ite (fun e => fin _ ⟨by omega, by omega⟩ (hw _ (fun _ => by omega) (fun _ => by omega) (fun _ => by omega) (fun _ => by omega) (fun _ => rfl))) (fun e4 => Ok.ret ⟨cur, hC.zer _, keepM.refl, rfl, Or.inl ⟨by omega, rfl⟩⟩)))))
  · have h1 := hM1.scr (M1 := zs M1 48 0 0) mscr.th
    obtain ⟨g1, g2, g3, _⟩ := h1.1
    have hA1 := h1.2.1.1
    have ht := h1.2.2.2.2.1.1
    unfold F_X11_count
    refine Ok.lett ?_
    rw [hA1, g1, g2, g3, ht]
    have fin : ∀ v : Int, (0 ≤ t ∧ t ≤ 4) → ((t = 0 → v = (ax.length : Int)) ∧ (t = 1 → v = (G.2.2.length : Int)) ∧ (t = 2 → v = G.2.1) ∧ (t = 3 → v = G.1) ∧ (t = 4 → v = (R.2.1.length : Int))) → Ok (some (v, zs M1 48 0 0)) (fun r => mscr M1 r.2 ∧ mn3 cur (0 ≤ t ∧ t ≤ 4) True 1 1 (fun v => (0 ≤ t ∧ t ≤ 4) ∧ (t = 0 → v = (ax.length : Int)) ∧ (t = 1 → v = (G.2.2.length : Int)) ∧ (t = 2 → v = G.2.1) ∧ (t = 3 → v = G.1) ∧ (t = 4 → v = (R.2.1.length : Int))) (r.2 48 0) r.1 cur) := fun v a b => Ok.ret ⟨mscr.th, rfl, Or.inr (Or.inr ⟨a, trivial, zs_at M1 48 0 0, a, b⟩)⟩
    refine Ok.ite (fun e => fin _ ⟨by omega, by omega⟩ (hw _ (fun _ => rfl) (fun _ => by omega) (fun _ => by omega) (fun _ => by omega) (fun _ => by omega))) (fun e0 => Ok.ite (fun e => fin _ ⟨by omega, by omega⟩ (hw _ (fun _ => by omega) (fun _ => rfl) (fun _ => by omega) (fun _ => by omega) (fun _ => by omega))) (fun e1 => Ok.ite (fun e => fin _ ⟨by omega, by omega⟩ (hw _ (fun _ => by omega) (fun _ => by omega) (fun _ => rfl) (fun _ => by omega) (fun _ => by omega))) (fun e2 => Ok.ite (fun e => fin _ ⟨by omega, by omega⟩ (hw _ (fun _ => by omega) (fun _ => by omega) (fun _ => by omega) (fun _ => rfl) (fun _ => by omega))) (fun e3 => Ok.ite (fun e => fin _ ⟨by omega, by omega⟩ (hw _ (fun _ => by omega) (fun _ => by omega) (fun _ => by omega) (fun _ => by omega) (fun _ => rfl))) (fun e4 => ?_)))))
    rw [FX11_fail]
    simp only [zb2_some]
    exact Ok.ret ⟨mfr.trans (mscr.th (v := 0)) mscr.th, rfl, Or.inl ⟨by omega, zs_at (zs M1 48 0 0) 48 0 1⟩⟩
theorem zi2c_3 : ∀ d : Nat, d < 3 → zi2c (97 + (d : Int)) = 97 + (d : Int) := by decide +kernel
theorem L_letterAt (hC : clsW B G ax cur R M S) (hM : mdlW G ax cur R M) (hb : (0 : Int) ≤ w (v5 + 1) ∧ w (v5 + 1) < lnS) (hn : lxt B G ax R lnS scr v5 P) : Ok (F_L_law_J1098 lnS scr v5 M S) P := by
  unfold F_L_law_J1098 F_L_law_J1151
  simp only [zchk_pos hb]
  generalize scr (w (v5 + 1)) = t
  have hw := hC.2.1.2.2
  have hlb := ln_b cur
  have hfa : 0 ≤ t ∧ t < ln cur → 1 ≤ fa cur t (t + 1) ∧ fa cur t (t + 1) ≤ 3 := fun q => by
    have h1 := fa_r (x := cur) (s := t) (e := t + 1) q.1 (by omega) (by omega)
    have h2 := ln_r h1.2
    rw [h1.1, show t + 1 - t = 1 by omega] at h2
    have h3 := f3_t
    rw [show (1 : Int) + 1 = 2 from rfl, h3.2.1, h3.2.2.1] at h2
    omega
  have hch : ∀ d : Int, 1 ≤ d → d ≤ 3 → zi2c (97 + (d - 1)) = 97 + (d - 1) := fun d h1 h2 => by
    have := zi2c_3 (d - 1).toNat (by omega)
    rw [show (((d - 1).toNat : Nat) : Int) = d - 1 by omega] at this
    exact this
  refine blkV (mn3.fnl (cur := cur) (A := 0 ≤ t ∧ t < ln cur) (F := True) (ca := 1) (cf := 1) (W := fun v => v = 97 + (fa cur t (t + 1) - 1)) (by decide) (by decide) (fun v v2 a b => by omega)) hC hM ?_ (fun M1 hst hM1 => MX hM1 ?_) hn
  · unfold F_L_letterAt
    refine wrap3 (ea := 2) (ef := 2) ?_ (fun _ _ => rfl) (fun _ _ => rfl)
    unfold F_X10_letterAt
    rw [hC.2.2.2.2.2.1, FX9_length hw]
    simp only [zb1_some]
    refine CX_i hC keepM.refl (fun q => ⟨rfl, Or.inl ⟨q, rfl⟩⟩) (fun q => ?_)
    have hd := hfa q
    rw [hC.2.2.2.2.2.1, w_id (a := t + 1) (by omega), FX9_factor hw q.1 (by omega) (by omega)]
    simp only [zb1_some]
    rw [show 97 + fa cur t (t + 1) - 1 = 97 + (fa cur t (t + 1) - 1) by omega, hch _ hd.1 hd.2]
    exact Ok.chk ⟨by omega, by omega⟩ (Ok.ret ⟨cur, hC, keepM.refl, rfl, Or.inr (Or.inr ⟨q, trivial, _, rfl, rfl⟩)⟩)
  · have h1 := hM1.scr (M1 := zs M1 48 0 0) mscr.th
    unfold F_X11_letterAt
    refine Ok.lett ?_
    rw [h1.2.2.1, FX11_lengthOf hw]
    simp only [zb1_some]
    rw [FX11_isIn, w_id (a := ln cur - 1) (by omega)]
    simp only [zb1_some]
    refine Ok.ite (fun c => ?_) (fun c => ?_)
    · have hq : ¬ (0 ≤ t ∧ t < ln cur) := fun q => by rw [if_pos ⟨q.1, by omega⟩] at c; exact absurd c (by decide)
      rw [FX11_fail]
      simp only [zb2_some]
      exact Ok.chk (by decide +kernel) (Ok.ret ⟨mfr.trans (mscr.th (v := 0)) mscr.th, rfl, Or.inl ⟨hq, zs_at (zs M1 48 0 0) 48 0 1⟩⟩)
    · have hq : 0 ≤ t ∧ t ≤ ln cur - 1 := by
        by_cases q : 0 ≤ t ∧ t ≤ ln cur - 1
        · exact q
        · rw [if_neg q] at c; exact absurd rfl c
      have hd := hfa ⟨hq.1, by omega⟩
      rw [FX11_letter hw hq.1 (by omega)]
      simp only [zb1_some]
      rw [hch _ hd.1 hd.2]
      exact Ok.chk ⟨by omega, by omega⟩ (Ok.ret ⟨mscr.th, rfl, Or.inr (Or.inr ⟨⟨hq.1, by omega⟩, trivial, zs_at M1 48 0 0, rfl⟩)⟩)
end
