/-! PURE 46: the law's steps: more queries -/
theorem lgI.lf {G : zGr} {ax : List Int} {M M1 : zM} (hl : lgI G ax M) (hz : M 1 11 = 0) (hfe : fewA G ax) (hd : langD G ax M) (hf : lfr (fun b => b = 18) (fun k => k = 17) M M1) (h17 : M1 11 17 = -1 ∨ minP G ax (M1 11 17)) : lgI G ax M1 := by
  have e : ∀ b : Nat, b ≠ 18 → b ≠ 11 → M1 b = M b := fun b q1 q2 => hf.1 b q1 q2
  have h15 : M 11 15 = 0 := by
    rcases hl.2 hz with a | a
    · exact a.1
    · exact absurd hfe a.2
  refine ⟨hl.1.fr (hf.2 13 (by decide)) (e 12 (by decide) (by decide)) (e 13 (by decide) (by decide)) (e 15 (by decide) (by decide)), fun _ => Or.inl ⟨by rw [hf.2 15 (by decide)]; exact h15, hfe, ?_⟩⟩
  obtain ⟨d1, d2, d3, d4, d5, d6⟩ := hd
  refine ⟨d1.fr2 (hf.2 13 (by decide)) (e 12 (by decide) (by decide)) (e 13 (by decide) (by decide)) (e 14 (by decide) (by decide)) (e 15 (by decide) (by decide)) (e 17 (by decide) (by decide)), ?_, ?_, ?_, ?_, h17⟩
  · rw [e 23 (by decide) (by decide)]; exact d2
  · rw [hf.2 16 (by decide)]; exact d3
  · rw [e 24 (by decide) (by decide)]; exact d4
  · unfold bfsF bfs fnd at *
    rw [e 20 (by decide) (by decide), e 21 (by decide) (by decide), e 22 (by decide) (by decide)]
    exact d5
theorem clsW.lf {B : Int} {G : zGr} {ax : List Int} {cur : Int} {R : zRst} {M M1 : zM} {S : zS} (h : clsW B G ax cur R M S) (hz : M 1 11 = 0) (hfe : fewA G ax) (hd : langD G ax M) (hf : lfr (fun b => b = 18) (fun k => k = 17) M M1) (h17 : M1 11 17 = -1 ∨ minP G ax (M1 11 17)) : clsW B G ax cur R M1 S ∧ keepM M M1 := by
  have hc : cfr lgA S M M1 := hf.cfr (fun b q => by unfold lgA; omega)
  have e1 : M1 1 = M 1 := hf.1 1 (by decide) (by decide)
  obtain ⟨a1, a2, a3, a4, a5, a6, a7, a8, a9⟩ := id h
  refine ⟨h.qry (hc.mono (fun b q => by unfold lgA at q; unfold qA; omega)) (fun k _ _ => by rw [e1]) (a7.lf hz hfe hd hf h17) (a8.fr (hf.1 25 (by decide) (by decide)) (hf.1 26 (by decide) (by decide)) (hf.1 27 (by decide) (by decide))) (by rw [e1]; exact a6) a2.2.2, keepM.of hc (fun b q => by unfold lgA at q; omega)⟩
theorem red_v : ∀ n : Nat, n ≤ 5 → ∀ c : Nat, c < n → 0 ≤ zand ((2 : Int) ^ n - 1) (zxor (zshl 1 (c : Int)) (-1)) ∧ zand ((2 : Int) ^ n - 1) (zxor (zshl 1 (c : Int)) (-1)) < 32 ∧ ∀ d : Nat, d < n → ((zand ((2 : Int) ^ n - 1) (zxor (zshl 1 (c : Int)) (-1))).toNat.testBit d = true ↔ d ≠ c) := by decide +kernel
section
variable {B : Int} {G : zGr} {ax : List Int} {cur : Int} {R : zRst} {M : zM} {S : zS} {ln v5 : Int} {scr : Int → Int} {P : (Int × zM × zS) ⊕ (zM × zS) → Prop}
theorem cls_all (h : clsW B G ax cur R M S) : F_X2_allContexts M = some ((2 : Int) ^ G.2.2.length - 1) := by
  unfold F_X2_allContexts
  rw [h.2.2.1.1, all_w _ h.2.1.1.2.2.1]
theorem L_minimalContexts (hC : clsW B G ax cur R M S) (hM : mdlW G ax cur R M) (hn : lxt B G ax R ln scr v5 P) : Ok (F_L_law_J738 ln scr v5 M S) P := by
  unfold F_L_law_J738 F_L_law_J779
  refine blkV (mn3.fnl (cur := cur) (A := fewA G ax) (F := True) (ca := 1) (cf := 1) (W := fun v => minP G ax v) (by decide) (by decide) (fun v v2 a b => minP_u a b)) hC hM ?_ (fun M1 hst hM1 => MX hM1 ((FX11_minimalContexts hst).mono (fun r a => ⟨a.1, mn3.of a.2.2 (fun _ q => absurd trivial q) (fun q _ => a.2.1 q)⟩))) hn
  unfold F_L_minimalContexts
  refine wrap3 (ea := 3) (ef := 3) ?_ (fun _ _ => rfl) (fun _ _ => rfl)
  unfold F_X10_minimalContexts
  refine CX_q hC (fun f => ⟨rfl, Or.inl ⟨f, rfl⟩⟩) (fun M1 b1 b2 b3 b4 b5 => ?_)
  rw [cls_all b2]
  simp only [zb1_some]
  refine Ok.b2 (FX3_smallestContextSet b2.1 b2.2.1.1 b2.2.1.2.1 b3.1 b3.2.2.2.2.2) (fun v M2 ⟨a1, a2, a3⟩ => Ok.ret ?_)
  dsimp only at a1 a2 a3
  obtain ⟨c1, c2⟩ := b2.lf b4 b1 b3 a3 (Or.inr a2)
  exact ⟨cur, c1, b5.trans c2, rfl, Or.inr (Or.inr ⟨b1, trivial, _, rfl, a1⟩)⟩
theorem L_isRedundant (hC : clsW B G ax cur R M S) (hM : mdlW G ax cur R M) (hb : (0 : Int) ≤ w (v5 + 1) ∧ w (v5 + 1) < ln) (hn : lxt B G ax R ln scr v5 P) : Ok (F_L_law_J675 ln scr v5 M S) P := by
  unfold F_L_law_J675
  simp only [zchk_pos hb]
  generalize scr (w (v5 + 1)) = n
  refine blkB (J := F_L_law_J1870 ln scr v5) (mn3.fnl (cur := cur) (A := 0 ≤ n ∧ n < (G.2.2.length : Int)) (F := fewA G ax) (ca := 1) (cf := 2) (W := fun v => tv v (gen G ax (fun d => d ≠ n.toNat))) (by decide) (by decide) (fun v v2 a b => tv_u a b)) (fun v k a => mn3_01 (by decide) (by decide) a) (fun t0 t1 M S e i => by unfold F_L_law_J729 F_L_law_J735; exact Ok.pos (zcmp_0.mpr e) i) hC hM ?_ (fun M1 hst hM1 => MX hM1 ((FX11_isRedundant hst).mono (fun r a => ⟨a.1, mn3.of a.2.1 a.2.2.1 a.2.2.2⟩))) hn
  unfold F_L_isRedundant
  refine wrap3B (ea := 2) (ef := 3) (fun _ _ _ => rfl) ?_ (fun _ _ => rfl) (fun _ _ => rfl)
  unfold F_X10_isRedundant
  refine CX_c hC keepM.refl (fun f => ⟨rfl, Or.inl ⟨f, rfl⟩⟩) (fun hA => ?_)
  refine CX_q hC (fun f => ⟨rfl, Or.inr (Or.inl ⟨hA, f, rfl⟩)⟩) (fun M1 b1 b2 b3 b4 b5 => ?_)
  have h5 := hC.2.1.1.2.2.1
  have e : ((n.toNat : Nat) : Int) = n := by omega
  obtain ⟨r1, r2, r3⟩ := red_v G.2.2.length h5 n.toNat (by omega)
  rw [e] at r1 r2 r3
  rw [cls_all b2]
  simp only [zb1_some]
  refine Ok.b2 (FX3_isGeneratedBy b2.1 b2.2.1.1 b2.2.1.2.1 b3.1 (C := fun d => d ≠ n.toNat) ⟨r1, r2⟩ r3) (fun v M2 ⟨a1, a2⟩ => ?_)
  dsimp only at a1 a2
  obtain ⟨c1, c2⟩ := b2.lf b4 b1 b3 (a2.mono (fun _ q => q) (fun _ q => q.elim)) (by rw [a2.2 17 (fun q => q)]; exact b3.2.2.2.2.2)
  exact Ok.chk (tv_b a1) (Ok.ret ⟨cur, c1, b5.trans c2, rfl, Or.inr (Or.inr ⟨hA, b1, _, rfl, a1⟩)⟩)
theorem L_isConfluent (hC : clsW B G ax cur R M S) (hM : mdlW G ax cur R M) (hn : lxt B G ax R ln scr v5 P) : Ok (F_L_law_J913 ln scr v5 M S) P := by
  unfold F_L_law_J913
  refine blkB (J := F_L_law_J1870 ln scr v5) (mn3.fnl (cur := cur) (A := fewA G ax) (F := True) (ca := 1) (cf := 1) (W := fun v => tv v (conf G ax)) (by decide) (by decide) (fun v v2 a b => tv_u a b)) (fun v k a => mn3_01 (by decide) (by decide) a) (fun t0 t1 M S e i => by unfold F_L_law_J955 F_L_law_J961; exact Ok.pos (zcmp_0.mpr e) i) hC hM ?_ (fun M1 hst hM1 => MX hM1 ((FX11_isConfluent hst).mono (fun r a => ⟨a.1, mn3.of a.2.2 (fun _ q => absurd trivial q) (fun q _ => a.2.1 q)⟩))) hn
  unfold F_L_isConfluent
  refine wrap3B (ea := 3) (ef := 3) (fun _ _ _ => rfl) ?_ (fun _ _ => rfl) (fun _ _ => rfl)
  unfold F_X10_isConfluent
  refine CX_q hC (fun f => ⟨rfl, Or.inl ⟨f, rfl⟩⟩) (fun M1 b1 b2 b3 b4 b5 => ?_)
  obtain ⟨a1, a2, a3, a4, a5, a6, a7, a8, a9⟩ := id b2
  refine Ok.b2 (FX5_areSingle a1 a2.1 a2.2.1 a3 b3.1 a8) (fun v M2 ⟨c1, c2, c3⟩ => ?_)
  dsimp only at c1 c2 c3
  have e1 : M2 1 = M1 1 := c3.1 1 (by unfold nfC; omega) (Or.inl (by decide))
  have hq : clsW B G ax cur R M2 S := b2.qry (c3.mono (fun b q => by unfold nfC at q; unfold qA; omega)) (fun k _ _ => by rw [e1]) (a7.fr (by rw [e1]) (fun b hb => c3.1 b (by unfold nfC; have := hb.1; have := hb.2; omega) (Or.inl (by have := hb.2; omega)))) c1 (by rw [e1]; exact a6) a2.2.2
  exact Ok.chk (tv_b c2) (Ok.ret ⟨cur, hq, b5.trans (keepM.of c3 (fun b q => by unfold nfC at q; omega)), rfl, Or.inr (Or.inr ⟨b1, trivial, _, rfl, c2⟩)⟩)
def mnLoop (G : zGr) (ax : List Int) (cur n c v k : Int) : Prop := k = cur ∧ ((¬ (0 ≤ n ∧ n < (G.2.2.length : Int)) ∧ c = 1) ∨ ((0 ≤ n ∧ n < (G.2.2.length : Int)) ∧ ¬ fewA G ax ∧ c = 2) ∨ ((0 ≤ n ∧ n < (G.2.2.length : Int)) ∧ fewA G ax ∧ ((c = 0 ∧ lps G ax n.toNat v) ∨ (c = 3 ∧ lpn G ax n.toNat))))
theorem mnLoop.fnl {n : Int} : fnl (mnLoop G ax cur n) := by
  rintro c v k c2 v2 k2 ⟨a1, a2⟩ ⟨b1, b2⟩
  rcases a2 with ⟨a2, a3⟩ | ⟨a2, a3, a4⟩ | ⟨a2, a3, a4⟩
  · rcases b2 with ⟨b2, b3⟩ | ⟨b2, b3, b4⟩ | ⟨b2, b3, b4⟩
    · exact ⟨by omega, fun q => by omega, by omega⟩
    · exact absurd b2 a2
    · exact absurd b2 a2
  · rcases b2 with ⟨b2, b3⟩ | ⟨b2, b3, b4⟩ | ⟨b2, b3, b4⟩
    · exact absurd a2 b2
    · exact ⟨by omega, fun q => by omega, by omega⟩
    · exact absurd b3 a3
  · rcases b2 with ⟨b2, b3⟩ | ⟨b2, b3, b4⟩ | ⟨b2, b3, b4⟩
    · exact absurd a2 b2
    · exact absurd a3 b3
    · rcases a4 with ⟨a4, a5⟩ | ⟨a4, a5⟩
      · rcases b4 with ⟨b4, b5⟩ | ⟨b4, b5⟩
        · exact ⟨by omega, fun _ => lps_u a5 b5, by omega⟩
        · exact absurd b5 (lps_n a5)
      · rcases b4 with ⟨b4, b5⟩ | ⟨b4, b5⟩
        · exact absurd a5 (lps_n b5)
        · exact ⟨by omega, fun q => by omega, by omega⟩
theorem L_shortestLoop (hC : clsW B G ax cur R M S) (hM : mdlW G ax cur R M) (hb : (0 : Int) ≤ w (v5 + 1) ∧ w (v5 + 1) < ln) (hn : lxt B G ax R ln scr v5 P) : Ok (F_L_law_J857 ln scr v5 M S) P := by
  unfold F_L_law_J857 F_L_law_J910
  simp only [zchk_pos hb]
  generalize scr (w (v5 + 1)) = n
  refine blkV (mnLoop.fnl (G := G) (ax := ax) (cur := cur) (n := n)) hC hM ?_ (fun M1 hst hM1 => MX hM1 ((FX11_shortestLoop hst).mono (fun r a => ⟨a.1, rfl, ?_⟩))) hn
  · unfold F_L_shortestLoop
    refine wrapV (V := fun r k => k = cur ∧ ((¬ (0 ≤ n ∧ n < (G.2.2.length : Int)) ∧ r = .inl 2) ∨ ((0 ≤ n ∧ n < (G.2.2.length : Int)) ∧ ¬ fewA G ax ∧ r = .inl 3) ∨ ((0 ≤ n ∧ n < (G.2.2.length : Int)) ∧ fewA G ax ∧ ((∃ v, r = .inr v ∧ lps G ax n.toNat v) ∨ (r = .inl 4 ∧ lpn G ax n.toNat))))) ?_ (fun e k M S ⟨q1, q2⟩ => ?_) (fun a k ⟨q1, q2⟩ => ?_)
    · unfold F_X10_shortestLoop
      refine CX_c hC keepM.refl (fun f => ⟨rfl, Or.inl ⟨f, rfl⟩⟩) (fun hA => ?_)
      refine CX_q hC (fun f => ⟨rfl, Or.inr (Or.inl ⟨hA, f, rfl⟩)⟩) (fun M1 b1 b2 b3 b4 b5 => ?_)
      have h5 := hC.2.1.1.2.2.1
      have e : ((n.toNat : Nat) : Int) = n := by omega
      have hl := FX3_loopThrough (M := M1) (G := G) (ax := ax) (cn := n.toNat) b2.1 b3.2.2.2.1 (by omega)
      rw [e] at hl
      refine Ok.b1 hl (fun v hv => ?_)
      refine Ok.ite (fun c => Ok.ret ⟨cur, b2.zer _, b5, rfl, Or.inr (Or.inr ⟨hA, b1, Or.inr ⟨rfl, ?_⟩⟩)⟩) (fun c => Ok.ret ⟨cur, b2, b5, rfl, Or.inr (Or.inr ⟨hA, b1, Or.inl ⟨v, rfl, ?_⟩⟩)⟩)
      · rcases hv with a | a
        · have := a.1; omega
        · exact a.2
      · rcases hv with a | a
        · exact a
        · exact absurd a.1 c
    · rcases q2 with ⟨q2, q3⟩ | ⟨q2, q3, q4⟩ | ⟨q2, q3, (⟨v, q4, _⟩ | ⟨q4, q5⟩)⟩
      · cases q3; exact ⟨1, rfl, fun v => ⟨q1, Or.inl ⟨q2, rfl⟩⟩⟩
      · cases q4; exact ⟨2, rfl, fun v => ⟨q1, Or.inr (Or.inl ⟨q2, q3, rfl⟩)⟩⟩
      · cases q4
      · cases q4; exact ⟨3, rfl, fun v => ⟨q1, Or.inr (Or.inr ⟨q2, q3, Or.inr ⟨rfl, q5⟩⟩)⟩⟩
    · rcases q2 with ⟨q2, q3⟩ | ⟨q2, q3, q4⟩ | ⟨q2, q3, (⟨v, q4, q5⟩ | ⟨q4, q5⟩)⟩
      · cases q3
      · cases q4
      · cases q4; exact ⟨q1, Or.inr (Or.inr ⟨q2, q3, Or.inl ⟨rfl, q5⟩⟩)⟩
      · cases q4
  · by_cases hA : 0 ≤ n ∧ n < (G.2.2.length : Int)
    · by_cases f : fewA G ax
      · exact Or.inr (Or.inr ⟨hA, f, (a.2.2 hA).2 f⟩)
      · exact Or.inr (Or.inl ⟨hA, f, (a.2.2 hA).1 f⟩)
    · exact Or.inl ⟨hA, a.2.1 hA⟩
theorem cls_row (h : clsW B G ax cur R M S) : rowA S 40 := by
  obtain ⟨k1, k2⟩ := xk h.1 40 20 225 rfl
  exact ⟨k1, k2, by decide, by decide⟩
theorem cls_40 {M1 : zM} (h : clsW B G ax cur R M S) (hf : cfr (fun b => b = 40) S M M1) : clsW B G ax cur R M1 S ∧ keepM M M1 := by
  obtain ⟨a1, a2, a3, a4, a5, a6, a7, a8, a9⟩ := id h
  have e : ∀ b : Nat, b ≤ 39 → M1 b = M b := fun b hb => hf.1 b (by omega) (Or.inl (by omega))
  have e1 := e 1 (by decide)
  exact ⟨h.qry (hf.mono (fun b q => by unfold qA; omega)) (fun k _ _ => by rw [e1]) (a7.fr (by rw [e1]) (fun b hb => e b (by have := hb.2; omega))) (a8.fr (e 25 (by decide)) (e 26 (by decide)) (e 27 (by decide))) (by rw [e1]; exact a6) a2.2.2, keepM.of hf (fun b q => by omega)⟩
theorem CX_findIns (h : clsW B G ax cur R M S) : Ok (F_X2_findInsertions (M 1 8) 40 M S) (fun r => r.1 = ((insL G cur).length : Int) ∧ rowl (r.2 40) ((insL G cur).map (fun r => mvc (insV G cur r) r)) ∧ clsW B G ax cur R r.2 S ∧ keepM M r.2) := by
  rw [h.2.2.2.2.2.1]
  refine (FX2_findInsertions h.2.1.1 h.2.2.1 h.2.1.2.2 (cls_row h)).mono (fun r ⟨a1, a2, a3⟩ => ⟨a1, a2, cls_40 h a3⟩)
theorem CX_findRed (h : clsW B G ax cur R M S) : Ok (F_X2_findReductions (M 1 8) 40 M S) (fun r => r.1 = ((redL G cur).length : Int) ∧ rowl (r.2 40) (ksR G cur) ∧ clsW B G ax cur R r.2 S ∧ keepM M r.2) := by
  rw [h.2.2.2.2.2.1]
  refine (FX2_findReductions h.2.1.1 h.2.2.1 h.2.1.2.2 (cls_row h)).mono (fun r ⟨a1, a2, a3⟩ => ⟨a1, a2, cls_40 h a3⟩)
theorem L_insertions (hC : clsW B G ax cur R M S) (hM : mdlW G ax cur R M) (hn : lxt B G ax R ln scr v5 P) : Ok (F_L_law_J1404 ln scr v5 M S) P := by
  unfold F_L_law_J1404 F_X10_insertions
  refine Ok.b2 (Ok.b2 (CX_findIns hC) (P := fun r => r.1 = ((insL G cur).length : Int) ∧ clsW B G ax cur R r.2 S ∧ keepM M r.2) (fun v M1 ⟨a1, a2, a3, a4⟩ => Ok.ret ⟨a1, a3, a4⟩)) (fun v M1 ⟨a1, a2, a3⟩ => ?_)
  dsimp only at a1 a2 a3
  have hM1 := hM.keep a3
  refine Ok.b2 (FX11_insertions (a2.mst hM1)) (fun v2 M2 ⟨b1, b2, b3⟩ => ?_)
  dsimp only at b1 b2 b3
  exact Ok.pos (by omega) (hn cur M2 S (a2.keep (keepC.scr b1)) (hM1.scr b1))
theorem L_reductions (hC : clsW B G ax cur R M S) (hM : mdlW G ax cur R M) (hn : lxt B G ax R ln scr v5 P) : Ok (F_L_law_J1473 ln scr v5 M S) P := by
  unfold F_L_law_J1473 F_X10_reductions
  refine Ok.b2 (Ok.b2 (CX_findRed hC) (P := fun r => r.1 = ((redL G cur).length : Int) ∧ clsW B G ax cur R r.2 S ∧ keepM M r.2) (fun v M1 ⟨a1, a2, a3, a4⟩ => Ok.ret ⟨a1, a3, a4⟩)) (fun v M1 ⟨a1, a2, a3⟩ => ?_)
  dsimp only at a1 a2 a3
  have hM1 := hM.keep a3
  refine Ok.b2 (FX11_reductions (a2.mst hM1)) (fun v2 M2 ⟨b1, b2, b3⟩ => ?_)
  dsimp only at b1 b2 b3
  exact Ok.pos (by omega) (hn cur M2 S (a2.keep (keepC.scr b1)) (hM1.scr b1))
end
