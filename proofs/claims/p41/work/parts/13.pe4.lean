/-! PURE 46: the law's steps: more queries -/
theorem lgI.lf {G : zGr} {ax : List Int} {M M1 : zM} (hl : lgI G ax M) (hz : M 1 11 = 0) (hfe : fewA G ax) (hd : langD G ax M) (hf : lfr (fun b => b = 18) (fun k => k = 17) M M1) (h17 : M1 11 17 = -1 ∨ minP G ax (M1 11 17)) : lgI G ax M1 := by
  have e : ∀ b : Nat, b ≠ 18 → b ≠ 11 → M1 b = M b := fun b q1 q2 => hf.1 b q1 q2
  have h15 : M 11 15 = 0 := by
    rcases hl.2 hz with a | a
    · exact a.1
    · exact absurd hfe a.2
  refine ⟨hl.1.fr (hf.2 13 (by decide)) (e 12 (by decide) (by decide)) (e 13 (by decide) (by decide)) (e 15 (by decide) (by decide)), fun _ => Or.inl ⟨by rw [hf.2 15 (by decide)]; exact h15, hfe, ?_⟩⟩
  obtain ⟨d1, d2, d3, d4, d5, d6⟩ := hd
  refine ⟨d1.fr2 (hf.2 13 (by decide)) (e 12 (by decide) (by decide)) (e 13 (by decide) (by decide)) (e 14 (by decide) (by decide)) (e 15 (by decide) (by decide)) (e 17 (by decide) (by decide)), ?_, ?_, ?_, ?_, h17⟩
  · rw [e 23 (by decide) (by decide)]; exact d2
  · rw [hf.2 16 (by decide)]; exact d3
  · rw [e 24 (by decide) (by decide)]; exact d4
  · unfold bfsF bfs fnd at *
    rw [e 20 (by decide) (by decide), e 21 (by decide) (by decide), e 22 (by decide) (by decide)]
    exact d5
theorem clsW.lf {B : Int} {G : zGr} {ax : List Int} {cur : Int} {R : zRst} {M M1 : zM} {S : zS} (h : clsW B G ax cur R M S) (hz : M 1 11 = 0) (hfe : fewA G ax) (hd : langD G ax M) (hf : lfr (fun b => b = 18) (fun k => k = 17) M M1) (h17 : M1 11 17 = -1 ∨ minP G ax (M1 11 17)) : clsW B G ax cur R M1 S ∧ keepM S M M1 := by
  have hc : cfr lgA S M M1 := hf.cfr (fun b q => by unfold lgA; omega)
  have e1 : M1 1 = M 1 := hf.1 1 (by decide) (by decide)
  obtain ⟨a1, a2, a3, a4, a5, a6, a7, a8, a9⟩ := id h
  refine ⟨h.qry (hc.mono (fun b q => by unfold lgA at q; unfold qA; omega)) (fun k _ _ => by rw [e1]) (a7.lf hz hfe hd hf h17) (a8.fr (hf.1 25 (by decide) (by decide)) (hf.1 26 (by decide) (by decide)) (hf.1 27 (by decide) (by decide))) (by rw [e1]; exact a6) a2.2.2, keepM.of hc (fun b q => by unfold lgA at q; omega)⟩
theorem red_v : ∀ n : Nat, n ≤ 5 → ∀ c : Nat, c < n → 0 ≤ zand ((2 : Int) ^ n - 1) (zxor (zshl 1 (c : Int)) (-1)) ∧ zand ((2 : Int) ^ n - 1) (zxor (zshl 1 (c : Int)) (-1)) < 32 ∧ ∀ d : Nat, d < n → ((zand ((2 : Int) ^ n - 1) (zxor (zshl 1 (c : Int)) (-1))).toNat.testBit d = true ↔ d ≠ c) := by decide +kernel
section
variable {B : Int} {G : zGr} {ax : List Int} {cur : Int} {R : zRst} {M : zM} {S : zS} {ln v5 : Int} {scr : Int → Int} {P : (Int × zM × zS) ⊕ (zM × zS) → Prop}
theorem cls_all (h : clsW B G ax cur R M S) : F_X2_allContexts M = some ((2 : Int) ^ G.2.2.length - 1) := by
  unfold F_X2_allContexts
  rw [h.2.2.1.1, all_w _ h.2.1.1.2.2.1]
theorem cls_row (h : clsW B G ax cur R M S) : rowA S 40 := by
  obtain ⟨k1, k2⟩ := xk h.1 40 20 225 rfl
  exact ⟨k1, k2, by decide, by decide⟩
theorem cls_40 {M1 : zM} (h : clsW B G ax cur R M S) (hf : cfr (fun b => b = 40) S M M1) : clsW B G ax cur R M1 S ∧ keepM S M M1 := by
  obtain ⟨a1, a2, a3, a4, a5, a6, a7, a8, a9⟩ := id h
  have e : ∀ b : Nat, b ≤ 39 → M1 b = M b := fun b hb => hf.1 b (by omega) (Or.inl (by omega))
  have e1 := e 1 (by decide)
  exact ⟨h.qry (hf.mono (fun b q => by unfold qA; omega)) (fun k _ _ => by rw [e1]) (a7.fr (by rw [e1]) (fun b hb => e b (by have := hb.2; omega))) (a8.fr (e 25 (by decide)) (e 26 (by decide)) (e 27 (by decide))) (by rw [e1]; exact a6) a2.2.2, keepM.of hf (fun b q => by omega)⟩
theorem CX_findIns (h : clsW B G ax cur R M S) : Ok (F_X2_findInsertions (M 1 8) 40 M S) (fun r => r.1 = ((insL G cur).length : Int) ∧ rowl (r.2 40) ((insL G cur).map (fun r => mvc (insV G cur r) r)) ∧ clsW B G ax cur R r.2 S ∧ keepM S M r.2) := by
  rw [h.2.2.2.2.2.1]
  refine (FX2_findInsertions h.2.1.1 h.2.2.1 h.2.1.2.2 (cls_row h)).mono (fun r ⟨a1, a2, a3⟩ => ⟨a1, a2, cls_40 h a3⟩)
end
