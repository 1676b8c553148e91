/-! PURE 75: define: the class's part, but for contexts -/
theorem clsW.txt {B : Int} {G : zGr} {ax : List Int} {cur f : Int} {R : zRst} {M M2 : zM} {S : zS} (h : clsW B G ax cur R M S) (hb : ∀ b, b ≠ 1 → b ≠ 2 → b ≠ 4 → M2 b = M b) (h1 : ∀ k : Int, k ≠ 7 → M2 1 k = M 1 k) (h7 : M2 1 7 = f) (h3 : M2 2 3 = 0) : clsW B G ax cur (rstD R f) M2 S ∧ keepM S M M2 := by
  obtain ⟨a1, a2, ⟨g1, g2, g3, g4⟩, a4, a5, a6, a7, a8, r1, r2, r3, r4⟩ := h
  have hctx : ∀ p L R pr, ctxok M S p L R pr → ctxok M2 S p L R pr := fun p L R pr q => by
    have hp := q.1.1
    exact q.same (hb _ (by omega) (by omega) (by omega)) (hb _ (by omega) (by omega) (by omega)) (hb _ (by omega) (by omega) (by omega)) (hb _ (by omega) (by omega) (by omega))
  have e5 : M2 5 = M 5 := hb 5 (by decide) (by decide) (by decide)
  refine ⟨⟨a1, a2, ⟨by rw [e5]; exact g1, by rw [e5]; exact g2, by rw [e5]; exact g3, fun j L R pr q => hctx _ _ _ _ (g4 j L R pr q)⟩, a4, ?_, by rw [h1 8 (by decide)]; exact a6, a7.fr (h1 11 (by decide)) (fun b q => hb b (by unfold lgA at q; omega) (by unfold lgA at q; omega) (by unfold lgA at q; omega)), a8.fr (hb 25 (by decide) (by decide) (by decide)) (hb 26 (by decide) (by decide) (by decide)) (hb 27 (by decide) (by decide) (by decide)), ?_, ⟨h3, Nat.zero_le _, rowl_nil _, fun c q => by simp [rstD] at q⟩, h7, fun k hk => ?_⟩, fun b q1 q2 => hb b (by omega) (by omega) (by omega)⟩
  · unfold axC; rw [e5, hb 6 (by decide) (by decide) (by decide)]; exact a5
  · unfold rstD savC gS axS at *
    rw [h1 10 (by decide), h1 9 (by decide), hb 8 (by decide) (by decide) (by decide), hb 9 (by decide) (by decide) (by decide)]
    rcases r1 with b | ⟨b1, G1, ax1, cur1, b2, b3, ⟨c1, c2, c3, c4⟩, b5⟩
    · exact Or.inl b
    · exact Or.inr ⟨b1, G1, ax1, cur1, b2, b3, ⟨c1, c2, c3, fun j L R pr q => hctx _ _ _ _ (c4 j L R pr q)⟩, b5⟩
  · rw [hb (42 + 2 * k) (by omega) (by omega) (by omega), hb (43 + 2 * k) (by omega) (by omega) (by omega)]
    exact r4 k hk
section
variable {B : Int} {G : zGr} {ax : List Int} {cur : Int} {R : zRst} {M : zM} {S : zS}
/-- the grammar's numbers and axioms have changed -/
theorem chg5 {G1 : zGr} {ax1 : List Int} {M1 : zM} (hC : clsW B G ax cur R M S) (hb : ∀ b, b ≠ 5 → b ≠ 6 → M1 b = M b) (hg : gC M1 S G1) (hG : grok G1) (ha : axC M1 ax1) (hax : axok ax1) : Ok (F_X10_grammarChanged M1) (fun M2 => clsW B G1 ax1 cur R M2 S ∧ keepM S M M2) := by
  obtain ⟨a1, a2, a3, a4, a5, a6, a7, ⟨n1, n2, n3⟩, r1, r2, r3, r4⟩ := hC
  have hctx : ∀ p L R pr, ctxok M S p L R pr → ctxok M1 S p L R pr := fun p L R pr q => by
    have hp := q.1.1
    exact q.same (hb _ (by omega) (by omega)) (hb _ (by omega) (by omega)) (hb _ (by omega) (by omega)) (hb _ (by omega) (by omega))
  refine (chg (B := B) (G := G1) (ax := ax1) (cur := cur) (R := R) (M := M1) (S := S) a1 ⟨hG, hax, a2.2.2⟩ hg a4 ha (by rw [hb 1 (by decide) (by decide)]; exact a6) (a7.1.fr (by rw [hb 11 (by decide) (by decide)]) (hb 12 (by decide) (by decide)) (hb 13 (by decide) (by decide)) (hb 15 (by decide) (by decide))) ⟨by rw [hb 25 (by decide) (by decide)]; exact n1, by rw [hb 25 (by decide) (by decide), hb 27 (by decide) (by decide)]; exact n2⟩ ⟨?_, ?_, ?_, fun k hk => ?_⟩).mono (fun M2 q => ⟨q.1, keepM.trans (fun b h1 h2 => hb b (by omega) (by omega)) q.2⟩)
  · unfold savC gS axS at *
    rw [hb 1 (by decide) (by decide), hb 8 (by decide) (by decide), hb 9 (by decide) (by decide)]
    rcases r1 with b | ⟨b1, G1, ax1, cur1, b2, b3, ⟨c1, c2, c3, c4⟩, b5⟩
    · exact Or.inl b
    · exact Or.inr ⟨b1, G1, ax1, cur1, b2, b3, ⟨c1, c2, c3, fun j L R pr q => hctx _ _ _ _ (c4 j L R pr q)⟩, b5⟩
  · rw [hb 2 (by decide) (by decide), hb 3 (by decide) (by decide)]; exact r2
  · rw [hb 1 (by decide) (by decide)]; exact r3
  · rw [hb (42 + 2 * k) (by omega) (by omega), hb (43 + 2 * k) (by omega) (by omega)]
    exact r4 k hk
theorem CX_hasAxiom {x : Int} (hC : clsW B G ax cur R M S) : Ok (F_X2_hasAxiom x M S) (fun e => (e = 0 ∧ x ∉ ax) ∨ (e = 1 ∧ x ∈ ax)) := by
  obtain ⟨x1, x2⟩ := hC.2.2.2.2.1
  have h6 := hC.2.1.2.1.1
  unfold F_X2_hasAxiom F_X2_hasAxiom_L2
  refine Ok.loop (fun z => ∃ k : Nat, z = k ∧ k ≤ ax.length ∧ ∀ j : Nat, j < k → ax[j]? ≠ some x) (fun z => (100 - z).toNat) (fun e => match e with | .inl _ => x ∈ ax | .inr _ => x ∉ ax) ⟨0, rfl, Nat.zero_le _, fun j hj => absurd hj (Nat.not_lt_zero j)⟩ (by show (100 - (0 : Int)).toNat < zN; decide) ?_ ?_
  · rintro v2 ⟨k, rfl, i2, i3⟩
    unfold F_X2_hasAxiom_B2
    rw [x1]
    refine Ok.ite (fun c => ?_) (fun c => Ok.ret ?_)
    · have hk : ax[k]? = some ax[k] := List.getElem?_eq_getElem (by omega)
      unfold F_X2_axiom
      rw [xat hC.1 6 6 rfl (by omega) (by omega)]
      simp only [zb1_some]
      rw [x2 k _ hk, w_id (a := (k : Int) + 1) (by omega)]
      refine Ok.ite (fun e => Ok.ret (show x ∈ ax from List.mem_of_getElem? (by rw [hk, e]))) (fun e => Ok.lett (Ok.ret ⟨⟨k + 1, by omega, by omega, fun j hj => ?_⟩, by show (100 - ((k : Int) + 1)).toNat < (100 - (k : Int)).toNat; omega⟩))
      by_cases q : j = k
      · rw [q, hk]
        intro z
        exact e (Option.some.inj z)
      · exact i3 j (by omega)
    · show x ∉ ax
      intro hm
      obtain ⟨j, hj⟩ := List.mem_iff_getElem?.mp hm
      have hl := (List.getElem?_eq_some_iff.mp hj).1
      exact i3 j (by omega) hj
  · intro e he
    cases e with
    | inl u => exact Ok.ret (Or.inr ⟨rfl, he⟩)
    | inr u => exact Ok.ret (Or.inl ⟨rfl, he⟩)
theorem CD_axiom {x : Int} (hC : clsW B G ax cur R M S) (hx : 1 ≤ x ∧ x < 9841) : Ok (F_X10_defineAxiom x M S) (fun r => keepM S M r.2.1 ∧ ((ax.length < 6 ∧ x ∉ ax ∧ r.1 = .inr (ax.length : Int) ∧ clsW B G (ax ++ [x]) cur R r.2.1 r.2.2) ∨ (¬ (ax.length < 6 ∧ x ∉ ax) ∧ r.1 = .inl 0 ∧ clsW B G ax cur R r.2.1 r.2.2))) := by
  obtain ⟨x1, x2⟩ := hC.2.2.2.2.1
  obtain ⟨g1, g2, g3, g4⟩ := hC.2.2.1
  unfold F_X10_defineAxiom F_X10_defineAxiom_J23
  rw [x1]
  refine Ok.ite (fun c => Ok.b1 (CX_hasAxiom hC) (fun e he => Ok.ite (fun e0 => ?_) (fun e0 => Ok.ret ?_))) (fun c => Ok.ret ⟨keepM.refl, Or.inr ⟨fun q => c (by omega), rfl, hC.zer _⟩⟩)
  · have hn : x ∉ ax := by
      rcases he with q | q
      · exact q.2
      · omega
    unfold F_X2_putAxiom
    rw [x1, xput hC.1 6 6 rfl (by omega) (by omega)]
    simp only [zb1_some, zlet_eq]
    have e5 : ∀ M : zM, zs M 6 (ax.length : Int) x 5 = M 5 := fun M => zs_ne _ _ _ (by decide)
    rw [e5, x1, w_id (a := (ax.length : Int) + 1) (by omega)]
    obtain ⟨M1, hM1⟩ : ∃ M1, M1 = zs (zs M 6 (ax.length : Int) x) 5 2 ((ax.length : Int) + 1) := ⟨_, rfl⟩
    rw [← hM1]
    have k2 : M1 5 2 = (ax.length : Int) + 1 := by rw [hM1, zs_at]
    have kk : ∀ k : Int, k ≠ 2 → M1 5 k = M 5 k := fun k hk => by rw [hM1, zs_off _ _ (Or.inr hk), e5]
    have k6 : M1 6 = zs M 6 (ax.length : Int) x 6 := by rw [hM1, zs_ne _ _ _ (by decide)]
    have kb : ∀ b, b ≠ 5 → b ≠ 6 → M1 b = M b := fun b h5 h6 => by rw [hM1, zs_ne _ _ _ h5, zs_ne _ _ _ h6]
    clear hM1
    have hctx : ∀ p L R pr, ctxok M S p L R pr → ctxok M1 S p L R pr := fun p L R pr q => by
      have hp := q.1.1
      exact q.same (kb _ (by omega) (by omega)) (kb _ (by omega) (by omega)) (kb _ (by omega) (by omega)) (kb _ (by omega) (by omega))
    refine Ok.b1 (chg5 (G1 := G) (ax1 := ax ++ [x]) hC kb ⟨by rw [kk 3 (by decide)]; exact g1, by rw [kk 4 (by decide)]; exact g2, by rw [kk 5 (by decide)]; exact g3, fun j L R pr q => hctx _ _ _ _ (g4 j L R pr q)⟩ hC.2.1.1 ⟨by rw [k2, List.length_append]; rfl, by rw [k6, zs_eq]; exact rowl_push x2 rfl⟩ ⟨by rw [List.length_append]; show ax.length + 1 ≤ 6; omega, fun a ha => ?_⟩) (fun M2 ⟨d1, d2⟩ => ?_)
    · rcases List.mem_append.mp ha with q | q
      · exact hC.2.1.2.1.2 a q
      · rw [List.mem_singleton.mp q]; exact hx
    · have f2 : M2 5 2 = (ax.length : Int) + 1 := by
        have h := d1.2.2.2.2.1.1
        rw [List.length_append] at h
        exact h
      rw [f2, w_id (by omega)]
      exact Ok.ret ⟨d2, Or.inl ⟨by omega, hn, by show (Sum.inr ((ax.length : Int) + 1 - 1) : Nat ⊕ Int) = _; rw [show (ax.length : Int) + 1 - 1 = ax.length by omega], d1⟩⟩
  · have hn : x ∈ ax := by
      rcases he with q | q
      · exact absurd q.1 e0
      · exact q.2
    exact ⟨keepM.refl, Or.inr ⟨fun q => q.2 hn, rfl, hC.zer _⟩⟩
theorem CD_num {k v old : Int} {G1 : zGr} (hC : clsW B G ax cur R M S) (hk : k = 4 ∨ k = 5) (hg : zs M 5 k v 5 4 = G1.2.1 ∧ zs M 5 k v 5 5 = G1.1 ∧ G1.2.2 = G.2.2) (hG : grok G1) : Ok (F_X10_replaceNumber_J40 old (zs M 5 k v)) (fun r => r.1 = old ∧ clsW B G1 ax cur R r.2 S ∧ keepM S M r.2) := by
  obtain ⟨x1, x2⟩ := hC.2.2.2.2.1
  obtain ⟨g1, g2, g3, g4⟩ := hC.2.2.1
  have kb : ∀ b, b ≠ 5 → b ≠ 6 → zs M 5 k v b = M b := fun b h5 h6 => zs_ne _ _ _ h5
  have kk : ∀ j : Int, j ≠ k → zs M 5 k v 5 j = M 5 j := fun j hj => zs_off _ _ (Or.inr hj)
  have k6 : zs M 5 k v 6 = M 6 := zs_ne _ _ _ (by decide)
  have hctx : ∀ p L R pr, ctxok M S p L R pr → ctxok (zs M 5 k v) S p L R pr := fun p L R pr q => by
    have hp := q.1.1
    exact q.same (kb _ (by omega) (by omega)) (kb _ (by omega) (by omega)) (kb _ (by omega) (by omega)) (kb _ (by omega) (by omega))
  obtain ⟨h1, h2, h3⟩ := hg
  unfold F_X10_replaceNumber_J40
  exact Ok.b1 (chg5 (G1 := G1) (ax1 := ax) hC kb ⟨by rw [kk 3 (by omega), h3]; exact g1, h1, h2, fun j L R pr q => by rw [h3] at q; exact hctx _ _ _ _ (g4 j L R pr q)⟩ hG ⟨by rw [kk 2 (by omega)]; exact x1, by rw [k6]; exact x2⟩ hC.2.1.2.1) (fun M2 ⟨d1, d2⟩ => Ok.ret ⟨rfl, d1, d2⟩)
theorem CD_mode {v : Int} (hC : clsW B G ax cur R M S) (hv : 0 ≤ v ∧ v ≤ 4) : Ok (F_X10_replaceNumber 2 v M) (fun r => r.1 = G.2.1 ∧ clsW B (G.1, v, G.2.2) ax cur R r.2 S ∧ keepM S M r.2) := by
  obtain ⟨g1, g2, g3, g4⟩ := hC.2.2.1
  unfold F_X10_replaceNumber
  refine Ok.pos rfl (Ok.lett (Ok.lett ?_))
  rw [g2]
  exact CD_num (G1 := (G.1, v, G.2.2)) hC (Or.inl rfl) ⟨zs_at _ _ _ _, by rw [zs_off _ _ (Or.inr (by decide))]; exact g3, rfl⟩ ⟨hC.2.1.1.1, hv, hC.2.1.1.2.2⟩
theorem CD_limit {v : Int} (hC : clsW B G ax cur R M S) (hv : 1 ≤ v ∧ v ≤ 9) : Ok (F_X10_replaceNumber 3 v M) (fun r => r.1 = G.1 ∧ clsW B (v, G.2.1, G.2.2) ax cur R r.2 S ∧ keepM S M r.2) := by
  obtain ⟨g1, g2, g3, g4⟩ := hC.2.2.1
  unfold F_X10_replaceNumber
  refine Ok.neg (by decide) (Ok.lett (Ok.lett ?_))
  rw [g3]
  exact CD_num (G1 := (v, G.2.1, G.2.2)) hC (Or.inr rfl) ⟨by rw [zs_off _ _ (Or.inr (by decide))]; exact g2, zs_at _ _ _ _, rfl⟩ ⟨hv, hC.2.1.1.2⟩
end
