/-! PURE 32: the class: the language, built -/
noncomputable def langD (G : zGr) (ax : List Int) (M : zM) : Prop := lang1 G ax M ∧ (∀ y, lcA G ax y → M 23 (pos (lcA G ax) y) = wys G ax y) ∧ msk (M 11 16) (usd G ax) ∧ (∀ e : Nat, e < 5 → msk (M 24 e) (foll G ax e)) ∧ bfsF G ax M ∧ (M 11 17 = -1 ∨ minP G ax (M 11 17))
noncomputable def langP (G : zGr) (ax : List Int) (M : zM) : Prop := (M 11 15 = 0 ∧ fewA G ax ∧ langD G ax M) ∨ (M 11 15 = 1 ∧ ¬ fewA G ax)
/-- what holds of the arrays always -/
def langC (M : zM) : Prop := (∃ ws, col M ws) ∧ M 15 0 = 0
theorem lang1.col {G : zGr} {ax : List Int} {M : zM} (h : lang1 G ax M) : col M (wl_ (lcA G ax)) := by
  obtain ⟨l1, l2, l3, l4, l5, l6, l7⟩ := h
  refine ⟨l1, l2, l3, pw_wl _, fun y hy => (mem_wl.mp hy).1, fun y hy => ?_⟩
  rw [mem_wl]
  constructor
  · intro q
    by_cases hD : lcA G ax y
    · exact ⟨hy, hD⟩
    · exact absurd ((l4 y hy).2 hD) q
  · intro q
    rw [(l4 y hy).1 q.2]
    have := pos_lt hy q.2
    omega
theorem lang1.z {G : zGr} {ax : List Int} {M : zM} (h : lang1 G ax M) : M 15 0 = 0 := by
  have := h.2.2.2.2.2.1 0 (Nat.zero_le _)
  simpa using this
theorem langC.fr {M M1 : zM} (h : langC M) (e11 : M1 11 13 = M 11 13) (e12 : M1 12 = M 12) (e13 : M1 13 = M 13) (e15 : M1 15 = M 15) : langC M1 := by
  unfold langC col at *
  rw [e11, e12, e13, e15]
  exact h
theorem langC.of {G : zGr} {ax : List Int} {M : zM} (h : lang1 G ax M) : langC M := ⟨⟨_, h.col⟩, h.z⟩
theorem lang1.fr2 {G : zGr} {ax : List Int} {M M1 : zM} (h : lang1 G ax M) (e11 : M1 11 13 = M 11 13) (e12 : M1 12 = M 12) (e13 : M1 13 = M 13) (e14 : M1 14 = M 14) (e15 : M1 15 = M 15) (e17 : M1 17 = M 17) : lang1 G ax M1 := by
  unfold lang1 at *
  rw [e11, e12, e13, e14, e15, e17]
  exact h
theorem FX3_build {M : zM} {S : zS} {G : zGr} {ax : List Int} (hF : zFx S) (hG : grok G) (hC : gC M S G) (hA : axC M ax) (hax : axok ax) (h : langC M) : Ok (F_X3_build M S) (fun M1 => langC M1 ∧ langP G ax M1 ∧ cfr lgA S M M1) := by
  obtain ⟨⟨ws, hcol⟩, h0⟩ := h
  unfold F_X3_build
  refine Ok.b1 (FX3_forget (D := lcA G ax) hF hcol) (fun M1 ⟨f1, f2, f3, f4, f5, f6, f7, f8⟩ => ?_)
  have hc1 : cfr lgA S M M1 := f8.cfr (fun b q => by unfold lgA; omega)
  refine FX3_build_ax hF hG hC hA hax f1 ⟨f2, f3, f4, f5, f6, f7⟩ hc1 (by rw [f8.1 15 (by omega) (by decide)]; exact h0) (fun M2 hQ => ?_)
  obtain ⟨⟨w2, g1, g2⟩, g3, g4, g5, g6, g7, g8⟩ := hQ
  obtain ⟨g9, g10⟩ := few_of g1 (fun q => (g2 q).1)
  unfold F_X3_build_J105
  refine Ok.ite (fun q => ?_) (fun q => Ok.ret ⟨⟨⟨w2, g1.1⟩, g8⟩, Or.inr ⟨by omega, fun a => q (g9.mpr a)⟩, g7⟩)
  obtain ⟨e1, e2⟩ := g2 q
  rw [e1] at g1 e2
  have hA2 : axC M2 ax := by
    unfold axC
    rw [g7.1 5 (by unfold lgA; omega) (Or.inl (by decide)), g7.1 6 (by unfold lgA; omega) (Or.inl (by decide))]
    exact hA
  refine Ok.b1 (FX3_numberWords hF hG hA2 hax g1.1 e2 g5) (fun M3 ⟨a1, a2⟩ => ?_)
  refine Ok.b1 (FX3_countPaths hF hG hax a1) (fun M5 ⟨b1, b2⟩ => ?_)
  have l5 : lang1 G ax M5 := a1.fr2 (b2.2 13 (fun q => q)) (b2.1 12 (by omega) (by decide)) (b2.1 13 (by omega) (by decide)) (b2.1 14 (by omega) (by decide)) (b2.1 15 (by omega) (by decide)) (b2.1 17 (by omega) (by decide))
  have e24 : M5 24 = M2 24 := by rw [b2.1 24 (by omega) (by decide), a2.1 24 (by omega) (by decide)]
  refine Ok.b1 (FX3_findFollowers hF hG hax l5 (by rw [b2.2 16 (fun q => q), a2.2 16 (fun q => q)]; exact g3) (by rw [e24]; exact g6)) (fun M7 ⟨c1, c2, c3⟩ => ?_)
  have l7 : lang1 G ax M7 := l5.fr2 (c3.2 13 (by omega)) (c3.1 12 (by omega) (by decide)) (c3.1 13 (by omega) (by decide)) (c3.1 14 (by omega) (by decide)) (c3.1 15 (by omega) (by decide)) (c3.1 17 (by omega) (by decide))
  refine Ok.b1 (FX3_findBestDerivations hF hG hax l7) (fun M9 ⟨d1, d2⟩ => Ok.ret ?_)
  have l9 : lang1 G ax M9 := l7.fr2 (d2.2 13 (fun q => q)) (d2.1 12 (by omega) (by decide)) (d2.1 13 (by omega) (by decide)) (d2.1 14 (by omega) (by decide)) (d2.1 15 (by omega) (by decide)) (d2.1 17 (by omega) (by decide))
  have z15 : M9 11 15 = 0 := by rw [d2.2 15 (fun q => q), c3.2 15 (by omega), b2.2 15 (fun q => q), a2.2 15 (fun q => q)]; exact q
  have z17 : M9 11 17 = -1 := by rw [d2.2 17 (fun q => q), c3.2 17 (by omega), b2.2 17 (fun q => q), a2.2 17 (fun q => q)]; exact g4
  have e23 : M9 23 = M5 23 := by rw [d2.1 23 (by omega) (by decide), c3.1 23 (by omega) (by decide)]
  have e249 : M9 24 = M7 24 := d2.1 24 (by omega) (by decide)
  refine ⟨langC.of l9, Or.inl ⟨z15, g9.mp q, l9, by rw [e23]; exact b1, by rw [d2.2 16 (fun q => q)]; exact c1, by rw [e249]; exact c2, d1, Or.inl z17⟩, ?_⟩
  refine g7.trans ((a2.cfr (fun b q => by unfold lgA; omega)).trans ((b2.cfr (fun b q => by unfold lgA; omega)).trans ((c3.cfr (fun b q => by unfold lgA; omega)).trans (d2.cfr (fun b q => by unfold lgA; omega)))))
/-- the class's language and the mark that it is stale -/
noncomputable def lgI (G : zGr) (ax : List Int) (M : zM) : Prop := langC M ∧ (M 1 11 = 0 → langP G ax M)
theorem lgI.fr {G : zGr} {ax : List Int} {M M1 : zM} (h : lgI G ax M) (e1 : M1 1 11 = M 1 11) (e : ∀ b, lgA b → M1 b = M b) : lgI G ax M1 := by
  have q : ∀ b : Nat, 11 ≤ b → b ≤ 24 → M1 b = M b := fun b i j => e b ⟨i, j⟩
  unfold lgI langC langP langD lang1 col bfsF bfs fnd at *
  rw [e1, q 11 (by decide) (by decide), q 12 (by decide) (by decide), q 13 (by decide) (by decide), q 14 (by decide) (by decide), q 15 (by decide) (by decide), q 17 (by decide) (by decide), q 20 (by decide) (by decide), q 21 (by decide) (by decide), q 22 (by decide) (by decide), q 23 (by decide) (by decide), q 24 (by decide) (by decide)]
  exact h
/-- an object known to have been thrown: 99 -/
def zer (S : zS) : zS := zn S (99, 0)
theorem FX10_requireLanguage {M : zM} {S : zS} {G : zGr} {ax : List Int} (hF : zFx S) (hG : grok G) (hC : gC M S G) (hA : axC M ax) (hax : axok ax) (h : lgI G ax M) : Ok (F_X10_requireLanguage M S) (fun r => lgI G ax r.2.1 ∧ r.2.1 1 11 = 0 ∧ (∀ k, k ≠ 11 → r.2.1 1 k = M 1 k) ∧ cfr (fun b => lgA b ∨ b = 1) S M r.2.1 ∧ ((fewA G ax ∧ langD G ax r.2.1 ∧ r.1 = .inr () ∧ r.2.2 = S) ∨ (¬ fewA G ax ∧ r.1 = .inl 3 ∧ r.2.2 = zer S))) := by
  have fin : ∀ M1 : zM, langC M1 → langP G ax M1 → M1 1 11 = 0 → (∀ k, k ≠ 11 → M1 1 k = M 1 k) → cfr (fun b => lgA b ∨ b = 1) S M M1 → Ok (F_X10_requireLanguage_J23 M1 S) (fun r => lgI G ax r.2.1 ∧ r.2.1 1 11 = 0 ∧ (∀ k, k ≠ 11 → r.2.1 1 k = M 1 k) ∧ cfr (fun b => lgA b ∨ b = 1) S M r.2.1 ∧ ((fewA G ax ∧ langD G ax r.2.1 ∧ r.1 = .inr () ∧ r.2.2 = S) ∨ (¬ fewA G ax ∧ r.1 = .inl 3 ∧ r.2.2 = zer S))) := fun M1 a1 a2 a3 a4 a5 => by
    unfold F_X10_requireLanguage_J23
    refine Ok.ite (fun q => Ok.ret ⟨⟨a1, fun _ => a2⟩, a3, a4, a5, Or.inl ?_⟩) (fun q => Ok.ret ⟨⟨a1, fun _ => a2⟩, a3, a4, a5, Or.inr ?_⟩)
    · rcases a2 with b | b
      · exact ⟨b.2.1, b.2.2, rfl, rfl⟩
      · omega
    · rcases a2 with b | b
      · exact absurd b.1 q
      · exact ⟨b.2, rfl, rfl⟩
  unfold F_X10_requireLanguage
  refine Ok.ite (fun q => fin M h.1 (h.2 q) q (fun _ _ => rfl) cfr.refl) (fun q => ?_)
  refine Ok.b1 (FX3_build hF hG hC hA hax h.1) (fun M5 ⟨b1, b2, b3⟩ => Ok.lett ?_)
  have hne : ∀ b : Nat, b ≠ 1 → zs M5 1 11 0 b = M5 b := fun b hb => zs_ne M5 11 0 hb
  have hl : lgI G ax (zs M5 1 11 0) := by
    have h5 : lgI G ax (zs M5 1 11 (M5 1 11)) := by
      have : zs M5 1 11 (M5 1 11) = M5 := by
        funext b k
        by_cases e : b = 1 ∧ k = 11
        · rw [e.1, e.2, zs_at]
        · rw [zs_off]
          omega
      rw [this]
      exact ⟨b1, fun _ => b2⟩
    refine ⟨b1.fr (by rw [hne 11 (by decide)]) (hne 12 (by decide)) (hne 13 (by decide)) (hne 15 (by decide)), fun _ => ?_⟩
    unfold langP langD lang1 bfsF bfs fnd at *
    rw [hne 11 (by decide), hne 12 (by decide), hne 13 (by decide), hne 14 (by decide), hne 15 (by decide), hne 17 (by decide), hne 20 (by decide), hne 21 (by decide), hne 22 (by decide), hne 23 (by decide), hne 24 (by decide)]
    exact b2
  refine fin _ hl.1 (hl.2 (zs_at M5 1 11 0)) (zs_at M5 1 11 0) (fun k hk => ?_) ((b3.mono (fun b q => Or.inl q)).trans (cfr.zs (Or.inr rfl) (by decide)))
  rw [zs_off _ _ (Or.inr hk), b3.1 1 (by unfold lgA; omega) (Or.inl (by decide))]
