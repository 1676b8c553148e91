/-! PURE 15: the class builds a language: the two loops -/
/-- what the collecting loops keep -/
def bldI (G : zGr) (ax : List Int) (S : zS) (M M1 : zM) (ws : List Int) (i : Nat) : Prop := colS (lcA G ax) M1 ws ∧ i ≤ ws.length ∧ rowl (M1 14) ((ws.take i).flatMap (el G)) ∧ M1 11 14 = (((ws.take i).flatMap (el G)).length : Int) ∧ (∀ k : Nat, k ≤ i → M1 15 k = (((ws.take k).flatMap (el G)).length : Int)) ∧ (M1 11 15 = 0 → (∀ a ∈ ax, ln a ≤ G.1 → a ∈ ws) ∧ ∀ x ∈ ws.take i, ∀ r, insP G x r → insV G x r ∈ ws) ∧ (M1 11 16 = 0 ∧ M1 11 17 = -1 ∧ (∀ i : Int, 0 ≤ i → i < 300 → M1 17 i = 0) ∧ (∀ i : Int, 0 ≤ i → i < 5 → M1 24 i = 0)) ∧ cfr lgA S M M1
theorem bldI.done {G : zGr} {ax : List Int} {S : zS} {M M1 : zM} {ws : List Int} {i : Nat} (hG : grok G) (hax : axok ax) (h : bldI G ax S M M1 ws i) (hi : M1 11 15 = 0 → i = ws.length) : bldQ G ax S M M1 := by
  obtain ⟨h1, h2, h3, h4, h5, h6, ⟨h7, h8, h9, h10⟩, h11⟩ := h
  refine ⟨⟨ws, h1, fun q => ?_⟩, h7, h8, h9, h10, h11, by have := h5 0 (Nat.zero_le i); simpa using this⟩
  have e := hi q
  subst e
  rw [List.take_length] at h3 h4 h6
  obtain ⟨g1, g2⟩ := h6 q
  refine ⟨pw_ext h1.1.2.2.2.1 (pw_wl _) (fun u => ?_), h3, h4, h5⟩
  rw [mem_wl]
  constructor
  · intro hu
    exact ⟨h1.1.2.2.2.2.1 u hu, h1.2.1 u hu⟩
  · rintro ⟨_, hu⟩
    exact hu (fun u => u ∈ ws) g1 (fun x r hx hp _ => g2 x hx r hp)
theorem FX3_build_loop {M M1 : zM} {S : zS} {G : zGr} {ax ws : List Int} {P : zM → Prop} (hF : zFx S) (hG : grok G) (hC : gC M S G) (hax : axok ax) (h : bldI G ax S M M1 ws 0) (fin : ∀ M2, bldQ G ax S M M2 → Ok (F_X3_build_J105 M2 S) P) : Ok (F_X3_build_L46 0 M1 S) P := by
  unfold F_X3_build_L46
  refine Ok.loop (fun z => ∃ (i : Nat) (ws : List Int), z.1 = i ∧ bldI G ax S M z.2 ws i) (fun z => (400 - z.1).toNat) (fun M2 => bldQ G ax S M M2) ⟨0, ws, rfl, h⟩ (by show (400 - (0 : Int)).toNat < zN; decide) ?_ fin
  rintro ⟨v2, M2⟩ ⟨i, ws, rfl, hI⟩
  dsimp only at hI ⊢
  obtain ⟨h1, h2, h3, h4, h5, h6, h7, h11⟩ := id hI
  obtain ⟨⟨c1, c2, c3, c4, c5, c6⟩, d1, d2⟩ := id h1
  unfold F_X3_build_B46
  rw [c1]
  refine Ok.ite (fun q => Ok.ite (fun q1 => Ok.ite (fun q2 => ?_) (fun q2 => Ok.ret (hI.done hG hax (fun q3 => absurd q3 q2)))) (fun q1 => by omega)) (fun q => Ok.ret (hI.done hG hax (fun _ => by omega)))
  have hi : i < ws.length := by omega
  have hg := List.getElem?_eq_getElem hi
  have hmem := List.getElem_mem hi
  have htk : ws.take (i + 1) = ws.take i ++ [ws[i]] := List.take_succ_eq_append_getElem hi
  have hlow : ∀ u ∈ ws.take (i + 1), u ≤ ws[i] := fun u hu => by
    obtain ⟨j, hj⟩ := List.mem_iff_getElem?.mp hu
    rw [List.getElem?_take] at hj
    split at hj
    · obtain ⟨hjl, hje⟩ := List.getElem?_eq_some_iff.mp hj
      by_cases e : j = i
      · subst e; omega
      · have := (List.pairwise_iff_getElem.mp c4) j i hjl hi (by omega)
        omega
    · cases hj
  unfold F_X3_wordAt
  rw [xat hF 12 300 rfl (by omega) (by omega)]
  simp only [zb1_some]
  rw [c3 i _ hg]
  generalize ws[i] = x at hg hmem htk hlow
  have hx := c5 x hmem
  have hDx := d1 x hmem
  obtain ⟨k16, l16⟩ := xk hF 16 20 225 rfl
  have hC2 : gC M2 S G := hC.fr h11 (fun q => by have := q.1; omega)
  refine Ok.b2 (FX2_findInsertions hG hC2 hx ⟨k16, l16, by decide, by decide⟩) (fun r M3 ⟨r1, r2, r3⟩ => ?_)
  dsimp only at r1 r2 r3
  subst r1
  have e3 : ∀ b, b ≠ 16 → b ≤ 89 → M3 b = M2 b := fun b hb h77 => r3.1 b hb (Or.inl h77)
  have hlen := len_insL hG (x := x)
  have hcol3 : colS (lcA G ax) M3 ws := by
    unfold colS col
    rw [e3 11 (by decide) (by decide), e3 12 (by decide) (by decide), e3 13 (by decide) (by decide)]
    exact h1
  have hfl : ((ws.take i).flatMap (el G)).length ≤ 225 * i := by
    have := fm_len (f := el G) (n := 225) (l := ws.take i) (fun y _ => by unfold el; rw [List.length_map]; exact len_insL hG)
    rw [List.length_take, Nat.min_eq_left (by omega)] at this
    exact this
  have hms : rowl (M3 16) (el G x) := r2
  have helen : (el G x).length = (insL G x).length := by unfold el; rw [List.length_map]
  rw [← helen]
  have hmm : ∀ m ∈ el G x, 0 ≤ m ∧ m < 2147483648 ∧ wd (m / 2048) ∧ lcA G ax (m / 2048) := fun m hm => by
    obtain ⟨r, hp, e1, e2, e4, e5⟩ := mem_el hG hx hm
    rw [e2]
    exact ⟨e4, e5, (insV_r hG hx hp).1, lc_ins hDx hp trivial⟩
  refine Ok.b1 (FX3_addResults (E := (ws.take i).flatMap (el G)) hF hcol3 (by rw [e3 14 (by decide) (by decide)]; exact h3) (by rw [e3 11 (by decide) (by decide)]; exact h4) hms hmm (by omega) (by omega)) (fun M4 ⟨⟨ws1, k1, k2, k3, k4⟩, k5, k6, k7⟩ => ?_)
  have htake : ws1.take (i + 1) = ws.take (i + 1) := k3 (i + 1) (by omega) (fun u hu m hm => by
    obtain ⟨r, hp, e1, e2, e4, e5⟩ := mem_el hG hx hm
    have := hlow u hu
    have := (insV_r hG hx hp).2.2.2.2
    omega)
  have hall : (ws1.take (i + 1)).flatMap (el G) = (ws.take i).flatMap (el G) ++ el G x := by
    rw [htake, htk, List.flatMap_append, List.flatMap_cons, List.flatMap_nil, List.append_nil]
  have htk2 : ∀ k, k ≤ i → ws1.take k = ws.take k := fun k hk => by
    have h9 := congrArg (List.take k) htake
    rw [List.take_take, List.take_take, Nat.min_eq_left (by omega)] at h9
    exact h9
  rw [k6, w_id (a := (i : Int) + 1) (by omega), xput hF 15 301 rfl (by omega) (by omega)]
  simp only [zb1_some]
  obtain ⟨M5, hM5⟩ : ∃ M5, M5 = zs M4 15 ((i : Int) + 1) (((ws.take i).flatMap (el G) ++ el G x).length : Int) := ⟨_, rfl⟩
  rw [← hM5]
  have f1 : ∀ b, b ≠ 15 → M5 b = M4 b := fun b hb => by rw [hM5, zs_ne _ _ _ hb]
  refine Ok.lett (Ok.ret ⟨⟨i + 1, ws1, by show (i : Int) + 1 = _; omega, ?_⟩, by show (400 - ((i : Int) + 1)).toNat < (400 - (i : Int)).toNat; omega⟩)
  dsimp only
  refine ⟨?_, by omega, ?_, ?_, fun k hk => ?_, fun q3 => ?_, ?_, ?_⟩
  · unfold colS col
    rw [f1 11 (by decide), f1 12 (by decide), f1 13 (by decide)]
    exact k1
  · rw [f1 14 (by decide), hall]; exact k5
  · rw [f1 11 (by decide), hall]; exact k6
  · by_cases e : k = i + 1
    · subst e; rw [hall, hM5, show ((i + 1 : Nat) : Int) = (i : Int) + 1 by omega, zs_at]
    · rw [hM5, zs_off _ _ (Or.inr (by omega)), k7.1 15 (by decide) (by decide), e3 15 (by decide) (by decide), htk2 k (by omega)]
      exact h5 k (by omega)
  · rw [f1 11 (by decide)] at q3
    obtain ⟨g1, g2⟩ := k4 q3
    rw [e3 11 (by decide) (by decide)] at g1
    obtain ⟨g3, g4⟩ := h6 g1
    refine ⟨fun a ha hl => (g2 a).mpr (Or.inl (g3 a ha hl)), fun y hy r hp => ?_⟩
    rw [htake, htk, List.mem_append, List.mem_singleton] at hy
    rcases hy with hy | hy
    · exact (g2 _).mpr (Or.inl (g4 y hy r hp))
    · rw [hy] at hp ⊢
      refine (g2 _).mpr (Or.inr ⟨mvc (insV G x r) r, List.mem_map.mpr ⟨r, (mem_insL hG hx).mpr hp, rfl⟩, ?_⟩)
      exact (mvc_d (insV_r hG hx hp).1 (insP_500 hG hx hp)).1.symm
  · obtain ⟨g1, g2, g3, g4⟩ := h7
    refine ⟨?_, ?_, fun j q1 q2 => ?_, fun j q1 q2 => ?_⟩
    · rw [f1 11 (by decide), k7.2 16 (by decide), e3 11 (by decide) (by decide)]; exact g1
    · rw [f1 11 (by decide), k7.2 17 (by decide), e3 11 (by decide) (by decide)]; exact g2
    · rw [f1 17 (by decide), k7.1 17 (by decide) (by decide), e3 17 (by decide) (by decide)]; exact g3 j q1 q2
    · rw [f1 24 (by decide), k7.1 24 (by decide) (by decide), e3 24 (by decide) (by decide)]; exact g4 j q1 q2
  · refine h11.trans ((r3.mono (fun b hb => by subst hb; exact ⟨by decide, by decide⟩)).trans ((k7.cfr (fun b hb => by rcases hb with rfl | rfl | rfl <;> exact ⟨by decide, by decide⟩)).trans ?_))
    rw [hM5]
    exact cfr.zs ⟨by decide, by decide⟩ (by decide)
theorem FX3_build_ax {M M1 : zM} {S : zS} {G : zGr} {ax : List Int} {P : zM → Prop} (hF : zFx S) (hG : grok G) (hC : gC M S G) (hA : axC M ax) (hax : axok ax) (h1 : colS (lcA G ax) M1 []) (h2 : M1 11 15 = 0 ∧ M1 11 14 = 0 ∧ M1 11 16 = 0 ∧ M1 11 17 = -1 ∧ (∀ i : Int, 0 ≤ i → i < 300 → M1 17 i = 0) ∧ (∀ i : Int, 0 ≤ i → i < 5 → M1 24 i = 0)) (h3 : cfr lgA S M M1) (h0 : M1 15 0 = 0) (fin : ∀ M2, bldQ G ax S M M2 → Ok (F_X3_build_J105 M2 S) P) : Ok (F_X3_build_L6 0 M1 S) P := by
  have hax6 := hax.1
  unfold F_X3_build_L6
  refine Ok.loop (fun z => ∃ (i : Nat) (ws : List Int), z.1 = i ∧ i ≤ ax.length ∧ colS (lcA G ax) z.2 ws ∧ (z.2 11 15 = 0 → ∀ u, u ∈ ws ↔ u ∈ ax.take i ∧ ln u ≤ G.1) ∧ lfr (fun b => b = 12 ∨ b = 13) (fun k => k = 13 ∨ k = 15) M1 z.2) (fun z => (30 - z.1).toNat) (fun M2 => ∃ ws, bldI G ax S M M2 ws 0) ⟨0, [], rfl, by omega, h1, fun _ u => by simp, lfr.refl⟩ (by show (30 - (0 : Int)).toNat < zN; decide) ?_ ?_
  · rintro ⟨v2, M2⟩ ⟨i, ws, i1, i2, i3, i4, i5⟩
    dsimp only at i1 i2 i3 i4 i5 ⊢
    subst i1
    have ecf := h3.trans (i5.cfr (S := S) (fun b hb => by rcases hb with rfl | rfl <;> exact ⟨by decide, by decide⟩))
    have e5 : M2 5 = M 5 := ecf.1 5 (fun q => by have := q.1; omega) (Or.inl (by decide))
    have e6 : M2 6 = M 6 := ecf.1 6 (fun q => by have := q.1; omega) (Or.inl (by decide))
    have hA2 : axC M2 ax := by unfold axC; rw [e5, e6]; exact hA
    unfold F_X3_build_B6
    rw [hA2.1, e5, hC.2.2.1]
    refine Ok.ite (fun q => ?_) (fun q => Ok.ret ⟨ws, i3, by omega, by simpa using rowl_nil _, ?_, fun k hk => ?_, fun q2 => ⟨fun a ha hl => ?_, fun x hx => by simp at hx⟩, ?_, ecf⟩)
    · have hi : i < ax.length := by omega
      have hg := List.getElem?_eq_getElem hi
      have hmem := List.getElem_mem hi
      have htk : ax.take (i + 1) = ax.take i ++ [ax[i]] := List.take_succ_eq_append_getElem hi
      rw [FX2_axiom hF hA2 hax hg]
      simp only [zb1_some]
      generalize ax[i] = a at hg hmem htk
      have hwa := axok_wd hax hmem
      rw [FX9_length hwa]
      simp only [zb1_some]
      have go : ∀ (M4 : zM) (ws1 : List Int), colS (lcA G ax) M4 ws1 → (M4 11 15 = 0 → ∀ u, u ∈ ws1 ↔ u ∈ ax.take (i + 1) ∧ ln u ≤ G.1) → lfr (fun b => b = 12 ∨ b = 13) (fun k => k = 13 ∨ k = 15) M1 M4 → Ok (F_X3_build_J38 i M4 S) (Turn (fun z : Int × zM => ∃ (i : Nat) (ws : List Int), z.1 = i ∧ i ≤ ax.length ∧ colS (lcA G ax) z.2 ws ∧ (z.2 11 15 = 0 → ∀ u, u ∈ ws ↔ u ∈ ax.take i ∧ ln u ≤ G.1) ∧ lfr (fun b => b = 12 ∨ b = 13) (fun k => k = 13 ∨ k = 15) M1 z.2) (fun z => (30 - z.1).toNat) (fun M2 => ∃ ws, bldI G ax S M M2 ws 0) ((i : Int), M2)) := fun M4 ws1 g1 g2 g3 => by
        unfold F_X3_build_J38
        refine Ok.lett (Ok.ret ?_)
        rw [w_id (a := (i : Int) + 1) (by omega)]
        exact ⟨⟨i + 1, ws1, by show (i : Int) + 1 = _; omega, by omega, g1, g2, g3⟩, by show (30 - ((i : Int) + 1)).toNat < (30 - (i : Int)).toNat; omega⟩
      refine Ok.ite (fun q1 => go M2 ws i3 (fun q2 u => ?_) i5) (fun q1 => ?_)
      · rw [i4 q2 u, htk, List.mem_append, List.mem_singleton]
        constructor
        · rintro ⟨g1, g2⟩; exact ⟨Or.inl g1, g2⟩
        · rintro ⟨g1 | g1, g2⟩
          · exact ⟨g1, g2⟩
          · rw [g1] at g2; omega
      · refine Ok.b1 (FX3_addWord hF i3 hwa (lc_ax hmem (by omega))) (fun M4 ⟨⟨ws1, k1, k2, k3, k4⟩, k5⟩ => go M4 ws1 k1 (fun q2 u => ?_) (i5.trans k5))
        obtain ⟨g1, g2⟩ := k4 q2
        rw [g2 u, i4 g1 u, htk, List.mem_append, List.mem_singleton]
        constructor
        · rintro (⟨g3, g4⟩ | g3)
          · exact ⟨Or.inl g3, g4⟩
          · exact ⟨Or.inr g3, by rw [g3]; omega⟩
        · rintro ⟨g3 | g3, g4⟩
          · exact Or.inl ⟨g3, g4⟩
          · exact Or.inr g3
    · rw [i5.2 14 (by decide), h2.2.1]; simp
    · have : k = 0 := by omega
      subst this
      rw [i5.1 15 (by decide) (by decide)]
      simpa using h0
    · refine (i4 q2 a).mpr ⟨?_, hl⟩
      rw [show i = ax.length by omega, List.take_length]; exact ha
    · refine ⟨by rw [i5.2 16 (by decide)]; exact h2.2.2.1, by rw [i5.2 17 (by decide)]; exact h2.2.2.2.1, fun j q1 q2 => by rw [i5.1 17 (by decide) (by decide)]; exact h2.2.2.2.2.1 j q1 q2, fun j q1 q2 => by rw [i5.1 24 (by decide) (by decide)]; exact h2.2.2.2.2.2 j q1 q2⟩
  · intro M2 ⟨ws, hI⟩
    unfold F_X3_build_J44
    exact FX3_build_loop hF hG hC hax hI fin
