/-! PURE 13: sorted lists; the class collects the words -/
theorem pw_ext : ∀ {a b : List Int}, a.Pairwise (· < ·) → b.Pairwise (· < ·) → (∀ u, u ∈ a ↔ u ∈ b) → a = b
  | [], [], _, _, _ => rfl
  | [], y :: b, _, _, h => absurd ((h y).mpr List.mem_cons_self) (by simp)
  | x :: a, [], _, _, h => absurd ((h x).mp List.mem_cons_self) (by simp)
  | x :: a, y :: b, ha, hb, h => by
    rw [List.pairwise_cons] at ha hb
    have exy : x = y := by
      rcases List.mem_cons.mp ((h x).mp List.mem_cons_self) with e | e
      · exact e
      · rcases List.mem_cons.mp ((h y).mpr List.mem_cons_self) with e2 | e2
        · exact e2.symm
        · have h1 := hb.1 x e
          have h2 := ha.1 y e2
          omega
    subst exy
    congr 1
    refine pw_ext ha.2 hb.2 (fun u => ⟨fun hu => ?_, fun hu => ?_⟩)
    · rcases List.mem_cons.mp ((h u).mp (List.mem_cons_of_mem _ hu)) with e | e
      · have := ha.1 u hu; omega
      · exact e
    · rcases List.mem_cons.mp ((h u).mpr (List.mem_cons_of_mem _ hu)) with e | e
      · have := hb.1 u hu; omega
      · exact e
theorem pw_cnt {D : Int → Prop} {n : Nat} : ∀ (ws : List Int) (m : Nat), m ≤ n → ws.Pairwise (· < ·) → (∀ u ∈ ws, (m : Int) ≤ u ∧ u < n ∧ D u) → ws.length + cnt D m ≤ cnt D n
  | [], m, hm, _, _ => by rw [List.length_nil, Nat.zero_add]; exact cnt_mono hm
  | u :: t, m, hm, hp, h => by
    rw [List.pairwise_cons] at hp
    obtain ⟨h1, h2, h3⟩ := h u List.mem_cons_self
    have eu : u = ((u.toNat : Nat) : Int) := by omega
    have ih := pw_cnt t (u.toNat + 1) (by omega) hp.2 (fun v hv => ⟨by have := hp.1 v hv; omega, (h v (List.mem_cons_of_mem _ hv)).2⟩)
    have hd : D ((u.toNat : Nat) : Int) := by rw [← eu]; exact h3
    rw [cnt_t hd] at ih
    have := cnt_mono (D := D) (show m ≤ u.toNat by omega)
    rw [List.length_cons]
    omega
/-- the words of D in order -/
noncomputable def wl_ (D : Int → Prop) : List Int := (frl (fun k : Nat => D k) 29524).map (fun k : Nat => (k : Int))
theorem len_wl (D : Int → Prop) : (wl_ D).length = cnt D 29524 := by unfold wl_ cnt; rw [List.length_map]
theorem mem_wl {D : Int → Prop} {y : Int} : y ∈ wl_ D ↔ wd y ∧ D y := by
  unfold wl_
  rw [List.mem_map]
  constructor
  · rintro ⟨k, h1, rfl⟩
    have := mem_frl.mp h1
    exact ⟨⟨by omega, by omega⟩, this.2⟩
  · rintro ⟨⟨h0, h1⟩, h2⟩
    exact ⟨y.toNat, mem_frl.mpr ⟨by omega, by rw [show ((y.toNat : Nat) : Int) = y by omega]; exact h2⟩, by omega⟩
theorem pw_frl (P : Nat → Prop) (n : Nat) : (frl P n).Pairwise (· < ·) := by
  unfold frl
  exact List.Pairwise.filter _ List.pairwise_lt_range
theorem pw_wl (D : Int → Prop) : (wl_ D).Pairwise (· < ·) := by
  unfold wl_
  rw [List.pairwise_map]
  exact (pw_frl _ _).imp (fun h => by omega)
def col (M : zM) (ws : List Int) : Prop := M 11 13 = (ws.length : Int) ∧ ws.length ≤ 300 ∧ rowl (M 12) ws ∧ ws.Pairwise (· < ·) ∧ (∀ y ∈ ws, wd y) ∧ ∀ y, wd y → (M 13 y ≠ 0 ↔ y ∈ ws)
/-- the words so far are words of D; or they are too many -/
def colS (D : Int → Prop) (M : zM) (ws : List Int) : Prop := col M ws ∧ (∀ u ∈ ws, D u) ∧ (M 11 15 = 0 ∨ (M 11 15 = 1 ∧ ws.length = 300 ∧ ∃ y, wd y ∧ D y ∧ y ∉ ws))
/-- frames over the class's Language -/
def lfr (A : Nat → Prop) (F : Int → Prop) (M M1 : zM) : Prop := (∀ b, ¬ A b → b ≠ 11 → M1 b = M b) ∧ ∀ k, ¬ F k → M1 11 k = M 11 k
theorem lfr.refl {A : Nat → Prop} {F : Int → Prop} {M : zM} : lfr A F M M := ⟨fun _ _ _ => rfl, fun _ _ => rfl⟩
theorem lfr.trans {A : Nat → Prop} {F : Int → Prop} {M M1 M2 : zM} (h : lfr A F M M1) (i : lfr A F M1 M2) : lfr A F M M2 := ⟨fun b h1 h2 => (i.1 b h1 h2).trans (h.1 b h1 h2), fun k h1 => (i.2 k h1).trans (h.2 k h1)⟩
theorem lfr.mono {A B : Nat → Prop} {F E : Int → Prop} {M M1 : zM} (h : lfr A F M M1) (i : ∀ b, A b → B b) (j : ∀ k, F k → E k) : lfr B E M M1 := ⟨fun b h1 => h.1 b (fun q => h1 (i b q)), fun k h1 => h.2 k (fun q => h1 (j k q))⟩
theorem lfr.cell {A : Nat → Prop} {F : Int → Prop} {M : zM} {a : Nat} {k v : Int} (h : A a) (h11 : a ≠ 11) : lfr A F M (zs M a k v) := ⟨fun b hb _ => zs_ne M k v (fun q => hb (q ▸ h)), fun j _ => by rw [zs_ne M k v (Ne.symm h11)]⟩
theorem lfr.fld {A : Nat → Prop} {F : Int → Prop} {M : zM} {k v : Int} (h : F k) : lfr A F M (zs M 11 k v) := ⟨fun b _ h11 => zs_ne M k v h11, fun j hj => zs_off M v (Or.inr (fun q => hj (q ▸ h)))⟩
theorem FX3_addWord {M : zM} {S : zS} {D : Int → Prop} {ws : List Int} {y : Int} (hF : zFx S) (h : colS D M ws) (hy : wd y) (hD : D y) : Ok (F_X3_addWord y M S) (fun M1 => (∃ ws1, colS D M1 ws1 ∧ ws.length ≤ ws1.length ∧ (∀ i, i ≤ ws.length → (∀ u ∈ ws.take i, u ≤ y) → ws1.take i = ws.take i) ∧ (M1 11 15 = 0 → M 11 15 = 0 ∧ ∀ u, u ∈ ws1 ↔ u ∈ ws ∨ u = y)) ∧ lfr (fun b => b = 12 ∨ b = 13) (fun k => k = 13 ∨ k = 15) M M1) := by
  obtain ⟨hcol, hDw, hflag⟩ := id h
  obtain ⟨c1, c2, c3, c4, c5, c6⟩ := hcol
  have hy0 := hy.1
  have hy1 := hy.2
  unfold F_X3_addWord
  rw [xat hF 13 29524 rfl hy0 hy1]
  simp only [zb1_some]
  refine Ok.ite (fun q => ?_) (fun q => Ok.ret ⟨⟨ws, h, Nat.le_refl _, fun _ _ _ => rfl, fun q2 => ⟨q2, fun u => ⟨Or.inl, fun hu => ?_⟩⟩⟩, lfr.refl⟩)
  · have hny : y ∉ ws := fun hu => (c6 y hy).mpr hu q
    rw [c1]
    refine Ok.ite (fun q1 => ?_) (fun q1 => ?_)
    · rw [xput hF 13 29524 rfl hy0 hy1]
      simp only [zb1_some]
      rw [zs_ne M y 1 (show (11 : Nat) ≠ 13 by decide), c1]
      obtain ⟨k1, k2⟩ := xk hF 12 20 300 rfl
      refine Ok.b1 (FX6_putInOrder k1 (by rw [k2]; decide) (by rw [k2]; omega) (by rw [zs_ne M y 1 (show (12 : Nat) ≠ 13 by decide)]; exact c3) rfl (pw_le c4)) (fun M2 ⟨⟨p, hp, hr⟩, hf⟩ => Ok.lett (Ok.ret ?_))
      have e11 : M2 11 = M 11 := by rw [hf 11 (by decide), zs_ne _ _ _ (by decide)]
      have hp1 := hp.1
      have hli := len_inl (v := y) hp1
      rw [e11, c1, w_id (a := (ws.length : Int) + 1) (by omega)]
      refine ⟨⟨inl ws y p, ⟨⟨by rw [zs_at, hli]; omega, by omega, by rw [zs_ne _ _ _ (by decide)]; exact hr, pw_inl c4 hny hp, fun u hu => ?_, fun u hu => ?_⟩, fun u hu => ?_, ?_⟩, by omega, fun i hi hu => inl_take (take_inl hp hu hi) hp1, fun q2 => ⟨?_, fun u => mem_inl⟩⟩, ?_⟩
      · rcases mem_inl.mp hu with hu | rfl
        · exact c5 u hu
        · exact hy
      · rw [zs_ne _ _ _ (by decide), hf 13 (by decide), mem_inl]
        by_cases e : u = y
        · subst e; rw [zs_at]; exact ⟨fun _ => Or.inr rfl, fun _ => by decide⟩
        · rw [zs_off _ _ (Or.inr e), c6 u hu]
          exact ⟨Or.inl, fun q2 => q2.resolve_right e⟩
      · rcases mem_inl.mp hu with hu | rfl
        · exact hDw u hu
        · exact hD
      · rw [zs_off _ _ (Or.inr (by decide)), e11]
        rcases hflag with h0 | ⟨_, h1, _⟩
        · exact Or.inl h0
        · omega
      · rw [zs_off _ _ (Or.inr (by decide)), e11] at q2; exact q2
      · refine ⟨fun b hb h11 => ?_, fun k hk => ?_⟩
        · rw [zs_ne _ _ _ h11, hf b (fun e => hb (Or.inl e)), zs_ne _ _ _ (fun e => hb (Or.inr e))]
        · rw [zs_off _ _ (Or.inr (fun e => hk (Or.inl e))), e11]
    · refine Ok.lett (Ok.ret ⟨⟨ws, ⟨⟨by rw [zs_off _ _ (Or.inr (by decide))]; exact c1, c2, by rw [zs_ne _ _ _ (by decide)]; exact c3, c4, c5, fun u hu => by rw [zs_ne _ _ _ (by decide)]; exact c6 u hu⟩, hDw, Or.inr ⟨zs_at _ _ _ _, by omega, y, hy, hD, hny⟩⟩, Nat.le_refl _, fun _ _ _ => rfl, fun q2 => by rw [zs_at] at q2; omega⟩, lfr.fld (Or.inr rfl)⟩)
  · rcases hu with hu | hu
    · exact hu
    · rw [hu]; exact (c6 y hy).mp q
theorem FX4_word {m : Int} (h0 : 0 ≤ m) (h1 : m < 2147483648) : F_X4_word m = some (m / 2048) := by
  unfold F_X4_word
  rw [zshr_11 h0 h1]
theorem FX3_addResults {M : zM} {S : zS} {D : Int → Prop} {ws E ms : List Int} (hF : zFx S) (h : colS D M ws) (hE : rowl (M 14) E) (hEl : M 11 14 = (E.length : Int)) (hms : rowl (M 16) ms) (hm : ∀ m ∈ ms, 0 ≤ m ∧ m < 2147483648 ∧ wd (m / 2048) ∧ D (m / 2048)) (hl : ms.length ≤ 225) (hle : E.length + ms.length ≤ 67500) : Ok (F_X3_addResults (ms.length : Int) M S) (fun M1 => (∃ ws1, colS D M1 ws1 ∧ ws.length ≤ ws1.length ∧ (∀ i, i ≤ ws.length → (∀ u ∈ ws.take i, ∀ m ∈ ms, u ≤ m / 2048) → ws1.take i = ws.take i) ∧ (M1 11 15 = 0 → M 11 15 = 0 ∧ ∀ u, u ∈ ws1 ↔ u ∈ ws ∨ ∃ m ∈ ms, u = m / 2048)) ∧ rowl (M1 14) (E ++ ms) ∧ M1 11 14 = ((E ++ ms).length : Int) ∧ lfr (fun b => b = 12 ∨ b = 13 ∨ b = 14) (fun k => k = 13 ∨ k = 14 ∨ k = 15) M M1) := by
  unfold F_X3_addResults F_X3_addResults_L2
  refine Ok.loop (fun z => ∃ j : Nat, z.1 = j ∧ j ≤ ms.length ∧ (∃ ws1, colS D z.2 ws1 ∧ ws.length ≤ ws1.length ∧ (∀ i, i ≤ ws.length → (∀ u ∈ ws.take i, ∀ m ∈ ms, u ≤ m / 2048) → ws1.take i = ws.take i) ∧ (z.2 11 15 = 0 → M 11 15 = 0 ∧ ∀ u, u ∈ ws1 ↔ u ∈ ws ∨ ∃ m ∈ ms.take j, u = m / 2048)) ∧ rowl (z.2 14) (E ++ ms.take j) ∧ z.2 11 14 = ((E ++ ms.take j).length : Int) ∧ lfr (fun b => b = 12 ∨ b = 13 ∨ b = 14) (fun k => k = 13 ∨ k = 14 ∨ k = 15) M z.2) (fun z => (300 - z.1).toNat) _ ⟨0, rfl, by omega, ⟨ws, h, Nat.le_refl _, fun _ _ _ => rfl, fun q => ⟨q, fun u => ⟨Or.inl, fun hu => by rcases hu with hu | ⟨m, hm, _⟩; exact hu; simp at hm⟩⟩⟩, by simpa using hE, by simpa using hEl, lfr.refl⟩ (by show (300 - (0 : Int)).toNat < zN; decide) ?_ (fun e he => Ok.ret he)
  rintro ⟨v2, M1⟩ ⟨j, i1, i2, ⟨ws1, i3, i4, i5, i6⟩, i7, i8, i9⟩
  dsimp only at i1 i2 i3 i4 i5 i6 i7 i8 i9 ⊢
  subst i1
  unfold F_X3_addResults_B2
  refine Ok.ite (fun q => ?_) (fun q => Ok.ret (by
    have e : j = ms.length := by omega
    subst e
    rw [List.take_length] at i6 i7 i8
    exact ⟨⟨ws1, i3, i4, i5, i6⟩, i7, i8, i9⟩))
  have hj : j < ms.length := by omega
  have hg := List.getElem?_eq_getElem hj
  have hmem := List.getElem_mem hj
  have htk : ms.take (j + 1) = ms.take j ++ [ms[j]] := List.take_succ_eq_append_getElem hj
  rw [xat hF 16 225 rfl (by omega) (by omega)]
  simp only [zb1_some]
  rw [i9.1 16 (by decide) (by decide), hms j _ hg]
  generalize ms[j] = m at hg hmem htk
  obtain ⟨m0, m1, m2, m3⟩ := hm m hmem
  rw [FX4_word m0 m1]
  simp only [zb1_some]
  refine Ok.b1 (FX3_addWord hF i3 m2 m3) (fun M2 ⟨⟨ws2, k1, k2, k3, k4⟩, k5⟩ => ?_)
  have e14 : M2 11 14 = ((E ++ ms.take j).length : Int) := by rw [k5.2 14 (by decide)]; exact i8
  have elen : (E ++ ms.take j).length = E.length + j := by rw [List.length_append, List.length_take]; omega
  have e14b : M2 14 = M1 14 := k5.1 14 (by decide) (by decide)
  rw [e14, xput hF 14 67500 rfl (by omega) (by omega)]
  simp only [zb1_some]
  refine Ok.lett ?_
  rw [zs_ne M2 _ _ (show (11 : Nat) ≠ 14 by decide), e14, w_id (a := ((E ++ ms.take j).length : Int) + 1) (by omega), w_id (a := (j : Int) + 1) (by omega)]
  obtain ⟨M3, hM3⟩ : ∃ M3, M3 = zs (zs M2 14 ((E ++ ms.take j).length : Int) m) 11 14 (((E ++ ms.take j).length : Int) + 1) := ⟨_, rfl⟩
  rw [← hM3]
  have f1 : ∀ k, k ≠ 14 → M3 11 k = M2 11 k := fun k hk => by rw [hM3, zs_off _ _ (Or.inr hk), zs_ne _ _ _ (by decide)]
  have f2 : ∀ b, b ≠ 11 → b ≠ 14 → M3 b = M2 b := fun b h1 h2 => by rw [hM3, zs_ne _ _ _ h1, zs_ne _ _ _ h2]
  have f3 : M3 11 14 = ((E ++ ms.take j).length : Int) + 1 := by rw [hM3, zs_at]
  have f4 : M3 14 = up (M2 14) ((E ++ ms.take j).length : Int) m := by rw [hM3, zs_ne _ _ _ (by decide), zs_eq]
  refine Ok.lett (Ok.ret ⟨⟨j + 1, by show (j : Int) + 1 = _; omega, hj, ⟨ws2, ?_, by omega, fun i hi hu => ?_, fun q2 => ?_⟩, ?_, ?_, ?_⟩, by show (300 - ((j : Int) + 1)).toNat < (300 - (j : Int)).toNat; omega⟩)
  · obtain ⟨⟨c1, c2, c3, c4, c5, c6⟩, d1, d2⟩ := k1
    dsimp only
    refine ⟨⟨by rw [f1 13 (by decide)]; exact c1, c2, by rw [f2 12 (by decide) (by decide)]; exact c3, c4, c5, fun u hu => by rw [f2 13 (by decide) (by decide)]; exact c6 u hu⟩, d1, by rw [f1 15 (by decide)]; exact d2⟩
  · rw [k3 i (by omega) (fun u hu2 => by rw [i5 i hi hu] at hu2; exact hu u hu2 m hmem)]
    exact i5 i hi hu
  · dsimp only at q2
    rw [f1 15 (by decide)] at q2
    obtain ⟨g1, g2⟩ := k4 q2
    obtain ⟨g3, g4⟩ := i6 g1
    refine ⟨g3, fun u => ?_⟩
    rw [g2 u, g4 u, htk]
    constructor
    · rintro ((hu | ⟨m4, hm4, hu⟩) | hu)
      · exact Or.inl hu
      · exact Or.inr ⟨m4, List.mem_append_left _ hm4, hu⟩
      · exact Or.inr ⟨m, List.mem_append_right _ List.mem_cons_self, hu⟩
    · rintro (hu | ⟨m4, hm4, hu⟩)
      · exact Or.inl (Or.inl hu)
      · rcases List.mem_append.mp hm4 with hm5 | hm5
        · exact Or.inl (Or.inr ⟨m4, hm5, hu⟩)
        · rw [List.mem_singleton.mp hm5] at hu; exact Or.inr hu
  · dsimp only
    rw [f4, e14b, htk, ← List.append_assoc]
    exact rowl_push i7 rfl
  · dsimp only
    rw [f3, htk, ← List.append_assoc, List.length_append (as := E ++ ms.take j), List.length_singleton]
    omega
  · dsimp only
    rw [hM3]
    refine i9.trans ((k5.mono (fun b hb => by rcases hb with hb | hb; exact Or.inl hb; exact Or.inr (Or.inl hb)) (fun k hk => by rcases hk with hk | hk; exact Or.inl hk; exact Or.inr (Or.inr hk))).trans ((lfr.cell (Or.inr (Or.inr rfl)) (by decide)).trans (lfr.fld (Or.inr (Or.inl rfl)))))
