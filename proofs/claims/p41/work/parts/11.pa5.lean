/-! PURE 14: the class builds a language: its words and edges -/
theorem FJ7_fill {M : zM} {S : zS} {a : Nat} {v : Int} (hk : zkd S a = 20) (hl : zlen S a < 100000) (h0 : 0 ≤ zlen S a) : Ok (F_J7_fill_53178 a v M S) (fun M1 => (∀ i : Int, 0 ≤ i → i < zlen S a → M1 a i = v) ∧ ∀ b, b ≠ a → M1 b = M b) := by
  unfold F_J7_fill_53178
  refine Ok.chk hk (Ok.lett ?_)
  unfold F_J7_fill_53178_L5
  refine Ok.loop (fun z => 0 ≤ z.1 ∧ z.1 ≤ zlen S a ∧ (∀ i : Int, 0 ≤ i → i < z.1 → z.2 a i = v) ∧ ∀ b, b ≠ a → z.2 b = M b) (fun z => (200000 - z.1).toNat) _ ⟨Int.le_refl 0, h0, fun i h1 h2 => by change i < 0 at h2; omega, fun _ _ => rfl⟩ (by show (200000 - (0 : Int)).toNat < zN; decide) ?_ (fun e he => Ok.ret he)
  rintro ⟨i, M1⟩ ⟨i1, i2, i3, i4⟩
  dsimp only at i1 i2 i3 i4 ⊢
  unfold F_J7_fill_53178_B5
  refine Ok.ite (fun q => Ok.chk hk (Ok.chk ⟨i1, q⟩ (Ok.lett (Ok.lett (Ok.ret ?_))))) (fun q => Ok.ret ⟨fun j h1 h2 => i3 j h1 (by omega), i4⟩)
  rw [w_id (a := i + 1) (by omega)]
  refine ⟨⟨by show 0 ≤ i + 1; omega, by show i + 1 ≤ _; omega, fun j h1 h2 => ?_, fun b hb => ?_⟩, by show (200000 - (i + 1)).toNat < (200000 - i).toNat; omega⟩
  · change j < i + 1 at h2
    show zs M1 a i v a j = v
    by_cases e : j = i
    · rw [e, zs_at]
    · rw [zs_off _ _ (Or.inr e)]; exact i3 j h1 (by omega)
  · show zs M1 a i v b = _
    rw [zs_ne _ _ _ hb]; exact i4 b hb
def lgA (b : Nat) : Prop := 11 ≤ b ∧ b ≤ 24
theorem lfr.cfr {A : Nat → Prop} {F : Int → Prop} {S : zS} {M M1 : zM} (h : lfr A F M M1) (hA : ∀ b, A b → lgA b) : cfr lgA S M M1 := by
  have hne : ∀ b, ¬ lgA b → M1 b = M b := fun b hb => h.1 b (fun q => hb (hA b q)) (fun e => hb (e ▸ ⟨by decide, by decide⟩))
  refine ⟨fun b hb _ => hne b hb, fun p L R pr q => ?_⟩
  have hp := q.1.1
  exact q.same (hne _ (fun e => by have := e.2; omega)) (hne _ (fun e => by have := e.2; omega)) (hne _ (fun e => by have := e.2; omega)) (hne _ (fun e => by have := e.2; omega))
theorem FX3_forget {M : zM} {S : zS} {D : Int → Prop} {ws : List Int} (hF : zFx S) (h : col M ws) : Ok (F_X3_forget M S) (fun M1 => colS D M1 [] ∧ M1 11 15 = 0 ∧ M1 11 14 = 0 ∧ M1 11 16 = 0 ∧ M1 11 17 = -1 ∧ (∀ i : Int, 0 ≤ i → i < 300 → M1 17 i = 0) ∧ (∀ i : Int, 0 ≤ i → i < 5 → M1 24 i = 0) ∧ lfr (fun b => b = 13 ∨ b = 17 ∨ b = 24) (fun k => 13 ≤ k ∧ k ≤ 17) M M1) := by
  obtain ⟨c1, c2, c3, c4, c5, c6⟩ := h
  unfold F_X3_forget F_X3_forget_L2
  refine Ok.loop (fun z => ∃ j : Nat, z.1 = j ∧ j ≤ ws.length ∧ lfr (fun b => b = 13) (fun _ => False) M z.2 ∧ ∀ y, wd y → (z.2 13 y ≠ 0 → y ∈ ws.drop j)) (fun z => (400 - z.1).toNat) (fun M1 => lfr (fun b => b = 13) (fun _ => False) M M1 ∧ ∀ y, wd y → M1 13 y = 0) ⟨0, rfl, by omega, lfr.refl, fun y hy hn => (c6 y hy).mp hn⟩ (by show (400 - (0 : Int)).toNat < zN; decide) ?_ ?_
  · rintro ⟨v1, M1⟩ ⟨j, i1, i2, i3, i4⟩
    dsimp only at i1 i2 i3 i4 ⊢
    subst i1
    unfold F_X3_forget_B2
    rw [i3.2 13 (fun q => q), c1]
    refine Ok.ite (fun q => ?_) (fun q => Ok.ret ⟨i3, fun y hy => ?_⟩)
    · have hj : j < ws.length := by omega
      have hg := List.getElem?_eq_getElem hj
      have hmem := c5 _ (List.getElem_mem hj)
      have hdr : ws.drop j = ws[j] :: ws.drop (j + 1) := List.drop_eq_getElem_cons hj
      unfold F_X3_wordAt
      rw [xat hF 12 300 rfl (by omega) (by omega)]
      simp only [zb1_some]
      rw [i3.1 12 (by decide) (by decide), c3 j _ hg]
      rw [hdr] at i4
      generalize ws[j] = y at hg hmem i4
      rw [xput hF 13 29524 rfl hmem.1 hmem.2]
      simp only [zb1_some]
      rw [w_id (a := (j : Int) + 1) (by omega)]
      refine Ok.lett (Ok.ret ⟨⟨j + 1, by show (j : Int) + 1 = _; omega, by omega, i3.trans (lfr.cell rfl (by decide)), fun u hu hn => ?_⟩, by show (400 - ((j : Int) + 1)).toNat < (400 - (j : Int)).toNat; omega⟩)
      change zs M1 13 y 0 13 u ≠ 0 at hn
      by_cases e : u = y
      · rw [e, zs_at] at hn; exact absurd rfl hn
      · rw [zs_off _ _ (Or.inr e)] at hn
        rcases List.mem_cons.mp (i4 u hu hn) with q2 | q2
        · exact absurd q2 e
        · exact q2
    · have e : j = ws.length := by omega
      by_cases h0 : M1 13 y = 0
      · exact h0
      · have := i4 y hy h0
        rw [e, List.drop_length] at this
        cases this
  · intro M1 ⟨h1, h2⟩
    unfold F_X3_forget_J29
    obtain ⟨k17, l17⟩ := xk hF 17 20 300 rfl
    obtain ⟨k24, l24⟩ := xk hF 24 20 5 rfl
    refine Ok.b1 (FJ7_fill k17 (by rw [l17]; decide) (by rw [l17]; decide)) (fun M2 ⟨g1, g2⟩ => ?_)
    refine Ok.b1 (FJ7_fill k24 (by rw [l24]; decide) (by rw [l24]; decide)) (fun M3 ⟨g3, g4⟩ => ?_)
    rw [l17] at g1
    rw [l24] at g3
    refine Ok.lett (Ok.lett (Ok.lett (Ok.lett (Ok.lett (Ok.ret ?_)))))
    have e13 : M3 13 = M1 13 := by rw [g4 13 (by decide), g2 13 (by decide)]
    have e17 : M3 17 = M2 17 := g4 17 (by decide)
    obtain ⟨M4, hM4⟩ : ∃ M4, M4 = zs (zs (zs (zs (zs M3 11 13 0) 11 14 0) 11 15 0) 11 16 0) 11 17 (-1) := ⟨_, rfl⟩
    rw [← hM4]
    have f1 : ∀ b, b ≠ 11 → M4 b = M3 b := fun b hb => by rw [hM4, zs_ne _ _ _ hb, zs_ne _ _ _ hb, zs_ne _ _ _ hb, zs_ne _ _ _ hb, zs_ne _ _ _ hb]
    have n13 : M4 11 13 = 0 := by rw [hM4, zs_off _ _ (Or.inr (by decide)), zs_off _ _ (Or.inr (by decide)), zs_off _ _ (Or.inr (by decide)), zs_off _ _ (Or.inr (by decide)), zs_at]
    have n14 : M4 11 14 = 0 := by rw [hM4, zs_off _ _ (Or.inr (by decide)), zs_off _ _ (Or.inr (by decide)), zs_off _ _ (Or.inr (by decide)), zs_at]
    have n15 : M4 11 15 = 0 := by rw [hM4, zs_off _ _ (Or.inr (by decide)), zs_off _ _ (Or.inr (by decide)), zs_at]
    have n16 : M4 11 16 = 0 := by rw [hM4, zs_off _ _ (Or.inr (by decide)), zs_at]
    have n17 : M4 11 17 = -1 := by rw [hM4, zs_at]
    refine ⟨⟨⟨n13, by decide, rowl_nil _, List.Pairwise.nil, fun y hy => by simp at hy, fun y hy => ?_⟩, fun u hu => by simp at hu, Or.inl n15⟩, n15, n14, n16, n17, fun i q1 q2 => ?_, fun i q1 q2 => ?_, fun b hb h11 => ?_, fun k hk => ?_⟩
    · rw [f1 13 (by decide), e13, h2 y hy]; simp
    · rw [f1 17 (by decide), e17]; exact g1 i q1 q2
    · rw [f1 24 (by decide)]; exact g3 i q1 q2
    · rw [f1 b h11, g4 b (fun e => hb (Or.inr (Or.inr e))), g2 b (fun e => hb (Or.inr (Or.inl e)))]
      exact h1.1 b (fun e => hb (Or.inl e)) h11
    · rw [hM4, zs_off _ _ (Or.inr (by omega)), zs_off _ _ (Or.inr (by omega)), zs_off _ _ (Or.inr (by omega)), zs_off _ _ (Or.inr (by omega)), zs_off _ _ (Or.inr (by omega)), g4 11 (by decide), g2 11 (by decide)]
      exact h1.2 k (fun q => q)
/-- the edges of a word -/
noncomputable def el (G : zGr) (x : Int) : List Int := (insL G x).map (fun r => mvc (insV G x r) r)
theorem mvc_d {y : Int} {r : Nat} (hy : 0 ≤ y ∧ y < 29524) (hr : r < 500) : mvc y r / 2048 = y ∧ 0 ≤ mvc y r ∧ mvc y r < 2147483648 := by
  unfold mvc rs re
  omega
theorem mem_insL {G : zGr} (hG : grok G) {x : Int} (hx : wd x) {r : Nat} : r ∈ insL G x ↔ insP G x r := by
  unfold insL
  rw [mem_frl]
  exact ⟨fun h => h.2, fun h => ⟨(insV_r hG hx h).2.2.2.1, h⟩⟩
theorem len_insL {G : zGr} (hG : grok G) {x : Int} : (insL G x).length ≤ 225 := by
  have h1 := frl_mono (P := insP G x) (show 100 * G.2.2.length ≤ 500 by have := hG.2.2.1; omega)
  have h2 := frl_225 (insP_8 hG (x := x))
  unfold insL
  omega
theorem insP_500 {G : zGr} (hG : grok G) {x : Int} (hx : wd x) {r : Nat} (h : insP G x r) : r < 500 := by
  have := (insV_r hG hx h).2.2.2.1
  have := hG.2.2.1
  omega
theorem mem_el {G : zGr} (hG : grok G) {x m : Int} (hx : wd x) (h : m ∈ el G x) : ∃ r, insP G x r ∧ m = mvc (insV G x r) r ∧ m / 2048 = insV G x r ∧ 0 ≤ m ∧ m < 2147483648 := by
  unfold el at h
  obtain ⟨r, hr, rfl⟩ := List.mem_map.mp h
  have hp := (mem_insL hG hx).mp hr
  have := mvc_d (insV_r hG hx hp).1 (insP_500 hG hx hp)
  exact ⟨r, hp, rfl, this⟩
def lcA (G : zGr) (ax : List Int) : Int → Prop := lc G ax (fun _ => True)
def axC (M : zM) (ax : List Int) : Prop := M 5 2 = (ax.length : Int) ∧ rowl (M 6) ax
theorem fm_len {f : Int → List Int} {n : Nat} : ∀ {l : List Int}, (∀ x ∈ l, (f x).length ≤ n) → (l.flatMap f).length ≤ n * l.length
  | [], _ => by simp
  | a :: l, h => by
    have := fm_len (l := l) (fun x hx => h x (List.mem_cons_of_mem _ hx))
    have := h a List.mem_cons_self
    rw [List.flatMap_cons, List.length_append, List.length_cons, Nat.mul_succ]
    omega
/-- the words and edges of a language, edges still to words -/
def raw (G : zGr) (M : zM) (ws : List Int) : Prop := rowl (M 14) (ws.flatMap (el G)) ∧ M 11 14 = ((ws.flatMap (el G)).length : Int) ∧ ∀ k : Nat, k ≤ ws.length → M 15 k = (((ws.take k).flatMap (el G)).length : Int)
theorem FX2_axiom {M : zM} {S : zS} {ax : List Int} {i : Nat} {a : Int} (hF : zFx S) (h : axC M ax) (hax : axok ax) (hi : ax[i]? = some a) : F_X2_axiom (i : Int) M S = some a := by
  have hlt := (List.getElem?_eq_some_iff.mp hi).1
  have := hax.1
  unfold F_X2_axiom
  rw [xat hF 6 6 rfl (by omega) (by omega)]
  simp only [zb1_some]
  rw [h.2 i a hi]
/-- up to the numbering -/
def bldQ (G : zGr) (ax : List Int) (S : zS) (M M1 : zM) : Prop := (∃ ws, colS (lcA G ax) M1 ws ∧ (M1 11 15 = 0 → ws = wl_ (lcA G ax) ∧ raw G M1 ws)) ∧ M1 11 16 = 0 ∧ M1 11 17 = -1 ∧ (∀ i : Int, 0 ≤ i → i < 300 → M1 17 i = 0) ∧ (∀ i : Int, 0 ≤ i → i < 5 → M1 24 i = 0) ∧ cfr lgA S M M1 ∧ M1 15 0 = 0
theorem few_of {D : Int → Prop} {M : zM} {ws : List Int} (h : colS D M ws) (hw : M 11 15 = 0 → ws = wl_ D) : (M 11 15 = 0 ↔ cnt D 29524 ≤ 300) ∧ (M 11 15 = 0 ∨ M 11 15 = 1) := by
  obtain ⟨⟨c1, c2, c3, c4, c5, c6⟩, d1, d2⟩ := h
  refine ⟨⟨fun q => ?_, fun q => ?_⟩, ?_⟩
  · have := hw q
    rw [← len_wl D, ← this]; exact c2
  · rcases d2 with h0 | ⟨h1, h2, y, h3, h4, h5⟩
    · exact h0
    · exfalso
      have k1 := pw_cnt (D := fun z => z ∈ ws) (n := 29524) ws 0 (by omega) c4 (fun u hu => ⟨(c5 u hu).1, (c5 u hu).2, hu⟩)
      have k2 := cnt_add (D := fun z => z ∈ ws) h5 h3.1 (n := 29524) h3.2
      have k3 := cnt_le (D := fun z => z ∈ ws ∨ z = y) (E := D) (n := 29524) (fun k _ hk => by
        rcases hk with hk | hk
        · exact d1 _ hk
        · rw [hk]; exact h4)
      rw [cnt_0] at k1
      omega
  · rcases d2 with h0 | ⟨h1, _⟩
    · exact Or.inl h0
    · exact Or.inr h1
