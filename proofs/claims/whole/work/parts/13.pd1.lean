/-! PURE 37: the class: the normal forms of a word -/
theorem len_redL {G : zGr} (hG : grok G) {x : Int} : (redL G x).length ≤ 225 := by
  have h2 := frl_225 (redP_8 hG (x := x))
  have h3 := hG.2.2.1
  have h1 : (frl (redP G x) (100 * G.2.2.length)).length ≤ (frl (redP G x) 500).length := frl_mono (by omega)
  unfold redL
  omega
theorem mem_redL {G : zGr} (hG : grok G) {x : Int} {r : Nat} : r ∈ redL G x ↔ redP G x r := by
  unfold redL
  rw [mem_frl]
  exact ⟨fun h => h.2, fun h => ⟨(redV_r hG h).2.2.2, h⟩⟩
theorem redL_nf {G : zGr} (hG : grok G) {x : Int} : (redL G x).length = 0 ↔ nf G x := by
  rw [List.length_eq_zero_iff]
  constructor
  · intro h r hp
    have := (mem_redL hG).mpr hp
    rw [h] at this
    cases this
  · intro h
    refine List.eq_nil_iff_forall_not_mem.mpr (fun r hr => h r ((mem_redL hG).mp hr))
theorem nrow {S : zS} (hF : zFx S) {d : Nat} (hd : d < 10) : zrf S 29 (d : Int) = 30 + d ∧ rowA S (30 + d) := by
  have mk : ∀ a : Nat, zkd S a = 20 ∧ zlen S a = ((225 : Nat) : Int) → a ≤ 77 → a ≠ 5 → rowA S a := fun a h h1 h2 => ⟨h.1, h.2, h1, h2⟩
  rcases (show d = 0 ∨ d = 1 ∨ d = 2 ∨ d = 3 ∨ d = 4 ∨ d = 5 ∨ d = 6 ∨ d = 7 ∨ d = 8 ∨ d = 9 by omega) with e | e | e | e | e | e | e | e | e | e
  · subst e; exact ⟨zFx_rf hF 29 0 rfl, mk 30 (xk hF 30 20 225 rfl) (by decide) (by decide)⟩
  · subst e; exact ⟨zFx_rf hF 29 1 rfl, mk 31 (xk hF 31 20 225 rfl) (by decide) (by decide)⟩
  · subst e; exact ⟨zFx_rf hF 29 2 rfl, mk 32 (xk hF 32 20 225 rfl) (by decide) (by decide)⟩
  · subst e; exact ⟨zFx_rf hF 29 3 rfl, mk 33 (xk hF 33 20 225 rfl) (by decide) (by decide)⟩
  · subst e; exact ⟨zFx_rf hF 29 4 rfl, mk 34 (xk hF 34 20 225 rfl) (by decide) (by decide)⟩
  · subst e; exact ⟨zFx_rf hF 29 5 rfl, mk 35 (xk hF 35 20 225 rfl) (by decide) (by decide)⟩
  · subst e; exact ⟨zFx_rf hF 29 6 rfl, mk 36 (xk hF 36 20 225 rfl) (by decide) (by decide)⟩
  · subst e; exact ⟨zFx_rf hF 29 7 rfl, mk 37 (xk hF 37 20 225 rfl) (by decide) (by decide)⟩
  · subst e; exact ⟨zFx_rf hF 29 8 rfl, mk 38 (xk hF 38 20 225 rfl) (by decide) (by decide)⟩
  · subst e; exact ⟨zFx_rf hF 29 9 rfl, mk 39 (xk hF 39 20 225 rfl) (by decide) (by decide)⟩
/-- the search on its way: V are marked, the forms among W are in the list -/
def vst (G : zGr) (S : zS) (x0 s : Int) (V W : Int → Prop) (M : zM) : Prop := gC M S G ∧ M 25 4 = s ∧ (∀ y, wd y → (M 27 y = s ↔ V y) ∧ M 27 y ≤ s) ∧ (∀ y, V y → rdc G x0 y) ∧ (∀ y, W y → V y) ∧ ∃ ws : List Int, rowl (M 26) ws ∧ M 25 1 = (ws.length : Int) ∧ ws.Pairwise (· < ·) ∧ ∀ y, y ∈ ws ↔ W y ∧ nf G y
theorem vst.congr {G : zGr} {S : zS} {x0 s : Int} {V W V1 W1 : Int → Prop} {M : zM} (h : vst G S x0 s V W M) (i : ∀ y, V y ↔ V1 y) (j : ∀ y, nf G y → (W y ↔ W1 y)) (k : ∀ y, W1 y → V1 y) : vst G S x0 s V1 W1 M := by
  obtain ⟨h1, h2, h3, h4, h5, ws, h6, h7, h8, h9⟩ := h
  refine ⟨h1, h2, fun y hy => ⟨(h3 y hy).1.trans (i y), (h3 y hy).2⟩, fun y hy => h4 y ((i y).mpr hy), k, ws, h6, h7, h8, fun y => (h9 y).trans ⟨fun a => ⟨(j y a.2).mp a.1, a.2⟩, fun a => ⟨(j y a.2).mpr a.1, a.2⟩⟩⟩
def nfA (d : Nat) (b : Nat) : Prop := b = 25 ∨ b = 26 ∨ b = 27 ∨ (30 + d ≤ b ∧ b ≤ 39)
theorem nf_nd {ws : List Int} (h : ws.Pairwise (· < ·)) : ws.Nodup := h.imp (fun a e => by omega)
theorem FX5_visit {G : zGr} {S : zS} {x0 s : Int} (hF : zFx S) (hG : grok G) (hx0 : wd x0) : ∀ (n k : Nat) (x : Int) (d : Nat) (V : Int → Prop) (M : zM), vst G S x0 s V V M → wd x → rdc G x0 x → (d : Int) + ln x ≤ 9 → ln x < n → (∀ v, V v → ln v ≤ ln x → ∀ z, rdc G v z → V z) → Ok (F_GV n k x (d : Int) M S) (fun M1 => vst G S x0 s (fun y => V y ∨ rdc G x y) (fun y => V y ∨ rdc G x y) M1 ∧ cfr (nfA d) S M M1 ∧ ∀ k, k ≠ 1 → M1 25 k = M 25 k) := by
  intro n
  induction n with
  | zero => intro k x d V M _ _ _ _ h; have := ln_b x; omega
  | succ n ih =>
    intro k x d V M hV hx hr0 hd hn hcl
    have hlx := ln_b x
    have hxa := hx.1
    have hxb := hx.2
    obtain ⟨hrf, hrow⟩ := nrow hF (show d < 10 by omega)
    show Ok (F_X5_visit (F_GV n) x d M S) _
    unfold F_X5_visit
    obtain ⟨h1, h2, h3, h4, h5, ws, h6, h7, h8, h9⟩ := id hV
    refine Ok.neg (by omega) (Ok.pos (by omega) ?_)
    rw [xat hF 27 29524 rfl hxa hxb, h2]
    simp only [zb1_some]
    refine Ok.ite (fun q => Ok.ret ⟨?_, cfr.refl, fun _ _ => rfl⟩) (fun q => ?_)
    · have hvx := (h3 x hx).1.mp q
      have hiff : ∀ y, V y ↔ V y ∨ rdc G x y := fun y => ⟨Or.inl, fun a => a.elim (fun b => b) (fun b => hcl x hvx (Int.le_refl _) y b)⟩
      exact hV.congr hiff (fun y _ => hiff y) (fun y a => a)
    · have hnx : ¬ V x := fun a => q ((h3 x hx).1.mpr a)
      rw [xput hF 27 29524 rfl hxa hxb]
      simp only [zb1_some]
      refine Ok.chk ⟨by omega, by omega⟩ (Ok.lett ?_)
      rw [hrf]
      have hf0 : cfr (nfA d) S M (zs M 27 x s) := cfr.zs (Or.inr (Or.inr (Or.inl rfl))) (by decide)
      have hgC0 := h1.fr hf0 (by unfold nfA; omega)
      refine Ok.b2 (FX2_findReductions hG hgC0 hx hrow) (fun r1 M3 ⟨a1, a2, a3⟩ => ?_)
      dsimp only at a1 a2 a3
      subst a1
      have a4 : cfr (nfA d) S M M3 := hf0.trans (a3.mono (fun b e => Or.inr (Or.inr (Or.inr ⟨by omega, by omega⟩))))
      have k25 : M3 25 = M 25 := by rw [a3.1 25 (by omega) (Or.inl (by decide)), zs_ne _ _ _ (by decide)]
      have k26 : M3 26 = M 26 := by rw [a3.1 26 (by omega) (Or.inl (by decide)), zs_ne _ _ _ (by decide)]
      have k27 : M3 27 = zs M 27 x s 27 := a3.1 27 (by omega) (Or.inl (by decide))
      have hst0 : vst G S x0 s (fun y => V y ∨ y = x) V M3 := by
        refine ⟨h1.fr a4 (by unfold nfA; omega), by rw [k25]; exact h2, fun y hy => ?_, fun y a => ?_, fun y a => Or.inl a, ws, by rw [k26]; exact h6, by rw [k25]; exact h7, h8, h9⟩
        · rw [k27]
          by_cases e : y = x
          · rw [e, zs_at]; exact ⟨⟨fun _ => Or.inr rfl, fun _ => rfl⟩, Int.le_refl _⟩
          · rw [zs_off _ _ (Or.inr e)]
            exact ⟨(h3 y hy).1.trans ⟨Or.inl, fun a => a.resolve_right e⟩, (h3 y hy).2⟩
        · rcases a with a | a
          · exact h4 y a
          · rw [a]; exact hr0
      have hlen := len_redL hG (x := x)
      have hk25 : ∀ k : Int, M3 25 k = M 25 k := fun k => by rw [k25]
      unfold F_X5_visit_L61
      refine Ok.loop (fun z => ∃ i : Nat, z.1 = i ∧ i ≤ (redL G x).length ∧ vst G S x0 s (fun y => (V y ∨ y = x) ∨ ∃ (j r : Nat), j < i ∧ (redL G x)[j]? = some r ∧ rdc G (redV G x r) y) (fun y => V y ∨ ∃ (j r : Nat), j < i ∧ (redL G x)[j]? = some r ∧ rdc G (redV G x r) y) z.2 ∧ cfr (nfA d) S M z.2 ∧ (∀ k, k ≠ 1 → z.2 25 k = M 25 k) ∧ rowl (z.2 (30 + d)) ((redL G x).map (fun r => mvc (redV G x r) r))) (fun z => (300 - z.1).toNat) (fun M4 => vst G S x0 s (fun y => V y ∨ rdc G x y) (fun y => V y ∨ (y ≠ x ∧ rdc G x y)) M4 ∧ cfr (nfA d) S M M4 ∧ ∀ k, k ≠ 1 → M4 25 k = M 25 k) ⟨0, rfl, Nat.zero_le _, hst0.congr (fun y => ⟨Or.inl, fun a => a.elim (fun b => b) (fun ⟨_, _, b, _⟩ => absurd b (Nat.not_lt_zero _))⟩) (fun y _ => ⟨Or.inl, fun a => a.elim (fun b => b) (fun ⟨_, _, b, _⟩ => absurd b (Nat.not_lt_zero _))⟩) (fun y a => a.elim (fun b => Or.inl (Or.inl b)) (fun b => Or.inr b)), a4, fun k _ => hk25 k, a2⟩ (by show (300 - (0 : Int)).toNat < zN; decide) ?_ ?_
      · rintro ⟨v6, M5⟩ ⟨i, i1, i2, i3, i4, i5, i6⟩
        dsimp only at i1 i2 i3 i4 i5 i6 ⊢
        subst i1
        unfold F_X5_visit_B61
        refine Ok.ite (fun c => ?_) (fun c => Ok.ret ⟨?_, i4, i5⟩)
        · have hi : i < (redL G x).length := by omega
          have hg := List.getElem?_eq_getElem hi
          generalize (redL G x)[i] = r at hg
          have hp : redP G x r := (mem_redL hG).mp (List.mem_of_getElem? hg)
          have hv := redV_r hG hp
          have h500 : r < 500 := by have := hG.2.2.1; omega
          have hm := mvc_d hv.1 h500
          have hat : M5 (30 + d) i = mvc (redV G x r) r := i6 i _ (by rw [List.getElem?_map, hg]; rfl)
          rw [FX6_at hrow.1 (by omega) (by rw [hrow.2.1]; omega), hat]
          simp only [zb1_some]
          rw [FX4_word hm.2.1 hm.2.2, hm.1, w_id (a := (d : Int) + 1) (by omega)]
          simp only [zb1_some]
          have hc1 : vst G S x0 s (fun y => (V y ∨ y = x) ∨ ∃ (j r : Nat), j < i ∧ (redL G x)[j]? = some r ∧ rdc G (redV G x r) y) (fun y => (V y ∨ y = x) ∨ ∃ (j r : Nat), j < i ∧ (redL G x)[j]? = some r ∧ rdc G (redV G x r) y) M5 := i3.congr (fun y => Iff.rfl) (fun y hnf => ⟨fun a => a.elim (fun b => Or.inl (Or.inl b)) (fun b => Or.inr b), fun a => by
            rcases a with (a | a) | a
            · exact Or.inl a
            · rw [a] at hnf; exact absurd hp (hnf r)
            · exact Or.inr a⟩) (fun y a => a)
          have hh := ih 0 (redV G x r) (d + 1) _ M5 hc1 hv.1 (hr0.step hp) (by omega) (by omega) (fun v a hl z hz => by
            rcases a with (a | a) | ⟨j, t, b1, b2, b3⟩
            · exact Or.inl (Or.inl (hcl v a (by omega) z hz))
            · rw [a] at hl; omega
            · exact Or.inr ⟨j, t, b1, b2, b3.trans hz⟩)
          rw [show (((d + 1 : Nat)) : Int) = (d : Int) + 1 by omega] at hh
          refine Ok.b1 hh (fun M6 ⟨b1, b2, b3⟩ => ?_)
          rw [w_id (a := (i : Int) + 1) (by omega)]
          have hnew : ∀ y, (∃ (j t : Nat), j < i ∧ (redL G x)[j]? = some t ∧ rdc G (redV G x t) y) ∨ rdc G (redV G x r) y ↔ ∃ (j t : Nat), j < i + 1 ∧ (redL G x)[j]? = some t ∧ rdc G (redV G x t) y := fun y => by
            constructor
            · rintro (⟨j, t, c1, c2⟩ | a)
              · exact ⟨j, t, by omega, c2⟩
              · exact ⟨i, r, by omega, hg, a⟩
            · rintro ⟨j, t, c1, c2, c3⟩
              by_cases e : j = i
              · rw [e, hg] at c2; cases c2; exact Or.inr c3
              · exact Or.inl ⟨j, t, by omega, c2, c3⟩
          refine Ok.lett (Ok.ret ⟨⟨i + 1, by show (i : Int) + 1 = _; omega, by omega, b1.congr (fun y => by rw [← hnew y]; exact or_assoc) (fun y hnf => ?_) (fun y a => ?_), i4.trans (b2.mono (fun b q => by unfold nfA at q ⊢; omega)), fun k hk => (b3 k hk).trans (i5 k hk), ?_⟩, by show (300 - ((i : Int) + 1)).toNat < (300 - (i : Int)).toNat; omega⟩)
          · rw [← hnew y]
            constructor
            · rintro (((a | a) | a) | a)
              · exact Or.inl a
              · rw [a] at hnf; exact absurd hp (hnf r)
              · exact Or.inr (Or.inl a)
              · exact Or.inr (Or.inr a)
            · rintro (a | a | a)
              · exact Or.inl (Or.inl (Or.inl a))
              · exact Or.inl (Or.inr a)
              · exact Or.inr a
          · rcases a with a | a
            · exact Or.inl (Or.inl a)
            · exact Or.inr a
          · show rowl (M6 (30 + d)) _
            rw [b2.1 (30 + d) (by unfold nfA; omega) (Or.inl (by omega))]
            exact i6
        · have hall : ∀ y, (∃ (j t : Nat), j < i ∧ (redL G x)[j]? = some t ∧ rdc G (redV G x t) y) ↔ ∃ t, redP G x t ∧ rdc G (redV G x t) y := fun y => by
            constructor
            · rintro ⟨j, t, _, c2, c3⟩
              exact ⟨t, (mem_redL hG).mp (List.mem_of_getElem? c2), c3⟩
            · rintro ⟨t, c2, c3⟩
              obtain ⟨j, hj⟩ := List.mem_iff_getElem?.mp ((mem_redL hG).mpr c2)
              have := (List.getElem?_eq_some_iff.mp hj).1
              exact ⟨j, t, by omega, hj, c3⟩
          have hx2 : ∀ y, (∃ t, redP G x t ∧ rdc G (redV G x t) y) ↔ y ≠ x ∧ rdc G x y := fun y => by
            constructor
            · rintro ⟨t, c2, c3⟩
              have q1 := c3.r hG (redV_r hG c2).1
              have q2 := redV_r hG c2
              exact ⟨fun e => by rw [e] at q1; omega, (rdc.self.step c2).trans c3⟩
            · rintro ⟨c1, c2⟩
              rcases c2.first with e | a
              · exact absurd e c1
              · exact a
          refine i3.congr (fun y => ?_) (fun y _ => by rw [hall y, hx2 y]) (fun y a => a.elim Or.inl (fun b => Or.inr b.2))
          rw [hall y, hx2 y]
          constructor
          · rintro ((a | a) | a)
            · exact Or.inl a
            · rw [a]; exact Or.inr rdc.self
            · exact Or.inr a.2
          · rintro (a | a)
            · exact Or.inl (Or.inl a)
            · by_cases e : y = x
              · exact Or.inl (Or.inr e)
              · exact Or.inr ⟨e, a⟩
      · intro M4 ⟨c1, c2, c3⟩
        obtain ⟨g1, g2, g3, g4, g5, w2, g6, g7, g8, g9⟩ := id c1
        unfold F_X5_visit_J92
        refine Ok.ite (fun q1 => ?_) (fun q1 => Ok.ret ⟨c1.congr (fun y => Iff.rfl) (fun y hnf => ⟨fun a => a.elim Or.inl (fun b => Or.inr b.2), fun a => ?_⟩) (fun y a => a), c2, c3⟩)
        · have hnfx : nf G x := (redL_nf hG).mp (by omega)
          have hxw : x ∉ w2 := fun a => by
            rcases ((g9 x).mp a).1 with b | b
            · exact hnx b
            · exact b.1 rfl
          have h512 : (x :: w2).length ≤ 512 := rdc_512 hG hx0 (List.nodup_cons.mpr ⟨hxw, nf_nd g8⟩) (fun y hy => by
            rcases List.mem_cons.mp hy with e | e
            · rw [e]; exact hr0
            · exact g4 y (g5 y ((g9 y).mp e).1))
          rw [List.length_cons] at h512
          rw [g7]
          obtain ⟨k1, k2⟩ := xk hF 26 20 512 rfl
          refine Ok.pos (by omega) (Ok.b1 (FX6_putInOrder k1 (by rw [k2]; decide) (by rw [k2]; omega) g6 rfl (pw_le g8)) (fun M5 ⟨⟨p, hp, hr⟩, hf⟩ => Ok.lett (Ok.ret ?_)))
          have e25 : M5 25 = M4 25 := hf 25 (by decide)
          have e27 : M5 27 = M4 27 := hf 27 (by decide)
          have hli := len_inl (v := x) hp.1
          rw [e25, g7, w_id (a := (w2.length : Int) + 1) (by omega)]
          have hfr5 : cfr (nfA d) S M4 (zs M5 25 1 ((w2.length : Int) + 1)) := by
            refine cfr.trans (M1 := M5) ⟨fun b hb _ => hf b (fun e => hb (Or.inr (Or.inl e))), fun p L R pr q => ?_⟩ (cfr.zs (Or.inl rfl) (by decide))
            have hp := q.1.1
            exact q.same (hf _ (by omega)) (hf _ (by omega)) (hf _ (by omega)) (hf _ (by omega))
          refine ⟨⟨g1.fr hfr5 (by unfold nfA; omega), ?_, fun y hy => ?_, g4, fun y a => a, inl w2 x p, ?_, ?_, pw_inl g8 hxw hp, fun y => ?_⟩, c2.trans hfr5, fun k hk => ?_⟩
          · rw [zs_off _ _ (Or.inr (by decide)), e25]; exact g2
          · rw [zs_ne _ _ _ (by decide), e27]; exact g3 y hy
          · rw [zs_ne _ _ _ (by decide)]; exact hr
          · rw [zs_at, hli]; omega
          · rw [mem_inl, g9 y]
            constructor
            · rintro (⟨a | a, b⟩ | a)
              · exact ⟨Or.inl a, b⟩
              · exact ⟨Or.inr a.2, b⟩
              · rw [a]; exact ⟨Or.inr rdc.self, hnfx⟩
            · rintro ⟨a | a, b⟩
              · exact Or.inl ⟨Or.inl a, b⟩
              · by_cases e : y = x
                · exact Or.inr e
                · exact Or.inl ⟨Or.inr ⟨e, a⟩, b⟩
          · rw [zs_off _ _ (Or.inr hk), e25]; exact c3 k hk
        · rcases a with a | a
          · exact Or.inl a
          · refine Or.inr ⟨fun e => ?_, a⟩
            rw [e] at hnf
            have := (redL_nf hG).mpr hnf
            omega
