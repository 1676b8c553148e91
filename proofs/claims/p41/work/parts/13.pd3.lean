/-! PURE 39: the class: confluence -/
theorem FX3_wordAt {M : zM} {S : zS} {G : zGr} {ax : List Int} {i : Nat} {y : Int} (hF : zFx S) (hL : lang1 G ax M) (hi : (wl_ (lcA G ax))[i]? = some y) : F_X3_wordAt (i : Int) M S = some y := by
  have hlt := (List.getElem?_eq_some_iff.mp hi).1
  have h300 := hL.2.1
  unfold F_X3_wordAt
  rw [xat hF 12 300 rfl (by omega) (by omega), hL.2.2.1 i y hi]
  rfl
def nfC (b : Nat) : Prop := b = 25 ∨ b = 28 ∨ (30 ≤ b ∧ b ≤ 39)
theorem nfI.fr {G : zGr} {ax : List Int} {B : Int} {M M1 : zM} (h : nfI G ax B M) (e25 : M1 25 = M 25) (e26 : M1 26 = M 26) (e27 : M1 27 = M 27) : nfI G ax B M1 := by
  unfold nfI fms at *
  rw [e25, e26, e27]
  exact h
theorem FX5_areSingle {M : zM} {S : zS} {G : zGr} {ax : List Int} {B : Int} (hF : zFx S) (hG : grok G) (hax : axok ax) (hC : gC M S G) (hL : lang1 G ax M) (h : nfI G ax B M) : Ok (F_X5_areSingle M S) (fun r => nfI G ax B r.2 ∧ tv r.1 (conf G ax) ∧ cfr nfC S M r.2) := by
  have j64 : ∀ M1 : zM, ((M1 25 6 = 1 ∧ conf G ax) ∨ (M1 25 6 = 2 ∧ ¬ conf G ax)) → nfI G ax B M1 → cfr nfC S M M1 → Ok (F_X5_areSingle_J64 M1 S) (fun r => nfI G ax B r.2 ∧ tv r.1 (conf G ax) ∧ cfr nfC S M r.2) := fun M1 a1 a2 a3 => by
    unfold F_X5_areSingle_J64
    refine Ok.ite (fun q => Ok.ret ⟨a2, tv_t ?_, a3⟩) (fun q => Ok.ret ⟨a2, tv_f ?_, a3⟩)
    · rcases a1 with a | a
      · exact a.2
      · omega
    · rcases a1 with a | a
      · omega
      · exact a.2
  unfold F_X5_areSingle
  refine Ok.ite (fun q => ?_) (fun q => j64 M (h.2.2.2.resolve_left q) h cfr.refl)
  obtain ⟨k1, k2⟩ := xk hF 28 20 29524 rfl
  refine Ok.b1 (FJ7_fill k1 (by rw [k2]; decide) (by rw [k2]; decide)) (fun M1 ⟨a1, a2⟩ => Ok.lett ?_)
  rw [k2] at a1
  have hf1 : cfr nfC S M (zs M1 25 6 1) := by
    refine cfr.trans (M1 := M1) ⟨fun b hb _ => a2 b (fun e => hb (Or.inr (Or.inl e))), fun p L R pr q => ?_⟩ (cfr.zs (Or.inl rfl) (by decide))
    have hp := q.1.1
    exact q.same (a2 _ (by omega)) (a2 _ (by omega)) (a2 _ (by omega)) (a2 _ (by omega))
  have hk6 : zs M1 25 6 1 25 6 = 1 := zs_at M1 25 6 1
  have hk : ∀ k : Int, k ≠ 6 → zs M1 25 6 1 25 k = M 25 k := fun k hk => by rw [zs_off _ _ (Or.inr hk), a2 25 (by decide)]
  have h28 : ∀ y, wd y → zs M1 25 6 1 28 y = 0 ∨ ofc G y (zs M1 25 6 1 28 y) := fun y hy => Or.inl (by rw [zs_ne _ _ _ (by decide)]; exact a1 y hy.1 hy.2)
  generalize zs M1 25 6 1 = M2 at hf1 hk6 hk h28 ⊢
  unfold F_X5_areSingle_L22
  have l1 := hL.1
  have l300 := hL.2.1
  refine Ok.loop (fun z => ∃ i : Nat, z.1 = i ∧ i ≤ (wl_ (lcA G ax)).length ∧ cfr nfC S M z.2 ∧ (∀ k, k ≠ 6 → z.2 25 k = M 25 k) ∧ (∀ y, wd y → z.2 28 y = 0 ∨ ofc G y (z.2 28 y)) ∧ ((z.2 25 6 = 1 ∧ ∀ y ∈ (wl_ (lcA G ax)).take i, ∀ a b, nfs G y a → nfs G y b → a = b) ∨ (z.2 25 6 = 2 ∧ ¬ conf G ax))) (fun z => (400 - z.1).toNat) (fun M3 => cfr nfC S M M3 ∧ (∀ k, k ≠ 6 → M3 25 k = M 25 k) ∧ ((M3 25 6 = 1 ∧ conf G ax) ∨ (M3 25 6 = 2 ∧ ¬ conf G ax))) ⟨0, rfl, Nat.zero_le _, hf1, hk, h28, Or.inl ⟨hk6, fun y hy => by simp at hy⟩⟩ (by show (400 - (0 : Int)).toNat < zN; decide) ?_ ?_
  · rintro ⟨v3, M3⟩ ⟨i, i1, i2, i3, i4, i5, i6⟩
    dsimp only at i1 i2 i3 i4 i5 i6 ⊢
    subst i1
    have e11 : M3 11 = M 11 := i3.1 11 (by unfold nfC; omega) (Or.inl (by decide))
    have hL3 : lang1 G ax M3 := hL.fr2 (by rw [e11]) (i3.1 12 (by unfold nfC; omega) (Or.inl (by decide))) (i3.1 13 (by unfold nfC; omega) (Or.inl (by decide))) (i3.1 14 (by unfold nfC; omega) (Or.inl (by decide))) (i3.1 15 (by unfold nfC; omega) (Or.inl (by decide))) (i3.1 17 (by unfold nfC; omega) (Or.inl (by decide)))
    unfold F_X5_areSingle_B22
    rw [e11, l1]
    refine Ok.ite (fun c => Ok.ite (fun c1 => ?_) (fun c1 => Ok.ret ⟨i3, i4, ?_⟩)) (fun c => Ok.ret ⟨i3, i4, ?_⟩)
    · have hi : i < (wl_ (lcA G ax)).length := by omega
      have hg := List.getElem?_eq_getElem hi
      have htk : (wl_ (lcA G ax)).take (i + 1) = (wl_ (lcA G ax)).take i ++ [(wl_ (lcA G ax))[i]] := List.take_succ_eq_append_getElem hi
      generalize (wl_ (lcA G ax))[i] = y at hg htk
      obtain ⟨_, hwy, hDy⟩ := wl_idx hg
      rw [FX3_wordAt hF hL3 hg]
      simp only [zb1_some]
      have hh := FX5_onlyForm hF hG 40 0 y 0 M3 (hC.fr i3 (by unfold nfC; omega)) hwy (by have := ln_b y; omega) (by have := ln_b y; omega) i5
      refine Ok.b2 hh (fun v M6 ⟨b1, b2, b3⟩ => ?_)
      dsimp only at b1 b2 b3
      have f6 : cfr nfC S M M6 := i3.trans (b3.mono (fun b q => by unfold nfO at q; unfold nfC; omega))
      have e25 : M6 25 = M3 25 := b3.1 25 (by unfold nfO; omega) (Or.inl (by decide))
      have go : ∀ M7 : zM, cfr nfC S M M7 → (∀ k, k ≠ 6 → M7 25 k = M 25 k) → (∀ y, wd y → M7 28 y = 0 ∨ ofc G y (M7 28 y)) → ((M7 25 6 = 1 ∧ ∀ y ∈ (wl_ (lcA G ax)).take (i + 1), ∀ a b, nfs G y a → nfs G y b → a = b) ∨ (M7 25 6 = 2 ∧ ¬ conf G ax)) → Ok (F_X5_areSingle_J58 i M7 S) (Turn (fun z : Int × zM => ∃ i : Nat, z.1 = i ∧ i ≤ (wl_ (lcA G ax)).length ∧ cfr nfC S M z.2 ∧ (∀ k, k ≠ 6 → z.2 25 k = M 25 k) ∧ (∀ y, wd y → z.2 28 y = 0 ∨ ofc G y (z.2 28 y)) ∧ ((z.2 25 6 = 1 ∧ ∀ y ∈ (wl_ (lcA G ax)).take i, ∀ a b, nfs G y a → nfs G y b → a = b) ∨ (z.2 25 6 = 2 ∧ ¬ conf G ax))) (fun z => (400 - z.1).toNat) (fun M3 : zM => cfr nfC S M M3 ∧ (∀ k, k ≠ 6 → M3 25 k = M 25 k) ∧ ((M3 25 6 = 1 ∧ conf G ax) ∨ (M3 25 6 = 2 ∧ ¬ conf G ax))) ((i : Int), M3)) := fun M7 c1 c2 c3 c4 => by
        unfold F_X5_areSingle_J58
        rw [w_id (a := (i : Int) + 1) (by omega)]
        exact Ok.lett (Ok.ret ⟨⟨i + 1, by show (i : Int) + 1 = _; omega, by omega, c1, c2, c3, c4⟩, by show (400 - ((i : Int) + 1)).toNat < (400 - (i : Int)).toNat; omega⟩)
      refine Ok.ite (fun c2 => Ok.lett (go _ (f6.trans (cfr.zs (Or.inl rfl) (by decide))) (fun k hk => by rw [zs_off _ _ (Or.inr hk), e25]; exact i4 k hk) (fun z hz => by rw [zs_ne _ _ _ (by decide)]; exact b2 z hz) (Or.inr ⟨zs_at M6 25 6 2, fun hc => ?_⟩))) (fun c2 => go M6 f6 (fun k hk => by rw [e25]; exact i4 k hk) b2 (Or.inl ⟨by rw [e25]; exact c1, fun z hz a b ha hb => ?_⟩))
      · rcases b1 with ⟨_, a, b, d1, d2, d3⟩ | ⟨d1, _⟩
        · exact d1 (hc y hDy a b d2 d3)
        · omega
      · rw [htk, List.mem_append, List.mem_singleton] at hz
        rcases hz with hz | hz
        · rcases i6 with a6 | a6
          · exact a6.2 z hz a b ha hb
          · omega
        · subst hz
          rcases b1 with ⟨d1, _⟩ | ⟨_, _, d3⟩
          · exact absurd d1 c2
          · rw [d3 a ha, d3 b hb]
    · rcases i6 with a | a
      · exact absurd a.1 c1
      · exact Or.inr a
    · rcases i6 with a | a
      · refine Or.inl ⟨a.1, fun y hy => a.2 y ?_⟩
        rw [List.take_of_length_le (by omega)]
        exact mem_wl.mpr ⟨(lc_wd hG hax hy).1, hy⟩
      · exact Or.inr a
  · intro M3 ⟨c1, c2, c3⟩
    have e26 : M3 26 = M 26 := c1.1 26 (by unfold nfC; omega) (Or.inl (by decide))
    have e27 : M3 27 = M 27 := c1.1 27 (by unfold nfC; omega) (Or.inl (by decide))
    refine j64 M3 c3 ?_ c1
    unfold nfI fms at h ⊢
    rw [c2 4 (by decide), c2 2 (by decide), c2 1 (by decide), e26, e27]
    refine ⟨h.1, h.2.1, h.2.2.1, ?_⟩
    rcases c3 with a | a
    · exact Or.inr (Or.inl a)
    · exact Or.inr (Or.inr a)
