/-! PURE 38: the class: normal forms kept; confluence -/
def fms (G : zGr) (x : Int) (M : zM) : Prop := rowl (M 26) (wl_ (nfs G x)) ∧ M 25 1 = nfc G x
/-- what holds of the class's NormalForms; B bounds the searches so far -/
def nfI (G : zGr) (ax : List Int) (B : Int) (M : zM) : Prop := (0 ≤ M 25 4 ∧ M 25 4 ≤ B) ∧ (∀ y, wd y → M 27 y ≤ M 25 4) ∧ (M 25 2 = -1 ∨ (wd (M 25 2) ∧ fms G (M 25 2) M)) ∧ (M 25 6 = 0 ∨ (M 25 6 = 1 ∧ conf G ax) ∨ (M 25 6 = 2 ∧ ¬ conf G ax))
/-- the class's note of the only form -/
def ofc (G : zGr) (x v : Int) : Prop := (v = -1 ∧ ∃ a b, a ≠ b ∧ nfs G x a ∧ nfs G x b) ∨ (0 < v ∧ nfs G x (v - 1) ∧ ∀ b, nfs G x b → b = v - 1)
def nfO (d : Nat) (b : Nat) : Prop := b = 28 ∨ (30 + d ≤ b ∧ b ≤ 39)
theorem FX5_onlyForm {G : zGr} {S : zS} (hF : zFx S) (hG : grok G) : ∀ (n k : Nat) (x : Int) (d : Nat) (M : zM), gC M S G → wd x → (d : Int) + ln x ≤ 9 → ln x < n → (∀ y, wd y → M 28 y = 0 ∨ ofc G y (M 28 y)) → Ok (F_GO n k x (d : Int) M S) (fun r => ofc G x r.1 ∧ (∀ y, wd y → r.2 28 y = 0 ∨ ofc G y (r.2 28 y)) ∧ cfr (nfO d) S M r.2) := by
  intro n
  induction n with
  | zero => intro k x d M _ _ _ h; have := ln_b x; omega
  | succ n ih =>
    intro k x d M hC hx hd hn hmem
    have hlx := ln_b x
    have hxa := hx.1
    have hxb := hx.2
    obtain ⟨hrf, hrow⟩ := nrow hF (show d < 10 by omega)
    have hlen := len_redL hG (x := x)
    show Ok (F_X5_onlyForm (F_GO n) x d M S) _
    unfold F_X5_onlyForm
    rw [xat hF 28 29524 rfl hxa hxb]
    simp only [zb1_some]
    refine Ok.ite (fun q => ?_) (fun q => Ok.ret ⟨(hmem x hx).resolve_left q, hmem, cfr.refl⟩)
    refine Ok.neg (by omega) (Ok.pos (by omega) (Ok.chk ⟨by omega, by omega⟩ (Ok.lett ?_)))
    rw [hrf]
    refine Ok.b2 (FX2_findReductions hG hC hx hrow) (fun r1 M3 ⟨a1, a2, a3⟩ => ?_)
    dsimp only at a1 a2 a3
    subst a1
    have a4 : cfr (nfO d) S M M3 := a3.mono (fun b e => Or.inr ⟨by omega, by omega⟩)
    have a28 : ∀ y, wd y → M3 28 y = 0 ∨ ofc G y (M3 28 y) := by rw [a3.1 28 (by omega) (Or.inl (by decide))]; exact hmem
    have main : ∀ t0 : Int, ((t0 = 0 ∧ ¬ nf G x) ∨ (t0 = x + 1 ∧ nf G x)) → Ok (F_X5_onlyForm_J60 (F_GO n) x d (30 + d) ((redL G x).length : Int) t0 M3 S) (fun r => ofc G x r.1 ∧ (∀ y, wd y → r.2 28 y = 0 ∨ ofc G y (r.2 28 y)) ∧ cfr (nfO d) S M r.2) := fun t0 ht => by
      unfold F_X5_onlyForm_J60 F_X5_onlyForm_L65
      refine Ok.loop (fun z => ∃ i : Nat, z.2.1 = i ∧ i ≤ (redL G x).length ∧ cfr (nfO d) S M z.2.2 ∧ (∀ y, wd y → z.2.2 28 y = 0 ∨ ofc G y (z.2.2 28 y)) ∧ rowl (z.2.2 (30 + d)) ((redL G x).map (fun r => mvc (redV G x r) r)) ∧ ((z.1 = 0 ∧ i = 0 ∧ ¬ nf G x) ∨ (z.1 = -1 ∧ ∃ a b, a ≠ b ∧ nfs G x a ∧ nfs G x b) ∨ (0 < z.1 ∧ nfs G x (z.1 - 1) ∧ ∀ (j t : Nat), j < i → (redL G x)[j]? = some t → ∀ b, nfs G (redV G x t) b → b = z.1 - 1))) (fun z => (300 - z.2.1).toNat) (fun e => ofc G x e.1 ∧ (∀ y, wd y → e.2 28 y = 0 ∨ ofc G y (e.2 28 y)) ∧ cfr (nfO d) S M e.2) ⟨0, rfl, Nat.zero_le _, a4, a28, a2, ?_⟩ (by show (300 - (0 : Int)).toNat < zN; decide) ?_ ?_
      · rcases ht with ⟨t1, t2⟩ | ⟨t1, t2⟩
        · exact Or.inl ⟨t1, rfl, t2⟩
        · refine Or.inr (Or.inr ⟨by show 0 < t0; omega, ?_, fun j t hj => absurd hj (Nat.not_lt_zero j)⟩)
          show nfs G x (t0 - 1)
          rw [show t0 - 1 = x by omega]
          exact ⟨rdc.self, t2⟩
      · rintro ⟨v7, v8, M5⟩ ⟨i, i1, i2, i3, i4, i5, i6⟩
        dsimp only at i1 i2 i3 i4 i5 i6 ⊢
        subst i1
        unfold F_X5_onlyForm_B65
        refine Ok.ite (fun c => Ok.ite (fun c1 => Ok.ret ⟨Or.inl ⟨c1, ?_⟩, i4, i3⟩) (fun c1 => ?_)) (fun c => Ok.ret ⟨?_, i4, i3⟩)
        · rcases i6 with a | a | a
          · omega
          · exact a.2
          · omega
        · have hi : i < (redL G x).length := by omega
          have hg := List.getElem?_eq_getElem hi
          generalize (redL G x)[i] = r at hg
          have hp : redP G x r := (mem_redL hG).mp (List.mem_of_getElem? hg)
          have hv := redV_r hG hp
          have h500 : r < 500 := by have := hG.2.2.1; omega
          have hm := mvc_d hv.1 h500
          have hat : M5 (30 + d) i = mvc (redV G x r) r := i5 i _ (by rw [List.getElem?_map, hg]; rfl)
          rw [FX6_at hrow.1 (by omega) (by rw [hrow.2.1]; omega), hat]
          simp only [zb1_some]
          rw [FX4_word hm.2.1 hm.2.2, hm.1, w_id (a := (d : Int) + 1) (by omega)]
          simp only [zb1_some]
          have hh := ih 0 (redV G x r) (d + 1) M5 (hC.fr i3 (by unfold nfO; omega)) hv.1 (by omega) (by omega) i4
          rw [show (((d + 1 : Nat)) : Int) = (d : Int) + 1 by omega] at hh
          refine Ok.b2 hh (fun v M6 ⟨b1, b2, b3⟩ => ?_)
          dsimp only at b1 b2 b3
          have f6 : cfr (nfO d) S M M6 := i3.trans (b3.mono (fun b q => by unfold nfO at q ⊢; omega))
          have r6 : rowl (M6 (30 + d)) ((redL G x).map (fun r => mvc (redV G x r) r)) := by
            rw [b3.1 (30 + d) (by unfold nfO; omega) (Or.inl (by omega))]
            exact i5
          have hup : ∀ b, nfs G (redV G x r) b → nfs G x b := fun b hb => ⟨(rdc.self.step hp).trans hb.1, hb.2⟩
          have go : ∀ u : Int, ((u = -1 ∧ ∃ a b, a ≠ b ∧ nfs G x a ∧ nfs G x b) ∨ (0 < u ∧ nfs G x (u - 1) ∧ ∀ (j t : Nat), j < i + 1 → (redL G x)[j]? = some t → ∀ b, nfs G (redV G x t) b → b = u - 1)) → Ok (F_X5_onlyForm_J116 (F_GO n) x d (30 + d) ((redL G x).length : Int) i u M6 S) (Turn (fun z : Int × Int × zM => ∃ i : Nat, z.2.1 = i ∧ i ≤ (redL G x).length ∧ cfr (nfO d) S M z.2.2 ∧ (∀ y, wd y → z.2.2 28 y = 0 ∨ ofc G y (z.2.2 28 y)) ∧ rowl (z.2.2 (30 + d)) ((redL G x).map (fun r => mvc (redV G x r) r)) ∧ ((z.1 = 0 ∧ i = 0 ∧ ¬ nf G x) ∨ (z.1 = -1 ∧ ∃ a b, a ≠ b ∧ nfs G x a ∧ nfs G x b) ∨ (0 < z.1 ∧ nfs G x (z.1 - 1) ∧ ∀ (j t : Nat), j < i → (redL G x)[j]? = some t → ∀ b, nfs G (redV G x t) b → b = z.1 - 1))) (fun z => (300 - z.2.1).toNat) (fun e : Int × zM => ofc G x e.1 ∧ (∀ y, wd y → e.2 28 y = 0 ∨ ofc G y (e.2 28 y)) ∧ cfr (nfO d) S M e.2) (v7, (i : Int), M5)) := fun u hu => by
            unfold F_X5_onlyForm_J116
            rw [w_id (a := (i : Int) + 1) (by omega)]
            exact Ok.lett (Ok.ret ⟨⟨i + 1, by show (i : Int) + 1 = _; omega, by omega, f6, b2, r6, Or.inr hu⟩, by show (300 - ((i : Int) + 1)).toNat < (300 - (i : Int)).toNat; omega⟩)
          have take : (v7 = 0 ∨ v7 = v) → (v = -1 ∧ ∃ a b, a ≠ b ∧ nfs G x a ∧ nfs G x b) ∨ (0 < v ∧ nfs G x (v - 1) ∧ ∀ (j t : Nat), j < i + 1 → (redL G x)[j]? = some t → ∀ b, nfs G (redV G x t) b → b = v - 1) := fun hc => by
            rcases b1 with ⟨d1, a, b, d2, d3, d4⟩ | ⟨d1, d2, d3⟩
            · exact Or.inl ⟨d1, a, b, d2, hup a d3, hup b d4⟩
            · refine Or.inr ⟨d1, hup _ d2, fun j t hj ht b hb => ?_⟩
              by_cases e : j = i
              · rw [e, hg] at ht; cases ht; exact d3 b hb
              · rcases i6 with a | a | a
                · omega
                · exact absurd a.1 c1
                · rcases hc with hc | hc
                  · omega
                  · rw [← hc]; exact a.2.2 j t (by omega) ht b hb
          have tj : ∀ u, Ok (F_X5_onlyForm_J116 (F_GO n) x d (30 + d) ((redL G x).length : Int) i u M6 S) (Turn (fun z : Int × Int × zM => ∃ i : Nat, z.2.1 = i ∧ i ≤ (redL G x).length ∧ cfr (nfO d) S M z.2.2 ∧ (∀ y, wd y → z.2.2 28 y = 0 ∨ ofc G y (z.2.2 28 y)) ∧ rowl (z.2.2 (30 + d)) ((redL G x).map (fun r => mvc (redV G x r) r)) ∧ ((z.1 = 0 ∧ i = 0 ∧ ¬ nf G x) ∨ (z.1 = -1 ∧ ∃ a b, a ≠ b ∧ nfs G x a ∧ nfs G x b) ∨ (0 < z.1 ∧ nfs G x (z.1 - 1) ∧ ∀ (j t : Nat), j < i → (redL G x)[j]? = some t → ∀ b, nfs G (redV G x t) b → b = z.1 - 1))) (fun z => (300 - z.2.1).toNat) (fun e : Int × zM => ofc G x e.1 ∧ (∀ y, wd y → e.2 28 y = 0 ∨ ofc G y (e.2 28 y)) ∧ cfr (nfO d) S M e.2) (v7, (i : Int), M5)) → Ok (F_X5_onlyForm_J110 (F_GO n) x d (30 + d) ((redL G x).length : Int) i u M6 S) (Turn (fun z : Int × Int × zM => ∃ i : Nat, z.2.1 = i ∧ i ≤ (redL G x).length ∧ cfr (nfO d) S M z.2.2 ∧ (∀ y, wd y → z.2.2 28 y = 0 ∨ ofc G y (z.2.2 28 y)) ∧ rowl (z.2.2 (30 + d)) ((redL G x).map (fun r => mvc (redV G x r) r)) ∧ ((z.1 = 0 ∧ i = 0 ∧ ¬ nf G x) ∨ (z.1 = -1 ∧ ∃ a b, a ≠ b ∧ nfs G x a ∧ nfs G x b) ∨ (0 < z.1 ∧ nfs G x (z.1 - 1) ∧ ∀ (j t : Nat), j < i → (redL G x)[j]? = some t → ∀ b, nfs G (redV G x t) b → b = z.1 - 1))) (fun z => (300 - z.2.1).toNat) (fun e : Int × zM => ofc G x e.1 ∧ (∀ y, wd y → e.2 28 y = 0 ∨ ofc G y (e.2 28 y)) ∧ cfr (nfO d) S M e.2) (v7, (i : Int), M5)) := fun u h => by
            unfold F_X5_onlyForm_J110
            exact h
          refine Ok.ite (fun c2 => tj v (go v (take (Or.inl c2)))) (fun c2 => Ok.ite (fun c3 => tj v (go v (take (Or.inr c3)))) (fun c3 => go (-1) (Or.inl ⟨rfl, ?_⟩)))
          rcases i6 with a | a | a
          · exact absurd a.1 c2
          · exact absurd a.1 c1
          · rcases b1 with ⟨d1, a2, b, d2, d3, d4⟩ | ⟨d1, d2, d3⟩
            · exact ⟨a2, b, d2, hup a2 d3, hup b d4⟩
            · exact ⟨v7 - 1, v - 1, by omega, a.2.1, hup _ d2⟩
        · rcases i6 with ⟨a1, a2, a3⟩ | a | ⟨a1, a2, a3⟩
          · exact absurd ((redL_nf hG).mp (by omega)) a3
          · exact Or.inl a
          · refine Or.inr ⟨a1, a2, fun b hb => ?_⟩
            rcases hb.1.first with e | ⟨t, e1, e2⟩
            · by_cases hnf : nf G x
              · rcases a2.1.first with e3 | ⟨t, e3, _⟩
                · omega
                · exact absurd e3 (hnf t)
              · rw [e] at hb; exact absurd hb.2 hnf
            · obtain ⟨j, hj⟩ := List.mem_iff_getElem?.mp ((mem_redL hG).mpr e1)
              have := (List.getElem?_eq_some_iff.mp hj).1
              exact a3 j t (by omega) hj b ⟨e2, hb.2⟩
      · rintro ⟨v7, M5⟩ ⟨e1, e2, e3⟩
        dsimp only at e1 e2 e3 ⊢
        unfold F_X5_onlyForm_J124
        rw [xput hF 28 29524 rfl hxa hxb]
        simp only [zb1_some]
        refine Ok.ret ⟨e1, fun y hy => ?_, e3.trans (cfr.zs (Or.inl rfl) (by decide))⟩
        show zs M5 28 x v7 28 y = 0 ∨ ofc G y (zs M5 28 x v7 28 y)
        by_cases e : y = x
        · rw [e, zs_at]; exact Or.inr e1
        · rw [zs_off _ _ (Or.inr e)]; exact e2 y hy
    refine Ok.ite (fun c => ?_) (fun c => main 0 (Or.inl ⟨rfl, fun a => c (by have := (redL_nf hG).mpr a; omega)⟩))
    rw [w_id (a := x + 1) (by omega)]
    exact main (x + 1) (Or.inr ⟨rfl, (redL_nf hG).mp (by omega)⟩)
