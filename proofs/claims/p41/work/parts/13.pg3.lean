/-! PURE 63: removeContext, the class's side -/
theorem grok_er {G : zGr} {i : Nat} (h : grok G) : grok (G.1, G.2.1, G.2.2.eraseIdx i) := ⟨h.1, h.2.1, Nat.le_trans (List.length_eraseIdx_le G.2.2 i) h.2.2.1, fun c hc => h.2.2.2 c ((List.eraseIdx_sublist G.2.2 i).subset hc)⟩
section
variable {B : Int} {G : zGr} {ax : List Int} {cur : Int} {R : zRst} {M : zM} {S : zS}
theorem CX_dropC {t : Nat} (hC : clsW B G ax cur R M S) (ht : t < G.2.2.length) : Ok (F_X2_dropContext (t : Int) M S) (fun r => sRef 7 S r.2 ∧ (∀ j : Nat, j < 5 → zrf r.2 7 j = if t ≤ j then (if j + 1 < 5 then zrf S 7 ((j : Int) + 1) else 0) else zrf S 7 j) ∧ r.1 = zs M 5 3 ((G.2.2.length : Int) - 1)) := by
  have h5 := hC.2.1.1.2.2.1
  have g1 := hC.2.2.1.1
  have f1 := hC.2.2.2.1.1
  unfold F_X2_dropContext F_X2_dropContext_L2
  refine Ok.loop (fun z => ∃ k : Nat, z.1 = k ∧ t ≤ k ∧ k ≤ 5 ∧ sRef 7 S z.2 ∧ ∀ j : Nat, j < 5 → zrf z.2 7 j = if t ≤ j ∧ j < k then (if j + 1 < 5 then zrf S 7 ((j : Int) + 1) else 0) else zrf S 7 j) (fun z => (100 - z.1).toNat) (fun S2 => sRef 7 S S2 ∧ ∀ j : Nat, j < 5 → zrf S2 7 j = if t ≤ j then (if j + 1 < 5 then zrf S 7 ((j : Int) + 1) else 0) else zrf S 7 j) ⟨t, rfl, Nat.le_refl t, by omega, ⟨rfl, rfl, fun _ _ _ => rfl⟩, fun j hj => by rw [if_neg (by omega)]⟩ (by show (100 - (t : Int)).toNat < zN; rw [zN_v]; omega) ?_ ?_
  · rintro ⟨v2, S2⟩ ⟨k, i1, i2, i3, i4, i5⟩
    dsimp only at i1 i2 i3 i4 i5 ⊢
    subst i1
    unfold F_X2_dropContext_B2
    refine Ok.neg (by omega) (Ok.ite (fun q => ?_) (fun q => Ok.ret ⟨i4, fun j hj => ?_⟩))
    · rw [w_id (a := (k : Int) + 1) (by omega)]
      have hx : F_X2_context ((k : Int) + 1) S2 = some (if k + 1 < 5 then zrf S 7 ((k : Int) + 1) else 0) := by
        unfold F_X2_context F_X2_context_J13
        rw [if_neg (by omega)]
        by_cases e : k + 1 < 5
        · rw [if_pos (by omega), zchk_pos ⟨by omega, by omega⟩, if_pos e]
          have h := i5 (k + 1) e
          rw [if_neg (by omega), show ((k + 1 : Nat) : Int) = (k : Int) + 1 by omega] at h
          rw [h]
        · rw [if_neg (by omega), if_neg e]
      rw [hx]
      simp only [zb1_some]
      have hr : (if k + 1 < 5 then zrf S 7 ((k : Int) + 1) else 0) = 0 ∨ zkd S2 (if k + 1 < 5 then zrf S 7 ((k : Int) + 1) else 0) = 0 := by
        by_cases e : k + 1 < 5
        · rw [if_pos e]
          have z := f1 (k + 1) e
          rw [show ((k + 1 : Nat) : Int) = (k : Int) + 1 by omega] at z
          rcases z with z | z
          · exact Or.inl z
          · refine Or.inr ?_
            unfold zkd
            rw [i4.2.1]
            exact z.1
        · rw [if_neg e]; exact Or.inl rfl
      obtain ⟨v, hv⟩ : ∃ v, v = (if k + 1 < 5 then zrf S 7 ((k : Int) + 1) else 0) := ⟨_, rfl⟩
      rw [← hv] at hr ⊢
      refine Ok.chk ⟨by omega, q⟩ (Ok.chk hr (Ok.lett (Ok.lett (Ok.ret ⟨⟨k + 1, by show (k : Int) + 1 = _; omega, by omega, by omega, ⟨i4.1, i4.2.1, fun a y ha => ?_⟩, fun j hj => ?_⟩, by show (100 - ((k : Int) + 1)).toNat < (100 - (k : Int)).toNat; omega⟩))))
      · show up S2.2.2 7 _ a y = _
        rw [up_ne _ _ ha]
        exact i4.2.2 a y ha
      · show up S2.2.2 7 (up (S2.2.2 7) k v) 7 j = _
        rw [up_eq]
        by_cases e : j = k
        · rw [e, up_eq, if_pos ⟨i2, by omega⟩]; exact hv
        · rw [up_ne _ _ (by omega)]
          refine (i5 j hj).trans ?_
          by_cases e2 : t ≤ j ∧ j < k
          · rw [if_pos e2, if_pos (c := t ≤ j ∧ j < k + 1) (by omega)]
          · rw [if_neg e2, if_neg (c := t ≤ j ∧ j < k + 1) (by omega)]
    · have e5 : k = 5 := by omega
      rw [i5 j hj]
      by_cases e : t ≤ j
      · rw [if_pos ⟨e, by omega⟩, if_pos e]
      · rw [if_neg (by omega), if_neg e]
  · intro S2 ⟨c1, c2⟩
    unfold F_X2_dropContext_J34
    rw [g1, w_id (a := (G.2.2.length : Int) - 1) (by omega)]
    exact Ok.lett (Ok.ret ⟨c1, c2, rfl⟩)
theorem CX_removeContext {t : Nat} (hC : clsW B G ax cur R M S) (ht : t < G.2.2.length) : Ok (zb2 (F_X2_dropContext (t : Int) M S) fun M9 S10 => zb1 (F_X10_grammarChanged M9) fun M13 => some ((Sum.inr () : Nat ⊕ Unit), M13, S10)) (fun r => r.1 = .inr () ∧ clsW B (G.1, G.2.1, G.2.2.eraseIdx t) ax cur R r.2.1 r.2.2 ∧ keepM S M r.2.1 ∧ sRef 7 S r.2.2) := by
  obtain ⟨a1, a2, ⟨g1, g2, g3, g4⟩, ⟨f1, f2⟩, ⟨x1, x2⟩, a6, a7, ⟨n1, n2, n3⟩, r1, r2, r3, r4⟩ := id hC
  have h5 := a2.1.2.2.1
  refine Ok.b2 (CX_dropC hC ht) (fun M1 S2 ⟨b1, b2, b3⟩ => ?_)
  dsimp only at b1 b2 b3
  have eb : ∀ b : Nat, b ≠ 5 → M1 b = M b := fun b h => by rw [b3, zs_ne _ _ _ h]
  have e5 : ∀ k : Int, k ≠ 3 → M1 5 k = M 5 k := fun k h => by rw [b3, zs_off _ _ (Or.inr h)]
  have e53 : M1 5 3 = (G.2.2.length : Int) - 1 := by rw [b3, zs_at]
  clear b3
  have hctx : ∀ p L R pr, ctxok M S p L R pr → ctxok M1 S2 p L R pr := fun p L R pr q => by
    have hp := q.1.1
    exact (q.same (M1 := M1) (eb _ (by omega)) (eb _ (by omega)) (eb _ (by omega)) (eb _ (by omega))).ref b1 (by decide)
  have er : ∀ k : Int, zrf S2 10 k = zrf S 10 k := fun k => b1.2.2 10 k (by decide)
  have hkd : ∀ a, zkd S2 a = zkd S a := fun a => by unfold zkd; rw [b1.2.1]
  have hr2 : refS S2 10 := fun i hi => by rw [er, hkd, b1.1]; exact f2 i hi
  refine Ok.b1 (chg (B := B) (G := (G.1, G.2.1, G.2.2.eraseIdx t)) (ax := ax) (cur := cur) (R := R) (M := M1) (S := S2) (a1.ref b1 (fun k => by cases k <;> rfl)) ⟨grok_er a2.1, a2.2⟩ ⟨?_, by rw [e5 4 (by decide)]; exact g2, by rw [e5 5 (by decide)]; exact g3, fun j L R pr q => ?_⟩ ⟨fun i hi => ?_, hr2⟩ ⟨by rw [e5 2 (by decide)]; exact x1, by rw [eb 6 (by decide)]; exact x2⟩ (by rw [eb 1 (by decide)]; exact a6) (a7.1.fr (by rw [eb 11 (by decide)]) (eb 12 (by decide)) (eb 13 (by decide)) (eb 15 (by decide))) ⟨by rw [eb 25 (by decide)]; exact n1, by rw [eb 25 (by decide), eb 27 (by decide)]; exact n2⟩ ⟨?_, ?_, ?_, fun k hk => ?_⟩) (fun M3 ⟨d1, d2⟩ => Ok.ret ⟨rfl, d1, keepM.trans (fun b h1 h2 => eb b (by omega)) (fun b h1 h2 => d2 b h1 (by rw [b1.1, hkd]; exact h2)), b1⟩)
  · show M1 5 3 = ((G.2.2.eraseIdx t).length : Int)
    rw [e53, List.length_eraseIdx_of_lt ht]; omega
  · have q2 : (G.2.2.eraseIdx t)[j]? = some (L, R, pr) := q
    have hj := (List.getElem?_eq_some_iff.mp q2).1
    rw [List.length_eraseIdx_of_lt ht] at hj
    rw [List.getElem?_eraseIdx] at q2
    rw [b2 j (by omega)]
    by_cases e : j < t
    · rw [if_pos e] at q2
      rw [if_neg (by omega)]
      exact hctx _ _ _ _ (g4 j L R pr q2)
    · rw [if_neg e] at q2
      rw [if_pos (by omega), if_pos (by omega)]
      have h := g4 (j + 1) L R pr q2
      rw [show ((j + 1 : Nat) : Int) = (j : Int) + 1 by omega] at h
      exact hctx _ _ _ _ h
  · rw [b2 i hi, hkd, b1.1]
    by_cases e : t ≤ i
    · rw [if_pos e]
      by_cases e2 : i + 1 < 5
      · rw [if_pos e2]
        have z := f1 (i + 1) e2
        rw [show ((i + 1 : Nat) : Int) = (i : Int) + 1 by omega] at z
        exact z
      · rw [if_neg e2]; exact Or.inl rfl
    · rw [if_neg e]; exact f1 i hi
  · unfold savC gS axS at *
    rw [eb 1 (by decide), eb 8 (by decide), eb 9 (by decide)]
    rcases r1 with b | ⟨b1, G1, ax1, cur1, b2, b3, ⟨c1, c2, c3, c4⟩, b5⟩
    · exact Or.inl b
    · exact Or.inr ⟨b1, G1, ax1, cur1, b2, b3, ⟨c1, c2, c3, fun j L R pr q => by rw [er]; exact hctx _ _ _ _ (c4 j L R pr q)⟩, b5⟩
  · rw [eb 2 (by decide), eb 3 (by decide)]; exact r2
  · rw [eb 1 (by decide)]; exact r3
  · rw [eb (42 + 2 * k) (by omega), eb (43 + 2 * k) (by omega)]
    exact r4 k hk
end
