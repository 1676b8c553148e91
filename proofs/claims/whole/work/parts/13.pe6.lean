/-! PURE 48: the law's steps: a step of the best derivation; the word's letters; counts -/
def mnSt (G : zGr) (ax : List Int) (cur t p c v k : Int) : Prop := k = cur ∧ ((¬ (0 ≤ p ∧ p ≤ 2) ∧ c = 1) ∨ ((0 ≤ p ∧ p ≤ 2) ∧ ((¬ fewA G ax ∧ c = 2) ∨ (fewA G ax ∧ ¬ lcA G ax cur ∧ c = 3) ∨ (fewA G ax ∧ lcA G ax cur ∧ ∃ (kk : Nat) (b : Int), bestA G ax cur kk b ∧ ((¬ (0 ≤ t ∧ t < (kk : Int)) ∧ c = 4) ∨ ∃ s : Nat, t = s ∧ s < kk ∧ c = 0 ∧ ∃ q, drv G cur kk b s q ∧ v = prt q p)))))
theorem mnSt.fnl {G : zGr} {ax : List Int} {cur t p : Int} : fnl (mnSt G ax cur t p) := by
  rintro c v k c2 v2 k2 ⟨a0, a⟩ ⟨b0, b⟩
  have hk : k = k2 := by omega
  rcases a with ⟨a1, a2⟩ | ⟨a1, a⟩
  · rcases b with ⟨b1, b2⟩ | ⟨b1, b⟩
    · exact ⟨by omega, fun q => by omega, hk⟩
    · exact absurd b1 a1
  · rcases b with ⟨b1, b2⟩ | ⟨b1, b⟩
    · exact absurd a1 b1
    · rcases a with ⟨a2, a3⟩ | ⟨a2, a3, a4⟩ | ⟨a2, a3, kk, bb, a4, a⟩
      · rcases b with ⟨b2, b3⟩ | ⟨b2, b3, b4⟩ | ⟨b2, b3, kk2, bb2, b4, b⟩
        · exact ⟨by omega, fun q => by omega, hk⟩
        · exact absurd b2 a2
        · exact absurd b2 a2
      · rcases b with ⟨b2, b3⟩ | ⟨b2, b3, b4⟩ | ⟨b2, b3, kk2, bb2, b4, b⟩
        · exact absurd a2 b2
        · exact ⟨by omega, fun q => by omega, hk⟩
        · exact absurd b3 a3
      · rcases b with ⟨b2, b3⟩ | ⟨b2, b3, b4⟩ | ⟨b2, b3, kk2, bb2, b4, b⟩
        · exact absurd a2 b2
        · exact absurd a3 b3
        · obtain ⟨e1, e2⟩ := a4.eq b4
          subst e1 e2
          rcases a with ⟨a5, a6⟩ | ⟨s, a5, a6, a7, q, a8, a9⟩
          · rcases b with ⟨b5, b6⟩ | ⟨s2, b5, b6, b7, q2, b8, b9⟩
            · exact ⟨by omega, fun q => by omega, hk⟩
            · exact absurd ⟨by omega, by omega⟩ a5
          · rcases b with ⟨b5, b6⟩ | ⟨s2, b5, b6, b7, q2, b8, b9⟩
            · exact absurd ⟨by omega, by omega⟩ b5
            · have es : s = s2 := by omega
              subst es
              have eq := a8.eq b8
              subst eq
              exact ⟨by omega, fun _ => by omega, hk⟩
section
variable {B : Int} {G : zGr} {ax : List Int} {cur : Int} {R : zRst} {M : zM} {S : zS} {ln v5 : Int} {scr : Int → Int} {P : (Int × zM × zS) ⊕ (zM × zS) → Prop}
theorem L_derivationStep (hC : clsW B G ax cur R M S) (hM : mdlW G ax cur R M) (hb : (0 : Int) ≤ w (v5 + 1) ∧ w (v5 + 1) < ln) (hb2 : (0 : Int) ≤ w (v5 + 2) ∧ w (v5 + 2) < ln) (hn : lxt B G ax R ln scr v5 P) : Ok (F_L_law_J1293 ln scr v5 M S) P := by
  unfold F_L_law_J1293 F_L_law_J1358
  simp only [zchk_pos hb, zchk_pos hb2]
  generalize scr (w (v5 + 1)) = t
  generalize scr (w (v5 + 2)) = p
  refine blkV (mnSt.fnl (G := G) (ax := ax) (cur := cur) (t := t) (p := p)) hC hM ?_ (fun M1 hst hM1 => MX hM1 ((FX11_derivationStep (t := t) (p := p) hst).mono (fun r a => ⟨a.1, rfl, ?_⟩))) hn
  · unfold F_L_derivationStep
    refine wrapV (V := fun r k => k = cur ∧ ((¬ (0 ≤ p ∧ p ≤ 2) ∧ r = .inl 1) ∨ ((0 ≤ p ∧ p ≤ 2) ∧ ((¬ fewA G ax ∧ r = .inl 3) ∨ (fewA G ax ∧ ¬ lcA G ax cur ∧ r = .inl 4) ∨ (fewA G ax ∧ lcA G ax cur ∧ ∃ (kk : Nat) (b : Int), bestA G ax cur kk b ∧ ((¬ (0 ≤ t ∧ t < (kk : Int)) ∧ r = .inl 2) ∨ ∃ s : Nat, t = s ∧ s < kk ∧ ∃ q, drv G cur kk b s q ∧ r = .inr (prt q p))))))) ?_ (fun e k M S ⟨q0, q⟩ => ?_) (fun a k ⟨q0, q⟩ => ?_)
    · unfold F_X10_derivationStep F_X10_derivationStep_J9
      refine Ok.ite (fun c => Ok.ret ⟨cur, hC.zer _, keepM.refl, rfl, Or.inl ⟨by omega, rfl⟩⟩) (fun c => Ok.ite (fun c1 => Ok.ret ⟨cur, hC.zer _, keepM.refl, rfl, Or.inl ⟨by omega, rfl⟩⟩) (fun c1 => ?_))
      have hp : 0 ≤ p ∧ p ≤ 2 := ⟨by omega, by omega⟩
      refine CX_q hC (fun f => ⟨rfl, Or.inr ⟨hp, Or.inl ⟨f, rfl⟩⟩⟩) (fun M1 b1 b2 b3 b4 b5 => ?_)
      obtain ⟨p1, p2, p3⟩ := pos_place b2 b3.1
      unfold F_X10_requirePlace
      rw [p1]
      simp only [zb1_some]
      by_cases u : lcA G ax cur
      · have hq := p2 u
        rw [if_neg (by omega), zbx_inr, hq.1, FX3_derivationSteps b2.1 hq.2]
        simp only [zb1_some]
        obtain ⟨kk, b, e1, e2, e3, e4⟩ := bfs_best b3.2.2.2.2.1 u
        rw [e1]
        refine CX_i b2 b5 (fun f => ⟨rfl, Or.inr ⟨hp, Or.inr (Or.inr ⟨b1, u, kk, b, e2, Or.inl ⟨f, rfl⟩⟩)⟩⟩) (fun hi => ?_)
        obtain ⟨s, hs⟩ : ∃ s : Nat, t = s := ⟨t.toNat, by omega⟩
        subst hs
        have hG := hC.2.1.1
        have hwb := (lc_wd hG hC.2.1.2.1 e2.1).1
        have hk9 := pth_9 hG hwb e2.2.2.1
        have hit : ∀ j, j ≤ kk → 0 ≤ itr M1 (pos (lcA G ax) cur) j ∧ itr M1 (pos (lcA G ax) cur) j < 300 := fun j hj => by
          obtain ⟨cc, d1, d2⟩ := e3 j hj
          rw [d2]
          have := pos_lt (lc_wd hG hC.2.1.2.1 d1).1 d1
          have := b3.1.2.1
          omega
        rw [FX3_derivationMove b2.1 e1 (by omega) (by omega) hit]
        simp only [zb1_some]
        obtain ⟨q, ⟨xx, d1, d2⟩, d3, d4⟩ := e4 s (by omega)
        have h500 := insP_500 hG (lc_wd hG hC.2.1.2.1 d2).1 d1
        have hi2 := hit (kk - 1 - s) (by omega)
        rw [d4, FX4_context ⟨hi2.1, by omega⟩ h500, FX4_start ⟨hi2.1, by omega⟩ h500, FX4_end ⟨hi2.1, by omega⟩ h500]
        simp only [zb1_some]
        have fin : ∀ v : Int, v = prt q p → Ok (some ((Sum.inr v : Nat ⊕ Int), M1, S)) (clsX B G ax R M (fun r k => k = cur ∧ ((¬ (0 ≤ p ∧ p ≤ 2) ∧ r = .inl 1) ∨ ((0 ≤ p ∧ p ≤ 2) ∧ ((¬ fewA G ax ∧ r = .inl 3) ∨ (fewA G ax ∧ ¬ lcA G ax cur ∧ r = .inl 4) ∨ (fewA G ax ∧ lcA G ax cur ∧ ∃ (kk : Nat) (b : Int), bestA G ax cur kk b ∧ ((¬ (0 ≤ (s : Int) ∧ (s : Int) < (kk : Int)) ∧ r = .inl 2) ∨ ∃ s2 : Nat, (s : Int) = s2 ∧ s2 < kk ∧ ∃ q, drv G cur kk b s2 q ∧ r = .inr (prt q p)))))))) := fun v hv => Ok.ret ⟨cur, b2, b5, rfl, Or.inr ⟨hp, Or.inr (Or.inr ⟨b1, u, kk, b, e2, Or.inr ⟨s, rfl, by omega, q, d3, by rw [hv]⟩⟩)⟩⟩
        unfold prt at fin
        refine Ok.ite (fun z => fin _ (by rw [if_pos z])) (fun z => Ok.ite (fun z1 => fin _ (by rw [if_neg z, if_pos z1])) (fun z1 => fin _ (by rw [if_neg z, if_neg z1])))
      · rw [if_pos (by have := p3 u; omega), zbx_inl]
        exact Ok.ret ⟨cur, b2.zer _, b5, rfl, Or.inr ⟨hp, Or.inr (Or.inl ⟨b1, u, rfl⟩)⟩⟩
    · rcases q with ⟨q1, q2⟩ | ⟨q1, (⟨q2, q3⟩ | ⟨q2, q3, q4⟩ | ⟨q2, q3, kk, b, q4, (⟨q5, q6⟩ | ⟨s, q5, q6, x, q7, q8⟩)⟩)⟩
      · cases q2; exact ⟨1, rfl, fun v => ⟨q0, Or.inl ⟨q1, rfl⟩⟩⟩
      · cases q3; exact ⟨2, rfl, fun v => ⟨q0, Or.inr ⟨q1, Or.inl ⟨q2, rfl⟩⟩⟩⟩
      · cases q4; exact ⟨3, rfl, fun v => ⟨q0, Or.inr ⟨q1, Or.inr (Or.inl ⟨q2, q3, rfl⟩)⟩⟩⟩
      · cases q6; exact ⟨4, rfl, fun v => ⟨q0, Or.inr ⟨q1, Or.inr (Or.inr ⟨q2, q3, kk, b, q4, Or.inl ⟨q5, rfl⟩⟩)⟩⟩⟩
      · cases q8
    · rcases q with ⟨q1, q2⟩ | ⟨q1, (⟨q2, q3⟩ | ⟨q2, q3, q4⟩ | ⟨q2, q3, kk, b, q4, (⟨q5, q6⟩ | ⟨s, q5, q6, x, q7, q8⟩)⟩)⟩
      · cases q2
      · cases q3
      · cases q4
      · cases q6
      · cases q8; exact ⟨q0, Or.inr ⟨q1, Or.inr (Or.inr ⟨q2, q3, kk, b, q4, Or.inr ⟨s, q5, q6, rfl, x, q7, rfl⟩⟩)⟩⟩
  · by_cases hp : 0 ≤ p ∧ p ≤ 2
    · refine Or.inr ⟨hp, ?_⟩
      obtain ⟨c1, c2, c3⟩ := a.2.2 hp
      by_cases f : fewA G ax
      · by_cases u : lcA G ax cur
        · obtain ⟨kk, b, d1, d2, d3⟩ := c3 f u
          refine Or.inr (Or.inr ⟨f, u, kk, b, d1, ?_⟩)
          by_cases hi : 0 ≤ t ∧ t < (kk : Int)
          · obtain ⟨g1, q, g2, g3⟩ := d3 t.toNat (by omega) (by omega)
            exact Or.inr ⟨t.toNat, by omega, by omega, g1, q, g2, g3⟩
          · exact Or.inl ⟨hi, d2 hi⟩
        · exact Or.inr (Or.inl ⟨f, u, c2 f u⟩)
      · exact Or.inl ⟨f, c1 f⟩
    · exact Or.inl ⟨hp, a.2.1 hp⟩
end
