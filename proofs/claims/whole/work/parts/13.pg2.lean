/-! PURE 62: the law's step: restore -/
def mnRe (a : zAbs) (c v : Int) (k : zAbs) : Prop := (a.2.2.2.1 = none ∧ c = 1 ∧ v = 0 ∧ k = a) ∨ ∃ G1 ax1 cur1, a.2.2.2.1 = some (G1, ax1, cur1) ∧ c = 0 ∧ v = 0 ∧ k = (G1, ax1, cur1, a.2.2.2)
theorem mnRe.fnl {a : zAbs} : fnlA (mnRe a) := by
  rintro c v k c2 v2 k2 (⟨a1, a2, a3, a4⟩ | ⟨G1, ax1, cur1, a1, a2, a3, a4⟩) (⟨b1, b2, b3, b4⟩ | ⟨G2, ax2, cur2, b1, b2, b3, b4⟩)
  · exact ⟨by omega, fun _ => by omega, by rw [a4, b4]⟩
  · rw [a1] at b1; cases b1
  · rw [b1] at a1; cases a1
  · rw [a1] at b1
    cases b1
    exact ⟨by omega, fun _ => by omega, by rw [a4, b4]⟩
theorem T_restore : stpT F_L_law_J1846 := fun B G ax cur R M S lnS v5 scr P hB hC hM b1 b2 b3 hn => by
  unfold F_L_law_J1846
  refine blkNA (B1 := B) (mnRe.fnl (a := (G, ax, cur, R))) hC hM ?_ (fun M1 hst hM1 => ?_) (fun a M2 S2 x y => hn a M2 S2 (clsW.mono x (by omega)) y)
  · unfold F_L_restore
    refine wrapNA (V := fun r k => (R.1 = none ∧ r = .inl 0 ∧ k = (G, ax, cur, R)) ∨ ∃ G1 ax1 cur1, R.1 = some (G1, ax1, cur1) ∧ r = .inr () ∧ k = (G1, ax1, cur1, R)) ?_ (fun e k M S q => ?_) (fun k q => ?_)
    · rcases hC.2.2.2.2.2.2.2.2.1 with ⟨z1, z2⟩ | ⟨z1, G1, ax1, cur1, z2, z3⟩
      · unfold F_X10_restore
        exact Ok.pos z1 (Ok.ret ⟨(G, ax, cur, R), hC.zer _, keepM.refl, Or.inl ⟨z2, rfl, rfl⟩⟩)
      · exact (CX_restore hC z2).mono (fun r ⟨d1, d2, d3⟩ => ⟨(G1, ax1, cur1, R), d2, d3, Or.inr ⟨G1, ax1, cur1, z2, d1, rfl⟩⟩)
    · rcases q with ⟨q1, q2, q3⟩ | ⟨G1, ax1, cur1, q1, q2, q3⟩
      · cases q2; exact ⟨1, rfl, Or.inl ⟨q1, rfl, rfl, q3⟩⟩
      · cases q2
    · rcases q with ⟨q1, q2, q3⟩ | ⟨G1, ax1, cur1, q1, q2, q3⟩
      · cases q2
      · exact Or.inr ⟨G1, ax1, cur1, q1, rfl, rfl, q3⟩
  · rcases hC.2.2.2.2.2.2.2.2.1 with ⟨z1, z2⟩ | ⟨z1, G1, ax1, cur1, z2, z3, _⟩
    · have h37 : M1 48 37 = 0 := by
        rcases hM1.2.2.2.1 with q | ⟨_, G1, ax1, cur1, q, _⟩
        · exact q.1
        · rw [z2] at q; cases q
      have e37 : zs M1 48 0 1 48 37 = 0 := by rw [zs_off _ _ (Or.inr (by decide))]; exact h37
      unfold F_X11_restore F_X11_restore_J13
      refine Ok.pos h37 (Ok.lett ?_)
      unfold F_X11_restore_L18
      refine Ok.loop (fun z => z = ((0 : Int), zs M1 48 0 1)) (fun _ => 0) (fun M2 => M2 = zs M1 48 0 1) rfl (by rw [zN_v]; decide) ?_ (fun M2 e => ?_)
      · rintro ⟨v1, M2⟩ e
        cases e
        dsimp only
        unfold F_X11_restore_B18
        exact Ok.pos (by decide) (Ok.pos e37 (Ok.ret rfl))
      · subst e
        unfold F_X11_restore_J116
        exact Ok.pos e37 (Ok.ret ⟨(G, ax, cur, R), hM1.scr mscr.th, keepC.scr mscr.th, Or.inl ⟨z2, zs_at M1 48 0 1, rfl, rfl⟩⟩)
    · exact (FX11_restore z3.1 z3.2.1 hM1 z2).mono (fun r ⟨d1, d2, d3⟩ => ⟨(G1, ax1, cur1, R), d1, d2, Or.inr ⟨G1, ax1, cur1, z2, d3, rfl, rfl⟩⟩)
