/-! PURE 77: the law's step: define -/
section
variable {B : Int} {G : zGr} {ax : List Int} {cur : Int} {R : zRst} {M : zM} {S : zS}
theorem CD_ctx {L Q : Int} {pr : List Int} (hC : clsW B G ax cur R M S) (h22 : M 2 2 = (pr.length : Int) ∧ ∀ (i : Nat) (a : Int), pr[i]? = some a → srel (M 4 i) a) (h6 : M 2 6 = L) (h7 : M 2 7 = Q) (hx : cxok (L, Q, pr)) (hl : pr.length < 60) : Ok (F_X10_defineContext M S) (fun r => keepM S M r.2.1 ∧ ((G.2.2.length < 5 ∧ r.1 = .inr (G.2.2.length : Int) ∧ clsW B (G.1, G.2.1, G.2.2 ++ [(L, Q, pr)]) ax cur R r.2.1 r.2.2) ∨ (¬ G.2.2.length < 5 ∧ r.1 = .inl 0 ∧ clsW B G ax cur R r.2.1 r.2.2))) := by
  obtain ⟨a1, a2, ⟨g1, g2, g3, g4⟩, ⟨f1, f2⟩, ⟨x1, x2⟩, a6, a7, ⟨n1, n2, n3⟩, r1, r2, r3, r4⟩ := id hC
  have h77 := a1.1
  by_cases c : G.2.2.length < 5
  · refine CD_new a1 g1 c h22.1 hl h6 h7 hx.1 hx.2.1 (fun M1 S1 ⟨b1, b2, b3, b4, b5, ⟨b6, b7⟩, b8, b9, b10, b11, b12, b13, b14⟩ => ?_)
    have hFx : zFx S1 := by
      refine ⟨by omega, fun q q0 q1 => by rw [b2 q (by omega)]; exact a1.2.1 q q0 q1, fun a k hz => ?_⟩
      have ha : a ≤ 89 := by
        rcases Nat.lt_or_ge 89 a with q | q
        · rw [zRT_big q] at hz
          exact absurd rfl hz
        · exact q
      have ha7 : a ≠ 7 := fun q => by
        rw [q] at hz
        exact hz (by cases k <;> rfl)
      rw [b3 a k (by omega) (Or.inl ha7)]
      exact a1.2.2 a k hz
    have hgrow : ∀ q L R pr, q + 4 ≤ S.1 → ctxok M S q L R pr → ctxok M1 S1 q L R pr := fun q L R pr hq h => h.grow hq b2 (fun a k h1 h2 => b3 a k h2 (Or.inl (by omega))) (fun b h1 h2 => b8 b h2 (by omega))
    have hnew : ctxok M1 S1 (S.1 + 1) L Q pr := by
      refine ⟨b5, ⟨b6, b7, fun i a hi => ?_⟩, hx.2.2, b11, hx.1, hx.2.1, fun x hw => ?_⟩
      · have hi2 := (List.getElem?_eq_some_iff.mp hi).1
        rw [b12 i (by omega) (by omega)]
        exact h22.2 i a hi
      · rw [b13, b14, lb_0, Bool.false_and]
    have hl5 : ∀ {G : zGr} {i : Nat} {c : Int × Int × List Int}, grok G → G.2.2[i]? = some c → i < 5 := fun hG q => by have := (List.getElem?_eq_some_iff.mp q).1; have := hG.2.2.1; omega
    have hkd : ∀ a, a ≤ S.1 → zkd S1 a = zkd S a := fun a ha => by unfold zkd; rw [b2 a ha]
    have eb : ∀ b : Nat, b ≤ 89 → b ≠ 5 → M1 b = M b := fun b h h5 => b8 b (by omega) h5
    have hz10 : ∀ k : Int, zrf S1 10 k = zrf S 10 k := fun k => b3 10 k (by omega) (Or.inl (by decide))
    have hG1 : grok (G.1, G.2.1, G.2.2 ++ [(L, Q, pr)]) := by
      refine ⟨a2.1.1, a2.1.2.1, by show (G.2.2 ++ [(L, Q, pr)]).length ≤ 5; rw [List.length_append]; show G.2.2.length + 1 ≤ 5; omega, fun d hd => ?_⟩
      rcases List.mem_append.mp hd with q | q
      · exact a2.1.2.2.2 d q
      · rw [List.mem_singleton.mp q]; exact hx
    refine Ok.b1 (chg (B := B) (G := (G.1, G.2.1, G.2.2 ++ [(L, Q, pr)])) (ax := ax) (cur := cur) (R := R) (M := M1) (S := S1) hFx ⟨hG1, a2.2⟩ ⟨?_, by rw [b9 4 (by decide)]; exact g2, by rw [b9 5 (by decide)]; exact g3, fun j L2 Q2 pr2 q => ?_⟩ ⟨fun i hi => ?_, fun i hi => ?_⟩ ⟨by rw [b9 2 (by decide)]; exact x1, by rw [eb 6 (by decide) (by decide)]; exact x2⟩ (by rw [eb 1 (by decide) (by decide)]; exact a6) (a7.1.fr (by rw [eb 11 (by decide) (by decide)]) (eb 12 (by decide) (by decide)) (eb 13 (by decide) (by decide)) (eb 15 (by decide) (by decide))) ⟨by rw [eb 25 (by decide) (by decide)]; exact n1, by rw [eb 25 (by decide) (by decide), eb 27 (by decide) (by decide)]; exact n2⟩ ⟨?_, ?_, ?_, fun k hk => ?_⟩) (fun M3 ⟨d1, d2⟩ => ?_)
    · show M1 5 3 = ((G.2.2 ++ [(L, Q, pr)]).length : Int)
      rw [b10, List.length_append]; rfl
    · have q2 : (G.2.2 ++ [(L, Q, pr)])[j]? = some (L2, Q2, pr2) := q
      by_cases e : j < G.2.2.length
      · rw [List.getElem?_append_left e] at q2
        have hz : zrf S1 7 (j : Int) = zrf S 7 (j : Int) := b3 7 j (by omega) (Or.inr (by omega))
        rw [hz]
        exact hgrow _ _ _ _ (ctx_ref f1 (by omega) (g4 j L2 Q2 pr2 q2)) (g4 j L2 Q2 pr2 q2)
      · have hj := (List.getElem?_eq_some_iff.mp q2).1
        rw [List.length_append] at hj
        have hj2 : j < G.2.2.length + 1 := hj
        have ej : j = G.2.2.length := by omega
        rw [ej, List.getElem?_append_right (Nat.le_refl _), Nat.sub_self] at q2
        have q3 : (L, Q, pr) = (L2, Q2, pr2) := by simpa using q2
        obtain ⟨q4, q5, q6⟩ := zpr3 q3
        have hz : zrf S1 7 ((G.2.2.length : Nat) : Int) = S.1 + 1 := b4
        rw [ej, hz, ← q4, ← q5, ← q6]
        exact hnew
    · by_cases e : i = G.2.2.length
      · right
        have hz : zrf S1 7 ((G.2.2.length : Nat) : Int) = S.1 + 1 := b4
        rw [e, hz]
        exact ⟨b5.2.1, by omega⟩
      · have hz : zrf S1 7 (i : Int) = zrf S 7 (i : Int) := b3 7 i (by omega) (Or.inr (by omega))
        rw [hz]
        rcases f1 i hi with z | z
        · exact Or.inl z
        · exact Or.inr ⟨by rw [hkd _ (by omega)]; exact z.1, by omega⟩
    · rw [hz10]
      rcases f2 i hi with z | z
      · exact Or.inl z
      · exact Or.inr ⟨by rw [hkd _ (by omega)]; exact z.1, by omega⟩
    · unfold savC gS axS at *
      rw [eb 1 (by decide) (by decide), eb 8 (by decide) (by decide), eb 9 (by decide) (by decide)]
      rcases r1 with b | ⟨c1, G1, ax1, cur1, c2, c3, ⟨c4, c5, c6, c7⟩, c8⟩
      · exact Or.inl b
      · exact Or.inr ⟨c1, G1, ax1, cur1, c2, c3, ⟨c4, c5, c6, fun j L R pr q => by rw [hz10]; exact hgrow _ _ _ _ (ctx_ref f2 (hl5 c3.1 q) (c7 j L R pr q)) (c7 j L R pr q)⟩, c8⟩
    · rw [eb 2 (by decide) (by decide), eb 3 (by decide) (by decide)]; exact r2
    · rw [eb 1 (by decide) (by decide)]; exact r3
    · rw [eb (42 + 2 * k) (by omega) (by omega), eb (43 + 2 * k) (by omega) (by omega)]
      exact r4 k hk
    · have f3 : M3 5 3 = (G.2.2.length : Int) + 1 := by
        have h : M3 5 3 = ((G.2.2 ++ [(L, Q, pr)]).length : Int) := d1.2.2.1.1
        rw [List.length_append] at h
        exact h
      rw [f3, w_id (by omega)]
      exact Ok.ret ⟨keepM.trans (fun b h1 h2 => b8 b h2.1 (by omega)) (fun b h1 h2 => d2 b h1 ⟨by omega, by rw [hkd _ h2.1]; exact h2.2⟩), Or.inl ⟨c, by show (Sum.inr ((G.2.2.length : Int) + 1 - 1) : Nat ⊕ Int) = _; rw [show (G.2.2.length : Int) + 1 - 1 = G.2.2.length by omega], d1⟩⟩
  · unfold F_X10_defineContext
    exact Ok.neg (by rw [g1]; omega) (Ok.ret ⟨keepM.refl, Or.inr ⟨c, rfl, hC.zer _⟩⟩)
/-- what the class's define answers -/
def VD (a : zAbs) (o : zOut) (v : Nat ⊕ Int) (k : zAbs) : Prop := k = (effD a o).2.2 ∧ ((v = .inl 1 ∧ (effD a o).1 = 1) ∨ (v = .inl 0 ∧ (effD a o).1 = 2) ∨ (v = .inr (effD a o).2.1 ∧ (effD a o).1 = 0))
theorem CD_define {o : zOut} (hC : clsW B G ax cur R M S) (hv : vO R.2.1 o) (hr : Ok (F_X1_read M) (cRd o M)) : Ok (F_X10_define M S) (fun r => ∃ k, clsA B k r.2.1 r.2.2 ∧ keepM S M r.2.1 ∧ VD (G, ax, cur, R) o r.1 k) := by
  unfold F_X10_define
  refine Ok.b2 hr (fun v M1 ⟨c1, c2, c3, c4, c5, c6⟩ => ?_)
  dsimp only at c1 c2 c3 c4 c5 c6
  -- the state with the text empty
  have key : ∀ t1 : Int, ∃ M2, (zb1 (F_X1_empty (zs M1 1 7 t1)) fun M2 => some M2) = some M2 ∧ F_X1_empty (zs M1 1 7 t1) = some M2 ∧ clsW B G ax cur (rstD R t1) M2 S ∧ keepM S M M2 ∧ (∀ k : Int, k ≠ 3 → M2 2 k = M1 2 k) ∧ M2 4 = M1 4 := fun t1 => by
    refine ⟨zs (zs M1 1 7 t1) 2 3 0, rfl, rfl, ?_⟩
    obtain ⟨d1, d2⟩ := hC.txt (M2 := zs (zs M1 1 7 t1) 2 3 0) (f := t1) (fun b h1 h2 h4 => by rw [zs_ne _ _ _ h2, zs_ne _ _ _ h1]; exact c2 b h2 h4) (fun k hk => by rw [zs_ne _ _ _ (by decide), zs_off _ _ (Or.inr hk), c2 1 (by decide) (by decide)]) (by rw [zs_ne _ _ _ (by decide), zs_at]) (zs_at _ 2 3 0)
    exact ⟨d1, d2, fun k hk => by rw [zs_off _ _ (Or.inr hk), zs_ne _ _ _ (by decide)], by rw [zs_ne _ _ _ (by decide), zs_ne _ _ _ (by decide)]⟩
  refine Ok.ite (fun e => ?_) (fun e => ?_)
  · have eo : o.1 = -1 := by rw [← c1]; exact e
    obtain ⟨M2, _, k1, k2, k3, _⟩ := key (M1 2 4)
    unfold F_X10_define_J25
    refine Ok.lett ?_
    rw [k1]
    simp only [zb1_some]
    refine Ok.pos e (Ok.ret ⟨(G, ax, cur, rstD R (o.2.1 : Int)), ?_, k3, ?_⟩)
    · rw [c3 eo] at k2
      exact k2.zer _
    · unfold VD effD
      rw [if_pos eo]
      exact ⟨rfl, Or.inl ⟨rfl, rfl⟩⟩
  · have eo : o.1 ≠ -1 := fun q => e (c1.trans q)
    obtain ⟨M2, _, k1, k2, k3, k4, k5⟩ := key (-1)
    unfold F_X10_define_J25
    refine Ok.lett ?_
    rw [k1]
    simp only [zb1_some]
    refine Ok.neg e ?_
    rcases hv with ⟨h1, _⟩ | ⟨h1, _, h2, _⟩ | ⟨h1, _, h2, h3⟩ | ⟨h1, _, h2, _⟩ | ⟨h1, _, h2, _⟩
    · exact absurd h1 eo
    · refine Ok.pos (c1.trans h1) ?_
      rw [k4 5 (by decide), c4 h1]
      have heff : effD (G, ax, cur, R) o = if ax.length < 6 ∧ o.2.2.1 ∉ ax then (0, (ax.length : Int), (G, ax ++ [o.2.2.1], cur, rstD R (-1))) else (2, 0, (G, ax, cur, rstD R (-1))) := by
        unfold effD
        rw [if_neg eo, if_pos h1]
        rfl
      refine Ok.bx (CD_axiom k2 h2) (fun e M S ⟨q1, q2⟩ => ?_) (fun a M S ⟨q1, q2⟩ => ?_)
      · dsimp only at q1 q2
        rcases q2 with ⟨_, _, q3, _⟩ | ⟨q2, q3, q4⟩
        · cases q3
        · cases q3
          rw [if_neg q2] at heff
          exact Ok.ret ⟨(G, ax, cur, rstD R (-1)), q4, k3.trans q1, by unfold VD; rw [heff]; exact ⟨rfl, Or.inr (Or.inl ⟨rfl, rfl⟩)⟩⟩
      · dsimp only at q1 q2
        rcases q2 with ⟨q2, q5, q3, q4⟩ | ⟨_, q3, _⟩
        · cases q3
          rw [if_pos ⟨q2, q5⟩] at heff
          exact Ok.ret ⟨(G, ax ++ [o.2.2.1], cur, rstD R (-1)), q4, k3.trans q1, by unfold VD; rw [heff]; exact ⟨rfl, Or.inr (Or.inr ⟨rfl, rfl⟩)⟩⟩
        · cases q3
    · obtain ⟨d1, d2, d3, d4⟩ := c5 h1
      refine Ok.neg (by rw [c1, h1]; decide) (Ok.pos (c1.trans h1) ?_)
      have heff : effD (G, ax, cur, R) o = if G.2.2.length < 5 then (0, (G.2.2.length : Int), ((G.1, G.2.1, G.2.2 ++ [o.2.2]), ax, cur, rstD R (-1))) else (2, 0, (G, ax, cur, rstD R (-1))) := by
        unfold effD
        rw [if_neg eo, if_neg (by rw [h1]; decide), if_pos h1]
        rfl
      refine Ok.bx (CD_ctx (L := o.2.2.1) (Q := o.2.2.2.1) (pr := o.2.2.2.2) k2 ⟨by rw [k4 2 (by decide)]; exact d3, by rw [k5]; exact d4⟩ (by rw [k4 6 (by decide)]; exact d1) (by rw [k4 7 (by decide)]; exact d2) h2 h3) (fun e M S ⟨q1, q2⟩ => ?_) (fun a M S ⟨q1, q2⟩ => ?_)
      · dsimp only at q1 q2
        rcases q2 with ⟨_, q3, _⟩ | ⟨q2, q3, q4⟩
        · cases q3
        · cases q3
          rw [if_neg q2] at heff
          exact Ok.ret ⟨(G, ax, cur, rstD R (-1)), q4, k3.trans q1, by unfold VD; rw [heff]; exact ⟨rfl, Or.inr (Or.inl ⟨rfl, rfl⟩)⟩⟩
      · dsimp only at q1 q2
        rcases q2 with ⟨q2, q3, q4⟩ | ⟨_, q3, _⟩
        · cases q3
          rw [if_pos q2] at heff
          exact Ok.ret ⟨((G.1, G.2.1, G.2.2 ++ [o.2.2]), ax, cur, rstD R (-1)), q4, k3.trans q1, by unfold VD; rw [heff]; exact ⟨rfl, Or.inr (Or.inr ⟨rfl, rfl⟩)⟩⟩
        · cases q3
    · refine Ok.neg (by rw [c1, h1]; decide) (Ok.neg (by rw [c1, h1]; decide) ?_)
      rw [k4 8 (by decide), c6 (Or.inl h1), c1, h1]
      have heff : effD (G, ax, cur, R) o = (0, G.2.1, ((G.1, o.2.2.1, G.2.2), ax, cur, rstD R (-1))) := by
        unfold effD
        rw [if_neg eo, if_neg (by rw [h1]; decide), if_neg (by rw [h1]; decide), if_pos h1]
        rfl
      refine Ok.b2 (CD_mode k2 h2) (fun a M ⟨q1, q2, q3⟩ => ?_)
      dsimp only at q1 q2 q3
      exact Ok.ret ⟨((G.1, o.2.2.1, G.2.2), ax, cur, rstD R (-1)), q2, k3.trans q3, by unfold VD; rw [heff, q1]; exact ⟨rfl, Or.inr (Or.inr ⟨rfl, rfl⟩)⟩⟩
    · refine Ok.neg (by rw [c1, h1]; decide) (Ok.neg (by rw [c1, h1]; decide) ?_)
      rw [k4 8 (by decide), c6 (Or.inr h1), c1, h1]
      have heff : effD (G, ax, cur, R) o = (0, G.1, ((o.2.2.1, G.2.1, G.2.2), ax, cur, rstD R (-1))) := by
        unfold effD
        rw [if_neg eo, if_neg (by rw [h1]; decide), if_neg (by rw [h1]; decide), if_neg (by rw [h1]; decide)]
        rfl
      refine Ok.b2 (CD_limit k2 h2) (fun a M ⟨q1, q2, q3⟩ => ?_)
      dsimp only at q1 q2 q3
      exact Ok.ret ⟨((o.2.2.1, G.2.1, G.2.2), ax, cur, rstD R (-1)), q2, k3.trans q3, by unfold VD; rw [heff, q1]; exact ⟨rfl, Or.inr (Or.inr ⟨rfl, rfl⟩)⟩⟩
end
