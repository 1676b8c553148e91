/-! PURE 55: the law's steps: sizes compared with an array -/
/-- where the comparison stops -/
def stp (G : zGr) (ax : List Int) (n : Int) (f : Int → Int) (i : Nat) : Prop := ∀ j : Nat, j < i → (j : Int) ≤ G.1 ∧ (j : Int) < n ∧ f j = cln G ax j
def cmpE (G : zGr) (ax : List Int) (n : Int) (f : Int → Int) (c v : Int) : Prop := ∃ i : Nat, stp G ax n f i ∧ ((G.1 < (i : Int) ∧ c = 0 ∧ v = -1) ∨ ((i : Int) ≤ G.1 ∧ ¬ (i : Int) < n ∧ c = 1) ∨ ((i : Int) ≤ G.1 ∧ (i : Int) < n ∧ f i ≠ cln G ax i ∧ c = 0 ∧ v = i))
theorem cmpE.u {G : zGr} {ax : List Int} {n : Int} {f : Int → Int} {c v c2 v2 : Int} (h : cmpE G ax n f c v) (h2 : cmpE G ax n f c2 v2) : c = c2 ∧ (c = 0 → v = v2) := by
  obtain ⟨i, i1, i2⟩ := h
  obtain ⟨j, j1, j2⟩ := h2
  rcases Nat.lt_trichotomy i j with q | q | q
  · obtain ⟨a, b, d⟩ := j1 i q
    rcases i2 with e | e | e
    · omega
    · exact absurd b e.2.1
    · exact absurd d e.2.2.1
  · subst q
    rcases i2 with e | e | e
    · rcases j2 with k | k | k
      · exact ⟨by omega, fun _ => by omega⟩
      · omega
      · omega
    · rcases j2 with k | k | k
      · omega
      · exact ⟨by omega, fun q => by omega⟩
      · exact absurd k.2.1 e.2.1
    · rcases j2 with k | k | k
      · omega
      · exact absurd e.2.1 k.2.1
      · exact ⟨by omega, fun _ => by omega⟩
  · obtain ⟨a, b, d⟩ := i1 j q
    rcases j2 with e | e | e
    · omega
    · exact absurd b e.2.1
    · exact absurd d e.2.2.1
def mnCs (G : zGr) (ax : List Int) (cur : Int) (f : Nat → Int × Int × (Int → Int)) (s c v k : Int) : Prop := k = cur ∧ ((¬ (0 ≤ s ∧ s ≤ 2) ∧ c = 1) ∨ ((0 ≤ s ∧ s ≤ 2) ∧ ((¬ fewA G ax ∧ c = 2) ∨ (fewA G ax ∧ (f s.toNat).1 < 0 ∧ c = 3) ∨ (fewA G ax ∧ 0 ≤ (f s.toNat).1 ∧ (f s.toNat).1 ≠ 2 ∧ c = 4) ∨ (fewA G ax ∧ (f s.toNat).1 = 2 ∧ cmpE G ax (f s.toNat).2.1 (f s.toNat).2.2 c v))))
theorem mnCs.fnl {G : zGr} {ax : List Int} {cur s : Int} {f : Nat → Int × Int × (Int → Int)} : fnl (mnCs G ax cur f s) := by
  rintro c v k c2 v2 k2 ⟨a0, a⟩ ⟨b0, b⟩
  have hk : k = k2 := by omega
  rcases a with ⟨a1, a2⟩ | ⟨a1, a⟩
  · rcases b with ⟨b1, b2⟩ | ⟨b1, b⟩
    · exact ⟨by omega, fun q => by omega, hk⟩
    · exact absurd b1 a1
  · rcases b with ⟨b1, b2⟩ | ⟨b1, b⟩
    · exact absurd a1 b1
    · rcases a with a | a | a | a
      · rcases b with b | b | b | b
        · exact ⟨by omega, fun q => by omega, hk⟩
        · exact absurd b.1 a.1
        · exact absurd b.1 a.1
        · exact absurd b.1 a.1
      · rcases b with b | b | b | b
        · exact absurd a.1 b.1
        · exact ⟨by omega, fun q => by omega, hk⟩
        · omega
        · omega
      · rcases b with b | b | b | b
        · exact absurd a.1 b.1
        · omega
        · exact ⟨by omega, fun q => by omega, hk⟩
        · omega
      · rcases b with b | b | b | b
        · exact absurd a.1 b.1
        · omega
        · omega
        · have := a.2.2.u b.2.2
          exact ⟨this.1, this.2, hk⟩
section
variable {B : Int} {G : zGr} {ax : List Int} {cur : Int} {R : zRst} {M : zM} {S : zS} {lnS v5 : Int} {scr : Int → Int} {P : (Int × zM × zS) ⊕ (zM × zS) → Prop}
theorem stp_s {n : Int} {f : Int → Int} {i : Nat} (h : stp G ax n f i) (h1 : (i : Int) ≤ G.1) (h2 : (i : Int) < n) (h3 : f i = cln G ax i) : stp G ax n f (i + 1) := fun j hj => by
  by_cases e : j = i
  · rw [e]; exact ⟨h1, h2, h3⟩
  · exact h j (by omega)
theorem CX_cmp {M1 : zM} {j : Nat} (hC : clsW B G ax cur R M1 S) (hL : lang1 G ax M1) (hj : j < 3) : Ok (F_X10_compareSizes_L36 (42 + 2 * j) 0 M1 S) (fun r => ∃ c v, cmpE G ax (R.2.2.2 j).2.1 (R.2.2.2 j).2.2 c v ∧ r.2.1 = M1 ∧ ((c = 0 ∧ r.1 = .inr v ∧ r.2.2 = S) ∨ (c = 1 ∧ r.1 = .inl 2 ∧ r.2.2 = zer S))) := by
  have hs := hC.2.2.2.2.2.2.2.2.2.2.2 j hj
  obtain ⟨t1, t2, t3, t4, t5⟩ := slt hC.1 hj
  have hG1 := hC.2.1.1.1
  have h20 := hs.2.2.2.2
  unfold F_X10_compareSizes_L36
  refine Ok.loop (fun z => ∃ i : Nat, z.1 = i ∧ (i : Int) ≤ G.1 + 1 ∧ z.2.1 = M1 ∧ z.2.2 = S ∧ stp G ax (R.2.2.2 j).2.1 (R.2.2.2 j).2.2 i) (fun z => (100 - z.1).toNat) (fun e => ∃ c v, cmpE G ax (R.2.2.2 j).2.1 (R.2.2.2 j).2.2 c v ∧ ((c = 0 ∧ v ≠ -1 ∧ e = .inl (v, M1, S)) ∨ (c = 0 ∧ v = -1 ∧ e = .inr (.inl (M1, S))) ∨ (c = 1 ∧ e = .inr (.inr (2, M1, zer S))))) ⟨0, rfl, by omega, rfl, rfl, fun y hy => absurd hy (Nat.not_lt_zero y)⟩ (by show (100 - (0 : Int)).toNat < zN; decide) ?_ ?_
  · rintro ⟨v3, M2, S2⟩ ⟨i, i1, i2, i3, i4, i5⟩
    dsimp only at i1 i2 i3 i4 i5 ⊢
    subst i1 i3 i4
    unfold F_X10_compareSizes_B36
    rw [hC.2.2.1.2.2.1]
    refine Ok.ite (fun q => Ok.ret ⟨0, -1, ⟨i, i5, Or.inl ⟨q, rfl, rfl⟩⟩, Or.inr (Or.inl ⟨rfl, rfl, rfl⟩)⟩) (fun q => ?_)
    refine Ok.chk t2 ?_
    rw [hs.2.1]
    unfold F_X10_requireIndex F_X10_requireIndex_J9
    rw [if_neg (by omega)]
    by_cases q1 : (i : Int) < (R.2.2.2 j).2.1
    · rw [if_pos q1, zbx_inr, zchk_pos t2, t3, FX6_at t4 (by omega) (by rw [t5]; omega), hs.2.2.1 i (by omega) (by omega)]
      simp only [zb1_some]
      rw [FX3_wordsOfLength hC.1 hL]
      simp only [zb1_some]
      rw [w_id (a := (i : Int) + 1) (by omega)]
      refine Ok.ite (fun e => Ok.lett (Ok.ret ⟨⟨i + 1, by show (i : Int) + 1 = _; omega, by omega, rfl, rfl, stp_s i5 (by omega) q1 e⟩, by show (100 - ((i : Int) + 1)).toNat < (100 - (i : Int)).toNat; omega⟩)) (fun e => Ok.ret ⟨0, i, ⟨i, i5, Or.inr (Or.inr ⟨by omega, q1, e, rfl, rfl⟩)⟩, Or.inl ⟨rfl, by omega, rfl⟩⟩)
    · rw [if_neg q1, zbx_inl]
      exact Ok.ret ⟨1, 0, ⟨i, i5, Or.inr (Or.inl ⟨by omega, q1, rfl⟩)⟩, Or.inr (Or.inr ⟨rfl, rfl⟩)⟩
  · rintro e ⟨c, v, hc, (⟨a1, a2, rfl⟩ | ⟨a1, a2, rfl⟩ | ⟨a1, rfl⟩)⟩
    · show Ok (F_X10_compareSizes_J75 v M1 S) _
      unfold F_X10_compareSizes_J75
      exact Ok.ret ⟨c, v, hc, rfl, Or.inl ⟨a1, rfl, rfl⟩⟩
    · show Ok (F_X10_compareSizes_J83 M1 S) _
      unfold F_X10_compareSizes_J83
      exact Ok.ret ⟨c, v, hc, rfl, Or.inl ⟨a1, by rw [a2], rfl⟩⟩
    · show Ok (some (Sum.inl 2, M1, zer S)) _
      exact Ok.ret ⟨c, v, hc, rfl, Or.inr ⟨a1, rfl, rfl⟩⟩
theorem L_compareSizes (hC : clsW B G ax cur R M S) (hM : mdlW G ax cur R M) (hb : (0 : Int) ≤ w (v5 + 1) ∧ w (v5 + 1) < lnS) (hn : lxt B G ax R lnS scr v5 P) : Ok (F_L_law_J1779 lnS scr v5 M S) P := by
  unfold F_L_law_J1779 F_L_law_J1832
  simp only [zchk_pos hb]
  generalize scr (w (v5 + 1)) = s
  refine blkV (mnCs.fnl (G := G) (ax := ax) (cur := cur) (f := R.2.2.2) (s := s)) hC hM ?_ (fun M1 hst hM1 => MX hM1 ?_) hn
  · unfold F_L_compareSizes
    refine wrapV (V := fun r k => k = cur ∧ ((r = .inl 2 ∧ ∀ v, mnCs G ax cur R.2.2.2 s 1 v cur) ∨ (r = .inl 3 ∧ ∀ v, mnCs G ax cur R.2.2.2 s 2 v cur) ∨ (r = .inl 0 ∧ ∀ v, mnCs G ax cur R.2.2.2 s 3 v cur) ∨ (r = .inl 1 ∧ ∀ v, mnCs G ax cur R.2.2.2 s 4 v cur) ∨ (∃ v, r = .inr v ∧ mnCs G ax cur R.2.2.2 s 0 v cur))) ?_ (fun e k M S ⟨q0, q⟩ => ?_) (fun a k ⟨q0, q⟩ => ?_)
    · unfold F_X10_compareSizes
      refine CX_slot hC (fun q => ⟨rfl, Or.inl ⟨rfl, fun v => ⟨rfl, Or.inl ⟨q, rfl⟩⟩⟩⟩) (fun j hj hj3 => ?_)
      subst hj
      have hsl : (0 : Int) ≤ (j : Int) ∧ (j : Int) ≤ 2 := by omega
      have htn : ((j : Int)).toNat = j := Int.toNat_natCast j
      refine CX_q hC (fun f => ⟨rfl, Or.inr (Or.inl ⟨rfl, fun v => ⟨rfl, Or.inr ⟨hsl, Or.inl ⟨f, rfl⟩⟩⟩⟩)⟩) (fun M1 b1 b2 b3 b4 b5 => ?_)
      refine CX_filled b2 b5 hj3 (fun q => ⟨rfl, Or.inr (Or.inr (Or.inl ⟨rfl, fun v => ⟨rfl, Or.inr ⟨hsl, Or.inr (Or.inl ⟨b1, by rw [htn]; exact q, rfl⟩)⟩⟩⟩))⟩) (fun q => ?_)
      have hs := b2.2.2.2.2.2.2.2.2.2.2.2 j hj3
      obtain ⟨t1, t2, t3, t4, t5⟩ := slt b2.1 hj3
      rw [zchk_pos t2, hs.1]
      refine Ok.ite (fun e => ?_) (fun e => Ok.ret ⟨cur, b2.zer _, b5, rfl, Or.inr (Or.inr (Or.inr (Or.inl ⟨rfl, fun v => ⟨rfl, Or.inr ⟨hsl, Or.inr (Or.inr (Or.inl ⟨b1, by rw [htn]; exact q, by rw [htn]; exact e, rfl⟩))⟩⟩⟩)))⟩)
      refine (CX_cmp b2 b3.1 hj3).mono (fun r ⟨c, v, hc, e1, e2⟩ => ?_)
      have hm : mnCs G ax cur R.2.2.2 j c v cur := ⟨rfl, Or.inr ⟨hsl, Or.inr (Or.inr (Or.inr ⟨b1, by rw [htn]; exact e, by rw [htn]; exact hc⟩))⟩⟩
      rcases e2 with ⟨a1, a2, a3⟩ | ⟨a1, a2, a3⟩
      · subst a1
        exact ⟨cur, by rw [e1, a3]; exact b2, by rw [e1]; exact b5, rfl, Or.inr (Or.inr (Or.inr (Or.inr ⟨v, a2, hm⟩)))⟩
      · subst a1
        refine ⟨cur, by rw [e1, a3]; exact b2.zer _, by rw [e1]; exact b5, rfl, Or.inl ⟨a2, fun v2 => ⟨rfl, Or.inr ⟨hsl, Or.inr (Or.inr (Or.inr ⟨b1, by rw [htn]; exact e, ?_⟩))⟩⟩⟩⟩
        rw [htn]
        obtain ⟨i, g1, g2⟩ := hc
        rcases g2 with g | g | g
        · omega
        · exact ⟨i, g1, Or.inr (Or.inl g)⟩
        · omega
    · subst q0
      rcases q with q | q | q | q | q
      · cases q.1; exact ⟨1, rfl, q.2⟩
      · cases q.1; exact ⟨2, rfl, q.2⟩
      · cases q.1; exact ⟨3, rfl, q.2⟩
      · cases q.1; exact ⟨4, rfl, q.2⟩
      · obtain ⟨v, q, _⟩ := q; cases q
    · subst q0
      rcases q with q | q | q | q | q
      · cases q.1
      · cases q.1
      · cases q.1
      · cases q.1
      · obtain ⟨v, q, q2⟩ := q; cases q; exact q2
  · have hsM := hM1.2.2.2.2.2.2
    have hG1 := hC.2.1.1.1
    unfold F_X11_compareSizes
    refine Ok.lett ?_
    rw [FX11_isSlot]
    simp only [zb1_some]
    by_cases q : 0 ≤ s ∧ s ≤ 2
    · rw [if_pos q]
      refine Ok.neg (by decide) (Ok.b2 (mfind hst) (fun r M2 ⟨h1, h2, h3, h4, h5⟩ => ?_))
      dsimp only at h1 h2 h3 h4 h5
      refine Ok.ite (fun c => ?_) (fun c => ?_)
      · rw [FX11_fail]
        simp only [zb2_some]
        exact Ok.ret ⟨mfr.trans h3 mscr.th, rfl, Or.inr ⟨q, Or.inl ⟨tv_0 h1 c, zs_at M2 48 0 2⟩⟩⟩
      · have hfe := tv_1 h1 c
        obtain ⟨j, hj⟩ : ∃ j : Nat, s = j := ⟨s.toNat, by omega⟩
        subst hj
        have hj3 : j < 3 := by omega
        have htn : ((j : Int)).toNat = j := Int.toNat_natCast j
        obtain ⟨g1, g2, g3⟩ := (hM1.scr h3).2.2.2.2.2.2 j hj3
        have hnj := sl_b hC j hj3
        have hty := (hC.2.2.2.2.2.2.2.2.2.2.2 j hj3).2.2.2.1
        have b3 : (0 : Int) ≤ (j : Int) ∧ (j : Int) < 3 := by omega
        rw [g1]
        refine Ok.chk b3 (Ok.ite (fun e => ?_) (fun e => Ok.chk b3 (Ok.ite (fun e1 => ?_) (fun e1 => ?_))))
        · unfold F_X11_compareSizes_L62
          refine Ok.loop (fun z => ∃ i : Nat, z = i ∧ (i : Int) ≤ G.1 + 1 ∧ stp G ax (R.2.2.2 j).2.1 (R.2.2.2 j).2.2 i) (fun z => (100 - z).toNat) (fun e => ∃ c v, cmpE G ax (R.2.2.2 j).2.1 (R.2.2.2 j).2.2 c v ∧ ((c = 0 ∧ v ≠ -1 ∧ e = .inr (.inl v)) ∨ (c = 0 ∧ v = -1 ∧ e = .inr (.inr ())) ∨ (c = 1 ∧ e = .inl ()))) ⟨0, rfl, by omega, fun y hy => absurd hy (Nat.not_lt_zero y)⟩ (by show (100 - (0 : Int)).toNat < zN; decide) ?_ ?_
          · rintro v2 ⟨i, i1, i2, i5⟩
            subst i1
            unfold F_X11_compareSizes_B62
            rw [h5.2.2.2.1.2.2.1, g2]
            refine Ok.ite (fun z => Ok.ret ⟨0, -1, ⟨i, i5, Or.inl ⟨z, rfl, rfl⟩⟩, Or.inr (Or.inl ⟨rfl, rfl, rfl⟩)⟩) (fun z => Ok.chk b3 (Ok.ite (fun q1 => ?_) (fun q1 => Ok.ret ⟨1, 0, ⟨i, i5, Or.inr (Or.inl ⟨by omega, q1, rfl⟩)⟩, Or.inr (Or.inr ⟨rfl, rfl⟩)⟩)))
            rw [w_id (a := 20 * (j : Int) + i) (by omega), g3 i (by omega) (by omega), FX11_countOf (h2 hfe) ⟨by omega, by omega⟩, w_id (a := (i : Int) + 1) (by omega)]
            simp only [zb1_some]
            refine Ok.chk ⟨by omega, by omega⟩ (Ok.ite (fun z1 => Ok.lett (Ok.ret ⟨⟨i + 1, by omega, by omega, stp_s i5 (by omega) q1 z1⟩, by show (100 - ((i : Int) + 1)).toNat < (100 - (i : Int)).toNat; omega⟩)) (fun z1 => Ok.ret ⟨0, i, ⟨i, i5, Or.inr (Or.inr ⟨by omega, q1, z1, rfl, rfl⟩)⟩, Or.inl ⟨rfl, by omega, rfl⟩⟩))
          · have mk : ∀ c v : Int, cmpE G ax (R.2.2.2 j).2.1 (R.2.2.2 j).2.2 c v → mnCs G ax cur R.2.2.2 j c v cur := fun c v hc => ⟨rfl, Or.inr ⟨q, Or.inr (Or.inr (Or.inr ⟨hfe, by rw [htn]; exact e, by rw [htn]; exact hc⟩))⟩⟩
            rintro e2 ⟨c2, v2, hc, (⟨a1, a2, rfl⟩ | ⟨a1, a2, rfl⟩ | ⟨a1, rfl⟩)⟩
            · show Ok (F_X11_compareSizes_J105 v2 M2) _
              unfold F_X11_compareSizes_J105
              exact Ok.ret ⟨h3, by dsimp only; rw [h4]; rw [a1] at hc; exact mk _ _ hc⟩
            · show Ok (F_X11_compareSizes_J113 M2) _
              unfold F_X11_compareSizes_J113
              exact Ok.ret ⟨h3, by dsimp only; rw [h4]; rw [a1, a2] at hc; exact mk _ _ hc⟩
            · show Ok (F_X11_compareSizes_J80 M2) _
              unfold F_X11_compareSizes_J80
              rw [FX11_fail]
              simp only [zb2_some]
              refine Ok.ret ⟨mfr.trans h3 mscr.th, ?_⟩
              dsimp only
              rw [zs_at]
              refine mk 1 0 ?_
              obtain ⟨i, k1, k2⟩ := hc
              rcases k2 with k | k | k
              · omega
              · exact ⟨i, k1, Or.inr (Or.inl ⟨k.1, k.2.1, rfl⟩)⟩
              · omega
        · unfold F_X11_compareSizes_J56
          rw [FX11_fail]
          simp only [zb2_some]
          exact Ok.ret ⟨mfr.trans h3 mscr.th, rfl, Or.inr ⟨q, Or.inr (Or.inl ⟨hfe, by rw [htn]; exact e1, zs_at M2 48 0 3⟩)⟩⟩
        · unfold F_X11_compareSizes_J56
          rw [FX11_fail]
          simp only [zb2_some]
          exact Ok.ret ⟨mfr.trans h3 mscr.th, rfl, Or.inr ⟨q, Or.inr (Or.inr (Or.inl ⟨hfe, by rw [htn]; omega, by rw [htn]; exact e, zs_at M2 48 0 4⟩))⟩⟩
    · rw [if_neg q]
      refine Ok.pos rfl ?_
      rw [FX11_fail]
      simp only [zb2_some]
      exact Ok.ret ⟨mfr.trans (mscr.th (v := 0)) mscr.th, rfl, Or.inl ⟨q, zs_at (zs M1 48 0 0) 48 0 1⟩⟩
end
