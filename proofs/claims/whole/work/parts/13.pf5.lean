/-! PURE 56: the law's steps: the grammar changed; an axiom removed -/
theorem chg {B : Int} {G : zGr} {ax : List Int} {cur : Int} {R : zRst} {M : zM} {S : zS} (a1 : zFx S) (a2 : grok G ∧ axok ax ∧ wd cur) (a3 : gC M S G) (a4 : refS S 7 ∧ refS S 10) (a5 : axC M ax) (a6 : M 1 8 = cur) (a7 : langC M) (a8 : (0 ≤ M 25 4 ∧ M 25 4 ≤ B) ∧ ∀ y, wd y → M 27 y ≤ M 25 4) (a9 : restC R M S) : Ok (F_X10_grammarChanged M) (fun M2 => clsW B G ax cur R M2 S ∧ keepM M M2) := by
  unfold F_X10_grammarChanged F_X5_forget
  refine Ok.lett (Ok.b1 (Q := fun M2 => M2 = zs (zs (zs M 1 11 1) 25 2 (-1)) 25 6 0) (Ok.lett (Ok.lett (Ok.ret rfl))) (fun M2 e => ?_))
  have hf : cfr (fun b => b = 1 ∨ b = 25) S M M2 := by
    rw [e]
    exact ((cfr.zs (Or.inl rfl) (by decide)).trans (cfr.zs (Or.inr rfl) (by decide))).trans (cfr.zs (Or.inr rfl) (by decide))
  have k1 : ∀ k : Int, k ≠ 11 → M2 1 k = M 1 k := fun k hk => by rw [e, zs_ne _ _ _ (by decide), zs_ne _ _ _ (by decide), zs_off _ _ (Or.inr hk)]
  have k11 : M2 1 11 = 1 := by rw [e, zs_ne _ _ _ (by decide), zs_ne _ _ _ (by decide), zs_at]
  have k25 : ∀ k : Int, k ≠ 2 → k ≠ 6 → M2 25 k = M 25 k := fun k h2 h6 => by rw [e, zs_off _ _ (Or.inr h6), zs_off _ _ (Or.inr h2), zs_ne _ _ _ (by decide)]
  have k252 : M2 25 2 = -1 := by rw [e, zs_off _ _ (Or.inr (by decide)), zs_at]
  have k256 : M2 25 6 = 0 := by rw [e, zs_at]
  have eb : ∀ b : Nat, b ≤ 77 → b ≠ 1 → b ≠ 25 → M2 b = M b := fun b h h1 h2 => hf.1 b (by omega) (Or.inl h)
  obtain ⟨r1, r2, r3, r4⟩ := a9
  refine Ok.ret ⟨⟨a1, a2, a3.fr hf (by decide), a4, ?_, by rw [k1 8 (by decide)]; exact a6, ⟨a7.fr (by rw [eb 11 (by decide) (by decide) (by decide)]) (eb 12 (by decide) (by decide) (by decide)) (eb 13 (by decide) (by decide) (by decide)) (eb 15 (by decide) (by decide) (by decide)), fun q => by omega⟩, ⟨?_, ?_, Or.inl k252, Or.inl k256⟩, ?_, ?_, ?_, ?_⟩, keepM.of hf (fun b q => by omega)⟩
  · unfold axC; rw [eb 5 (by decide) (by decide) (by decide), eb 6 (by decide) (by decide) (by decide)]; exact a5
  · rw [k25 4 (by decide) (by decide)]; exact a8.1
  · rw [k25 4 (by decide) (by decide), eb 27 (by decide) (by decide) (by decide)]; exact a8.2
  · unfold savC gS axS at *
    rw [k1 10 (by decide), k1 9 (by decide), eb 8 (by decide) (by decide) (by decide), eb 9 (by decide) (by decide) (by decide)]
    rcases r1 with b | ⟨b1, G1, ax1, cur1, b2, b3, ⟨c1, c2, c3, c4⟩, b5⟩
    · exact Or.inl b
    · exact Or.inr ⟨b1, G1, ax1, cur1, b2, b3, ⟨c1, c2, c3, fun j L R pr q => hf.2 _ _ _ _ (c4 j L R pr q)⟩, b5⟩
  · rw [eb 2 (by decide) (by decide) (by decide), eb 3 (by decide) (by decide) (by decide)]; exact r2
  · rw [k1 7 (by decide)]; exact r3
  · intro k hk
    rw [eb (42 + 2 * k) (by omega) (by omega) (by omega), eb (43 + 2 * k) (by omega) (by omega) (by omega)]
    exact r4 k hk
section
variable {B : Int} {G : zGr} {ax : List Int} {cur : Int} {R : zRst} {M : zM} {S : zS} {lnS v5 : Int} {scr : Int → Int} {P : (Int × zM × zS) ⊕ (zM × zS) → Prop}
theorem axok_er {t : Nat} (h : axok ax) : axok (ax.eraseIdx t) := by
  refine ⟨Nat.le_trans (List.length_eraseIdx_le ax t) h.1, fun a ha => h.2 a (List.eraseIdx_sublist ax t |>.subset ha)⟩
theorem CX_drop {t : Nat} (hC : clsW B G ax cur R M S) (ht : t < ax.length) : Ok (F_X2_dropAxiom (t : Int) M S) (fun M1 => axC M1 (ax.eraseIdx t) ∧ (∀ k, k ≠ 2 → M1 5 k = M 5 k) ∧ cfr (fun b => b = 5 ∨ b = 6) S M M1) := by
  obtain ⟨x1, x2⟩ := hC.2.2.2.2.1
  have h6 := hC.2.1.2.1.1
  unfold F_X2_dropAxiom
  rw [w_id (a := (t : Int) + 1) (by omega)]
  refine Ok.lett ?_
  unfold F_X2_dropAxiom_L4
  refine Ok.loop (fun z => ∃ k : Nat, z.1 = k ∧ t + 1 ≤ k ∧ k ≤ ax.length ∧ cfr (fun b => b = 6) S M z.2 ∧ ∀ j : Nat, z.2 6 j = if t ≤ j ∧ j + 1 < k then M 6 ((j : Int) + 1) else M 6 j) (fun z => (100 - z.1).toNat) (fun M1 => cfr (fun b => b = 6) S M M1 ∧ ∀ j : Nat, M1 6 j = if t ≤ j ∧ j + 1 < ax.length then M 6 ((j : Int) + 1) else M 6 j) ⟨t + 1, by show (t : Int) + 1 = _; omega, by omega, by omega, cfr.refl, fun j => by show M 6 j = _; rw [if_neg (by omega)]⟩ (by show (100 - ((t : Int) + 1)).toNat < zN; rw [zN_v]; omega) ?_ ?_
  · rintro ⟨v2, M1⟩ ⟨k, i1, i2, i3, i4, i5⟩
    dsimp only at i1 i2 i3 i4 i5 ⊢
    subst i1
    unfold F_X2_dropAxiom_B4
    rw [i4.1 5 (by decide) (Or.inl (by decide)), x1]
    refine Ok.ite (fun c => ?_) (fun c => Ok.ret ⟨i4, fun j => by rw [i5 j, show k = ax.length by omega]⟩)
    unfold F_X2_axiom
    rw [xat hC.1 6 6 rfl (by omega) (by omega)]
    simp only [zb1_some]
    rw [w_id (a := (k : Int) - 1) (by omega), xput hC.1 6 6 rfl (by omega) (by omega), w_id (a := (k : Int) + 1) (by omega)]
    simp only [zb1_some]
    refine Ok.lett (Ok.ret ⟨⟨k + 1, by show (k : Int) + 1 = _; omega, by omega, by omega, i4.trans (cfr.zs rfl (by decide)), fun j => ?_⟩, by show (100 - ((k : Int) + 1)).toNat < (100 - (k : Int)).toNat; omega⟩)
    show zs M1 6 ((k : Int) - 1) (M1 6 k) 6 j = _
    by_cases e : (j : Int) = (k : Int) - 1
    · rw [e, zs_at, i5 k, if_neg (by omega), if_pos (by omega)]
      congr 1
      omega
    · rw [zs_off _ _ (Or.inr e), i5 j]
      by_cases e2 : t ≤ j ∧ j + 1 < k
      · rw [if_pos e2, if_pos (by omega)]
      · rw [if_neg e2, if_neg (by omega)]
  · intro M1 ⟨c1, c2⟩
    unfold F_X2_dropAxiom_J33
    rw [c1.1 5 (by decide) (Or.inl (by decide)), x1, w_id (a := (ax.length : Int) - 1) (by omega)]
    refine Ok.lett (Ok.ret ⟨⟨?_, fun j v hj => ?_⟩, fun k hk => ?_, (c1.mono (fun b q => Or.inr q)).trans (cfr.zs (Or.inl rfl) (by decide))⟩)
    · rw [zs_at, List.length_eraseIdx_of_lt ht]; omega
    · rw [zs_ne _ _ _ (by decide), c2 j]
      rw [List.getElem?_eraseIdx] at hj
      by_cases e : j < t
      · rw [if_pos e] at hj
        rw [if_neg (by omega)]
        exact x2 j v hj
      · rw [if_neg e] at hj
        have := (List.getElem?_eq_some_iff.mp hj).1
        rw [if_pos (by omega)]
        have h2 := x2 (j + 1) v hj
        rw [show ((j + 1 : Nat) : Int) = (j : Int) + 1 by omega] at h2
        exact h2
    · rw [zs_off _ _ (Or.inr hk), c1.1 5 (by decide) (Or.inl (by decide))]
theorem mdlW.axs {G : zGr} {ax ax1 : List Int} {cur : Int} {R : zRst} {M M1 : zM} (h : mdlW G ax cur R M) (hf : mfr (fun b => b = 49) (fun k => k = 0 ∨ k = 2) M M1) (ha : axM M1 ax1) : mdlW G ax1 cur R M1 ∧ keepC M M1 := by
  obtain ⟨h1, h2, h3, r1, r2, r3, r4⟩ := h
  have e : ∀ k : Int, k ≠ 0 → k ≠ 2 → k ≠ 20 → k ≠ 21 → M1 48 k = M 48 k := fun k a b d f => hf.2 k (by omega) d f
  have eb : ∀ b : Nat, b = 54 ∨ (67 ≤ b ∧ b ≤ 75) → M1 b = M b := fun b a => hf.1 b (by omega) (by omega) (by omega) (by omega)
  refine ⟨⟨h1.fr hf ⟨by omega, by omega, by omega, by omega⟩ ⟨by omega, by omega, by omega⟩, ha, by rw [e 29 (by decide) (by decide) (by decide) (by decide)]; exact h3, ?_, ?_, ?_, ?_⟩, keepC.of hf (fun b q => by omega)⟩
  · unfold savM at *
    rw [e 37 (by decide) (by decide) (by decide) (by decide), eb 70 (by decide), eb 71 (by decide), eb 72 (by decide), eb 73 (by decide), eb 74 (by decide), eb 75 (by decide)]
    exact r1
  · rw [e 11 (by decide) (by decide) (by decide) (by decide), eb 54 (by decide)]; exact r2
  · rw [e 14 (by decide) (by decide) (by decide) (by decide)]; exact r3
  · unfold sltM at *
    rw [eb 67 (by decide), eb 68 (by decide), eb 69 (by decide)]
    exact r4
def mnRm (a b : zAbs) (p : Prop) (c v : Int) (k : zAbs) : Prop := (¬ p ∧ c = 1 ∧ v = 0 ∧ k = a) ∨ (p ∧ c = 0 ∧ v = 0 ∧ k = b)
theorem mnRm.fnl {a b : zAbs} {p : Prop} : fnlA (mnRm a b p) := by
  rintro c v k c2 v2 k2 (⟨a1, a2, a3, a4⟩ | ⟨a1, a2, a3, a4⟩) (⟨b1, b2, b3, b4⟩ | ⟨b1, b2, b3, b4⟩)
  · exact ⟨by omega, fun _ => by omega, by rw [a4, b4]⟩
  · exact absurd b1 a1
  · exact absurd a1 b1
  · exact ⟨by omega, fun _ => by omega, by rw [a4, b4]⟩
theorem L_removeAxiom (hC : clsW B G ax cur R M S) (hM : mdlW G ax cur R M) (hb : (0 : Int) ≤ w (v5 + 1) ∧ w (v5 + 1) < lnS) (hn : lxA B lnS scr v5 P) : Ok (F_L_law_J307 lnS scr v5 M S) P := by
  unfold F_L_law_J307
  simp only [zchk_pos hb]
  generalize scr (w (v5 + 1)) = t
  have h6 := hC.2.1.2.1.1
  refine blkNA (B1 := B) (mnRm.fnl (a := (G, ax, cur, R)) (b := (G, ax.eraseIdx t.toNat, cur, R)) (p := 0 ≤ t ∧ t < (ax.length : Int))) hC hM ?_ (fun M1 hst hM1 => ?_) hn
  · unfold F_L_removeAxiom
    refine wrapNA (V := fun r k => (¬ (0 ≤ t ∧ t < (ax.length : Int)) ∧ r = .inl 2 ∧ k = (G, ax, cur, R)) ∨ ((0 ≤ t ∧ t < (ax.length : Int)) ∧ r = .inr () ∧ k = (G, ax.eraseIdx t.toNat, cur, R))) ?_ (fun e k M S q => ?_) (fun k q => ?_)
    · unfold F_X10_removeAxiom F_X10_requireAxiom F_X10_requireIndex F_X10_requireIndex_J9
      rw [hC.2.2.2.2.1.1]
      by_cases q : 0 ≤ t ∧ t < (ax.length : Int)
      · rw [if_neg (by omega), if_pos q.2, zbx_inr, zbx_inr]
        obtain ⟨i, hi⟩ : ∃ i : Nat, t = i := ⟨t.toNat, by omega⟩
        subst hi
        rw [Int.toNat_natCast]
        refine Ok.b1 (CX_drop hC (by omega)) (fun M1 ⟨d1, d2, d3⟩ => ?_)
        obtain ⟨a1, a2, ⟨g1, g2, g3, g4⟩, a4, a5, a6, a7, ⟨n1, n2, n3⟩, r1, r2, r3, r4⟩ := id hC
        have eb : ∀ b : Nat, b ≤ 77 → b ≠ 5 → b ≠ 6 → M1 b = M b := fun b h h1 h2 => d3.1 b (by omega) (Or.inl h)
        refine Ok.b1 (chg (B := B) (G := G) (ax := ax.eraseIdx i) (cur := cur) (R := R) a1 ⟨a2.1, axok_er a2.2.1, a2.2.2⟩ ⟨by rw [d2 3 (by decide)]; exact g1, by rw [d2 4 (by decide)]; exact g2, by rw [d2 5 (by decide)]; exact g3, fun j L R pr q => d3.2 _ _ _ _ (g4 j L R pr q)⟩ a4 d1 (by rw [eb 1 (by decide) (by decide) (by decide)]; exact a6) (a7.1.fr (by rw [eb 11 (by decide) (by decide) (by decide)]) (eb 12 (by decide) (by decide) (by decide)) (eb 13 (by decide) (by decide) (by decide)) (eb 15 (by decide) (by decide) (by decide))) ⟨by rw [eb 25 (by decide) (by decide) (by decide)]; exact n1, by rw [eb 25 (by decide) (by decide) (by decide), eb 27 (by decide) (by decide) (by decide)]; exact n2⟩ ⟨?_, ?_, ?_, ?_⟩) (fun M2 ⟨e1, e2⟩ => Ok.ret ⟨(G, ax.eraseIdx i, cur, R), e1, (keepM.of d3 (fun b q => by omega)).trans e2, Or.inr ⟨q, rfl, rfl⟩⟩)
        · unfold savC gS axS at *
          rw [eb 1 (by decide) (by decide) (by decide), eb 8 (by decide) (by decide) (by decide), eb 9 (by decide) (by decide) (by decide)]
          rcases r1 with b | ⟨b1, G1, ax1, cur1, b2, b3, ⟨c1, c2, c3, c4⟩, b5⟩
          · exact Or.inl b
          · exact Or.inr ⟨b1, G1, ax1, cur1, b2, b3, ⟨c1, c2, c3, fun j L R pr q => d3.2 _ _ _ _ (c4 j L R pr q)⟩, b5⟩
        · rw [eb 2 (by decide) (by decide) (by decide), eb 3 (by decide) (by decide) (by decide)]; exact r2
        · rw [eb 1 (by decide) (by decide) (by decide)]; exact r3
        · intro k hk
          rw [eb (42 + 2 * k) (by omega) (by omega) (by omega), eb (43 + 2 * k) (by omega) (by omega) (by omega)]
          exact r4 k hk
      · have hz : (if t < 0 then some (Sum.inl 2, M, zn S (99, 0)) else if t < (ax.length : Int) then some (Sum.inr (), M, S) else some (Sum.inl 2, M, zn S (99, 0)) : Option ((Nat ⊕ Unit) × zM × zS)) = some (Sum.inl 2, M, zn S (99, 0)) := by
          by_cases z : t < 0
          · rw [if_pos z]
          · rw [if_neg z, if_neg (by omega)]
        rw [hz, zbx_inl, zbx_inl]
        exact Ok.ret ⟨(G, ax, cur, R), hC.zer _, keepM.refl, Or.inl ⟨q, rfl, rfl⟩⟩
    · rcases q with ⟨q1, q2, q3⟩ | ⟨q1, q2, q3⟩
      · cases q2; exact ⟨1, rfl, Or.inl ⟨q1, rfl, rfl, q3⟩⟩
      · cases q2
    · rcases q with ⟨q1, q2, q3⟩ | ⟨q1, q2, q3⟩
      · cases q2
      · exact Or.inr ⟨q1, rfl, rfl, q3⟩
  · obtain ⟨x1, x2⟩ := hM1.2.1
    have e2 : zs M1 48 0 0 48 2 = (ax.length : Int) := by rw [zs_off _ _ (Or.inr (by decide))]; exact x1
    unfold F_X11_removeAxiom
    refine Ok.lett ?_
    rw [e2, FX11_isIn, w_id (a := (ax.length : Int) - 1) (by omega)]
    simp only [zb1_some]
    refine Ok.ite (fun c => Ok.lett (Ok.ret ⟨(G, ax, cur, R), hM1.scr (mfr.trans (mscr.th (v := 0)) mscr.th), keepC.scr (mfr.trans (mscr.th (v := 0)) mscr.th), Or.inl ⟨fun q => by rw [if_pos ⟨q.1, by omega⟩] at c; exact absurd c (by decide), zs_at (zs M1 48 0 0) 48 0 1, rfl, rfl⟩⟩)) (fun c => ?_)
    have hq : 0 ≤ t ∧ t ≤ (ax.length : Int) - 1 := by
      by_cases q : 0 ≤ t ∧ t ≤ (ax.length : Int) - 1
      · exact q
      · rw [if_neg q] at c; exact absurd rfl c
    obtain ⟨i, hi⟩ : ∃ i : Nat, t = i := ⟨t.toNat, by omega⟩
    subst hi
    rw [Int.toNat_natCast]
    refine Ok.lett ?_
    have hf0 : mfr (fun b => b = 49) (fun k => k = 0 ∨ k = 2) M1 (zs (zs M1 48 0 0) 48 2 ((ax.length : Int) - 1)) := mfr.trans (M1 := zs M1 48 0 0) (mfr.fld (Or.inl rfl)) (mfr.fld (Or.inr rfl))
    have k0 : zs (zs M1 48 0 0) 48 2 ((ax.length : Int) - 1) 48 0 = 0 := by rw [zs_off _ _ (Or.inr (by decide)), zs_at]
    have k2 : zs (zs M1 48 0 0) 48 2 ((ax.length : Int) - 1) 48 2 = (ax.length : Int) - 1 := zs_at _ 48 2 _
    have k49 : zs (zs M1 48 0 0) 48 2 ((ax.length : Int) - 1) 49 = M1 49 := by rw [zs_ne _ _ _ (by decide), zs_ne _ _ _ (by decide)]
    generalize zs (zs M1 48 0 0) 48 2 ((ax.length : Int) - 1) = M2 at hf0 k0 k2 k49 ⊢
    unfold F_X11_removeAxiom_L37
    refine Ok.loop (fun z => ∃ k : Nat, z.1 = k ∧ i ≤ k ∧ k < ax.length ∧ (∀ b, b ≠ 49 → z.2 b = M2 b) ∧ ∀ j : Nat, z.2 49 j = if i ≤ j ∧ j < k then M1 49 ((j : Int) + 1) else M1 49 j) (fun z => (100 - z.1).toNat) (fun M3 => (∀ b, b ≠ 49 → M3 b = M2 b) ∧ ∀ j : Nat, M3 49 j = if i ≤ j ∧ j + 1 < ax.length then M1 49 ((j : Int) + 1) else M1 49 j) ⟨i, rfl, Nat.le_refl i, by omega, fun _ _ => rfl, fun j => by show M2 49 j = _; rw [if_neg (by omega), k49]⟩ (by show (100 - (i : Int)).toNat < zN; rw [zN_v]; omega) ?_ ?_
    · rintro ⟨v2, M3⟩ ⟨k, i1, i2, i3, i4, i5⟩
      dsimp only at i1 i2 i3 i4 i5 ⊢
      subst i1
      unfold F_X11_removeAxiom_B37
      rw [i4 48 (by decide), k2]
      refine Ok.ite (fun z => ?_) (fun z => Ok.ret ⟨i4, fun j => by
        rw [i5 j]
        by_cases e : i ≤ j ∧ j < k
        · rw [if_pos e, if_pos (by omega)]
        · rw [if_neg e, if_neg (by omega)]⟩)
      rw [w_id (a := (k : Int) + 1) (by omega)]
      refine Ok.chk ⟨by omega, by omega⟩ (Ok.chk ⟨by omega, by omega⟩ (Ok.lett (Ok.lett (Ok.ret ⟨⟨k + 1, by show (k : Int) + 1 = _; omega, by omega, by omega, fun b hb => by show zs M3 49 k (M3 49 ((k : Int) + 1)) b = _; rw [zs_ne _ _ _ hb]; exact i4 b hb, fun j => ?_⟩, by show (100 - ((k : Int) + 1)).toNat < (100 - (k : Int)).toNat; omega⟩))))
      show zs M3 49 k (M3 49 ((k : Int) + 1)) 49 j = _
      by_cases e : j = k
      · rw [e, zs_at, if_pos (by omega)]
        have h := i5 (k + 1)
        rw [if_neg (by omega), show ((k + 1 : Nat) : Int) = (k : Int) + 1 by omega] at h
        exact h
      · rw [zs_off _ _ (Or.inr (by omega)), i5 j]
        by_cases e3 : i ≤ j ∧ j < k
        · rw [if_pos e3, if_pos (by omega)]
        · rw [if_neg e3, if_neg (by omega)]
    · intro M3 ⟨c1, c2⟩
      unfold F_X11_removeAxiom_J65
      have hmf : mfr (fun b => b = 49) (fun k => k = 0 ∨ k = 2) M1 M3 := hf0.trans ⟨fun b hb _ _ _ => c1 b hb, fun k _ _ _ => by rw [c1 48 (by decide)]⟩
      obtain ⟨d1, d2⟩ := hM1.axs (ax1 := ax.eraseIdx i) hmf ⟨by rw [c1 48 (by decide), k2, List.length_eraseIdx_of_lt (by omega)]; omega, fun j v hj => by
        rw [c2 j]
        rw [List.getElem?_eraseIdx] at hj
        by_cases e : j < i
        · rw [if_pos e] at hj
          rw [if_neg (by omega)]
          exact x2 j v hj
        · rw [if_neg e] at hj
          have := (List.getElem?_eq_some_iff.mp hj).1
          rw [if_pos (by omega)]
          have h2 := x2 (j + 1) v hj
          rw [show ((j + 1 : Nat) : Int) = (j : Int) + 1 by omega] at h2
          exact h2⟩
      exact Ok.ret ⟨(G, ax.eraseIdx i, cur, R), d1, d2, Or.inr ⟨by omega, by rw [c1 48 (by decide), k0], rfl, rfl⟩⟩
end
