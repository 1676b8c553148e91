/-! PURE 27: the class: the breadth-first walk -/
theorem bfsI.add {G : zGr} {ax : List Int} {M M1 : zM} {Q : List Int} {q j : Nat} {x y : Int} {r : Nat} (hG : grok G) (hax : axok ax) (h : bfsI G ax M Q q) (hx : Q[q]? = some x) (hj : (insL G x)[j]? = some r) (hp : insP G x r) (hy : insV G x r = y) (hny : y ∉ Q) (hDy : lcA G ax y) (hdone : ∀ r2 ∈ (insL G x).take j, insV G x r2 ∈ Q) (e20 : M1 20 = up (M 20) (pos (lcA G ax) y) (M 20 (pos (lcA G ax) x) + 1)) (e21 : M1 21 = up (M 21) (pos (lcA G ax) y) (mvc (pos (lcA G ax) y) r)) (e22 : M1 22 = up (M 22) (pos (lcA G ax) y) (pos (lcA G ax) x)) (e19 : M1 19 = up (M 19) (Q.length : Int) (pos (lcA G ax) y)) : bfsI G ax M1 (Q ++ [y]) q := by
  obtain ⟨⟨b1, b2, b3, b4, b5⟩, i1, i2, i3, i4, i5, i6, i7, i8⟩ := h
  have hDw : ∀ {y}, lcA G ax y → wd y := fun h => (lc_wd hG hax h).1
  have hxm := List.mem_of_getElem? hx
  have hq := (List.getElem?_eq_some_iff.mp hx).1
  have hxy : x ≠ y := fun e => hny (e ▸ hxm)
  have hst : ∀ z, lcA G ax z → z ≠ y → M1 20 (pos (lcA G ax) z) = M 20 (pos (lcA G ax) z) := fun z hz hne => by
    rw [e20, up_ne _ _ (fun e => hne (pos_inj (hDw hz) hz (hDw hDy) hDy e))]
  have hst1 : ∀ z ∈ Q, M1 20 (pos (lcA G ax) z) = M 20 (pos (lcA G ax) z) := fun z hz => hst z (b2 z hz) (fun e => hny (e ▸ hz))
  have hsty : M1 20 (pos (lcA G ax) y) = M 20 (pos (lcA G ax) x) + 1 := by rw [e20, up_eq]
  have hnyax : y ∉ ax := fun a => hny (b3 y hDy a)
  have hx0 := (i3 x (b2 x hxm)).1 hxm
  have hxi := i8 q x hx
  refine ⟨⟨?_, ?_, ?_, ?_, ?_⟩, ?_, ?_, ?_, ?_, ?_, ?_, ?_, ?_⟩
  · intro i k z a1 a2
    rcases app_get a1 with ⟨c1, c2⟩ | ⟨c1, c2⟩ <;> rcases app_get a2 with ⟨d1, d2⟩ | ⟨d1, d2⟩
    · exact b1 i k z c2 d2
    · rw [d2] at c2; exact absurd (List.mem_of_getElem? c2) hny
    · rw [c2] at d2; exact absurd (List.mem_of_getElem? d2) hny
    · omega
  · intro z hz
    rcases List.mem_append.mp hz with a | a
    · exact b2 z a
    · rw [List.mem_singleton.mp a]; exact hDy
  · intro z a1 a2
    exact List.mem_append_left _ (b3 z a1 a2)
  · intro i z a1 a2
    rcases app_get a1 with ⟨c1, c2⟩ | ⟨c1, c2⟩
    · obtain ⟨d1, d2⟩ := b4 i z c2 a2
      refine ⟨by rw [hst1 z (List.mem_of_getElem? c2)]; exact d1, fun k u f1 f2 => ?_⟩
      rcases app_get f1 with ⟨g1, g2⟩ | ⟨g1, g2⟩
      · exact d2 k u g2 f2
      · omega
    · rw [c2] at a2; exact absurd a2 hnyax
  · intro i z a1 a2
    rcases app_get a1 with ⟨c1, c2⟩ | ⟨c1, c2⟩
    · have hzm := List.mem_of_getElem? c2
      have hne : pos (lcA G ax) z ≠ pos (lcA G ax) y := fun e => hny ((pos_inj (hDw (b2 z hzm)) (b2 z hzm) (hDw hDy) hDy e) ▸ hzm)
      exact (b5 i z c2 a2).app c1 (by rw [e22, up_ne _ _ hne]) (by rw [e21, up_ne _ _ hne]) hst1 hzm
    · subst c1 c2
      refine ⟨q, x, r, app_l hx, hq, hp, hy, by rw [e22, up_eq], by rw [e21, up_eq], by rw [hsty, hst1 x hxm], fun ix x2 r2 f1 f2 f3 => ?_⟩
      have hin : insV G x2 r2 ∈ Q := by
        rcases f3 with f3 | ⟨f3, f4⟩
        · rcases app_get f1 with ⟨g1, g2⟩ | ⟨g1, g2⟩
          · exact (i5 ix x2 r2 f3 g2 f2).1
          · omega
        · subst f3
          have ex : x2 = x := by
            rcases app_get f1 with ⟨g1, g2⟩ | ⟨g1, g2⟩
            · rw [hx] at g2; exact (Option.some.inj g2).symm
            · omega
          subst ex
          refine hdone r2 ?_
          have hr2 := (mem_insL hG (hDw (b2 x2 hxm))).mpr f2
          obtain ⟨k, hk⟩ := List.mem_iff_getElem?.mp hr2
          obtain ⟨l1, m1⟩ := List.getElem?_eq_some_iff.mp hk
          obtain ⟨l2, m2⟩ := List.getElem?_eq_some_iff.mp hj
          have hkj : k < j := by
            rcases Nat.lt_trichotomy k j with h | h | h
            · exact h
            · subst h; omega
            · have := List.pairwise_iff_getElem.mp (pw_frl (insP G x2) (100 * G.2.2.length)) j k l2 l1 h
              unfold insL at m1 m2
              omega
          exact List.mem_iff_getElem?.mpr ⟨k, by rw [List.getElem?_take, if_pos hkj]; exact hk⟩
      obtain ⟨iz, hiz⟩ := List.mem_iff_getElem?.mp hin
      exact ⟨iz, (List.getElem?_eq_some_iff.mp hiz).1, app_l hiz⟩
  · have h9 := nd_len (D := fun z => lcA G ax z) (n := 29524) (Q ++ [y]) (fun i k z a1 a2 => by
      rcases app_get a1 with ⟨c1, c2⟩ | ⟨c1, c2⟩ <;> rcases app_get a2 with ⟨d1, d2⟩ | ⟨d1, d2⟩
      · exact b1 i k z c2 d2
      · rw [d2] at c2; exact absurd (List.mem_of_getElem? c2) hny
      · rw [c2] at d2; exact absurd (List.mem_of_getElem? d2) hny
      · omega) (fun z hz => by
      have hz2 : lcA G ax z := by
        rcases List.mem_append.mp hz with a | a
        · exact b2 z a
        · rw [List.mem_singleton.mp a]; exact hDy
      exact ⟨(hDw hz2).1, (hDw hz2).2, hz2⟩)
    rw [len_wl]
    exact h9
  · rw [List.map_append, e19]
    exact rowl_push i2 (by rw [List.length_map])
  · intro z hz
    by_cases e : z = y
    · subst e
      exact ⟨fun _ => by rw [hsty]; omega, fun a => absurd (List.mem_append_right _ List.mem_cons_self) a⟩
    · rw [hst z hz e]
      refine ⟨fun a => (i3 z hz).1 ?_, fun a => (i3 z hz).2 (fun b => a (List.mem_append_left _ b))⟩
      rcases List.mem_append.mp a with b | b
      · exact b
      · exact absurd (List.mem_singleton.mp b) e
  · rw [List.length_append]; omega
  · intro i z r2 a1 a2 a3
    rcases app_get a2 with ⟨c1, c2⟩ | ⟨c1, c2⟩
    · obtain ⟨d1, d2⟩ := i5 i z r2 a1 c2 a3
      exact ⟨List.mem_append_left _ d1, by rw [hst1 _ d1, hst1 z (List.mem_of_getElem? c2)]; exact d2⟩
    · omega
  · intro i k u v a1 a2 a3
    rcases app_get a2 with ⟨c1, c2⟩ | ⟨c1, c2⟩ <;> rcases app_get a3 with ⟨d1, d2⟩ | ⟨d1, d2⟩
    · rw [hst1 u (List.mem_of_getElem? c2), hst1 v (List.mem_of_getElem? d2)]; exact i6 i k u v a1 c2 d2
    · rw [hst1 u (List.mem_of_getElem? c2), d2, hsty]; exact i7 i x u hx c2
    · omega
    · rw [c2, d2]; exact Int.le_refl _
  · intro k u v a1 a2
    rcases app_get a1 with ⟨c1, c2⟩ | ⟨c1, c2⟩
    · have eu : u = x := by rw [hx] at c2; exact (Option.some.inj c2).symm
      rw [eu, hst1 x hxm]
      rcases app_get a2 with ⟨d1, d2⟩ | ⟨d1, d2⟩
      · rw [hst1 v (List.mem_of_getElem? d2)]; exact i7 k x v hx d2
      · rw [d2, hsty]; exact Int.le_refl _
    · omega
  · intro i u a1
    rcases app_get a1 with ⟨c1, c2⟩ | ⟨c1, c2⟩
    · rw [hst1 u (List.mem_of_getElem? c2)]; exact i8 i u c2
    · rw [c2, hsty]; omega
theorem bfsI.fr {G : zGr} {ax : List Int} {M M1 : zM} {Q : List Int} {q : Nat} (h : bfsI G ax M Q q) (e19 : M1 19 = M 19) (e20 : M1 20 = M 20) (e21 : M1 21 = M 21) (e22 : M1 22 = M 22) : bfsI G ax M1 Q q := by
  unfold bfsI bfs fnd at *
  rw [e19, e20, e21, e22]
  exact h
theorem FX3_bfs {M : zM} {S : zS} {G : zGr} {ax : List Int} {Q0 : List Int} (hF : zFx S) (hG : grok G) (hax : axok ax) (hL : lang1 G ax M) (h0 : bfsI G ax M Q0 0) : Ok (F_X3_findBestDerivations_L62 (Q0.length : Int) 0 M S) (fun M1 => bfsF G ax M1 ∧ lfr (fun b => b = 19 ∨ b = 20 ∨ b = 21 ∨ b = 22) (fun _ => False) M M1) := by
  obtain ⟨l1, l2, l3, l4, l5, l6, l7⟩ := hL
  have hDw : ∀ {y}, lcA G ax y → wd y := fun h => (lc_wd hG hax h).1
  unfold F_X3_findBestDerivations_L62
  refine Ok.loop (fun z => ∃ (Q : List Int) (q : Nat), z.1 = (Q.length : Int) ∧ z.2.1 = q ∧ lfr (fun b => b = 19 ∨ b = 20 ∨ b = 21 ∨ b = 22) (fun _ => False) M z.2.2 ∧ bfsI G ax z.2.2 Q q) (fun z => (400 - z.2.1).toNat) _ ⟨Q0, 0, rfl, rfl, lfr.refl, h0⟩ (by show (400 - (0 : Int)).toNat < zN; decide) ?_ (fun e he => Ok.ret he)
  rintro ⟨v1, v2, M1⟩ ⟨Q, q, i1, i2, i3, i4⟩
  dsimp only at i1 i2 i3 i4 ⊢
  subst i1 i2
  have hQl := i4.2.1
  unfold F_X3_findBestDerivations_B62
  refine Ok.ite (fun q1 => Ok.ite (fun q2 => ?_) (fun q2 => by omega)) (fun q1 => Ok.ret ⟨⟨Q, i4.1, ?_⟩, i3⟩)
  · have hqL : q < Q.length := by omega
    have hx := List.getElem?_eq_getElem hqL
    generalize Q[q] = x at hx
    have hxm := List.mem_of_getElem? hx
    have hDx := i4.1.2.1 x hxm
    have hpx := pos_lt (hDw hDx) hDx
    have hgx := wl_at (hDw hDx) hDx
    have e19 : M1 19 (q : Int) = pos (lcA G ax) x := i4.2.2.1 q _ (by rw [List.getElem?_map, hx]; rfl)
    rw [xat hF 19 300 rfl (by omega) (by omega)]
    simp only [zb1_some]
    rw [e19, xat hF 15 301 rfl (by omega) (by omega)]
    simp only [zb1_some]
    have hpe : pos (lcA G ax) x = ((cnt (lcA G ax) x.toNat : Nat) : Int) := rfl
    generalize hi : cnt (lcA G ax) x.toNat = i at hgx hpe
    have hil : i < (wl_ (lcA G ax)).length := by omega
    have hep := ep_s (G := G) hgx
    have hepb := ep_b (G := G) (D := lcA G ax) (i := i + 1) hG (by omega) l2
    have hlin := len_insL hG (x := x)
    have hxst := i4.2.2.2.2.2.2.2.2 q x hx
    have hxs0 := (i4.2.2.2.1 x hDx).1 hxm
    rw [i3.1 15 (by decide) (by decide), hpe, l6 i (by omega)]
    show Ok (F_X3_findBestDerivations_L93 (Q.length : Int) q i (ep G (lcA G ax) i) M1 S) _
    unfold F_X3_findBestDerivations_L93
    refine Ok.loop (fun z => ∃ (Q1 : List Int) (j : Nat), z.1 = (Q1.length : Int) ∧ z.2.1 = ((ep G (lcA G ax) i + j : Nat) : Int) ∧ j ≤ (insL G x).length ∧ lfr (fun b => b = 19 ∨ b = 20 ∨ b = 21 ∨ b = 22) (fun _ => False) M z.2.2 ∧ bfsI G ax z.2.2 Q1 q ∧ Q1[q]? = some x ∧ ∀ r ∈ (insL G x).take j, insV G x r ∈ Q1 ∧ z.2.2 20 (pos (lcA G ax) (insV G x r)) ≤ z.2.2 20 (pos (lcA G ax) x) + 1) (fun z => (((ep G (lcA G ax) (i + 1) : Nat) : Int) - z.2.1).toNat) (fun e => ∃ Q1 : List Int, e.1 = (Q1.length : Int) ∧ lfr (fun b => b = 19 ∨ b = 20 ∨ b = 21 ∨ b = 22) (fun _ => False) M e.2 ∧ bfsI G ax e.2 Q1 (q + 1)) ⟨Q, 0, rfl, rfl, by omega, i3, i4, hx, fun r a => by simp at a⟩ (by show (((ep G (lcA G ax) (i + 1) : Nat) : Int) - ((ep G (lcA G ax) i + 0 : Nat) : Int)).toNat < zN; rw [zN_v]; omega) ?_ ?_
    · rintro ⟨v1, v4, M2⟩ ⟨Q1, j, j1, j2, j3, j4, j5, j6, j7⟩
      dsimp only at j1 j2 j3 j4 j5 j6 j7 ⊢
      subst j1 j2
      unfold F_X3_findBestDerivations_B93
      rw [w_id (a := (i : Int) + 1) (by omega), xat hF 15 301 rfl (by omega) (by omega)]
      simp only [zb1_some]
      rw [j4.1 15 (by decide) (by decide), show (i : Int) + 1 = ((i + 1 : Nat) : Int) by omega, l6 (i + 1) (by omega), show (((wl_ (lcA G ax)).take (i + 1)).flatMap (eln G (lcA G ax))).length = ep G (lcA G ax) (i + 1) from rfl]
      refine Ok.ite (fun q3 => ?_) (fun q3 => Ok.ret ?_)
      · have hj : j < (insL G x).length := by omega
        have hgj := List.getElem?_eq_getElem hj
        have htj : (insL G x).take (j + 1) = (insL G x).take j ++ [(insL G x)[j]] := List.take_succ_eq_append_getElem hj
        generalize (insL G x)[j] = r at hgj htj
        have hmj : ∀ z, z ∈ (insL G x).take (j + 1) ↔ z ∈ (insL G x).take j ∨ z = r := fun z => by rw [htj, List.mem_append, List.mem_singleton]
        obtain ⟨e1, e2, e3, e4, e5, e6, e7, e8, e9, e10, e11⟩ := edge hG hax l2 hgx hgj
        have hx2 := j5.2.2.2.2.2.2.2.2 q x j6
        have hx20 := (j5.2.2.2.1 x hDx).1 (List.mem_of_getElem? j6)
        have hQ1l := j5.2.1
        rw [xat hF 14 67500 rfl (by omega) (by omega)]
        simp only [zb1_some]
        rw [j4.1 14 (by decide) (by decide), ep_at l5 hgx hgj, FX4_word e10 e11]
        simp only [zb1_some]
        rw [e9, xat hF 20 300 rfl (by omega) (by omega)]
        simp only [zb1_some]
        have go : ∀ (Q2 : List Int) (M3 : zM), lfr (fun b => b = 19 ∨ b = 20 ∨ b = 21 ∨ b = 22) (fun _ => False) M M3 → bfsI G ax M3 Q2 q → Q2[q]? = some x → (∀ r ∈ (insL G x).take (j + 1), insV G x r ∈ Q2 ∧ M3 20 (pos (lcA G ax) (insV G x r)) ≤ M3 20 (pos (lcA G ax) x) + 1) → Ok (F_X3_findBestDerivations_J191 (Q2.length : Int) q i ((ep G (lcA G ax) i + j : Nat) : Int) M3 S) (Turn (fun z : Int × Int × zM => ∃ (Q1 : List Int) (j : Nat), z.1 = (Q1.length : Int) ∧ z.2.1 = ((ep G (lcA G ax) i + j : Nat) : Int) ∧ j ≤ (insL G x).length ∧ lfr (fun b => b = 19 ∨ b = 20 ∨ b = 21 ∨ b = 22) (fun _ => False) M z.2.2 ∧ bfsI G ax z.2.2 Q1 q ∧ Q1[q]? = some x ∧ ∀ r ∈ (insL G x).take j, insV G x r ∈ Q1 ∧ z.2.2 20 (pos (lcA G ax) (insV G x r)) ≤ z.2.2 20 (pos (lcA G ax) x) + 1) (fun z => (((ep G (lcA G ax) (i + 1) : Nat) : Int) - z.2.1).toNat) (fun e : Int × zM => ∃ Q1 : List Int, e.1 = (Q1.length : Int) ∧ lfr (fun b => b = 19 ∨ b = 20 ∨ b = 21 ∨ b = 22) (fun _ => False) M e.2 ∧ bfsI G ax e.2 Q1 (q + 1)) ((Q1.length : Int), ((ep G (lcA G ax) i + j : Nat) : Int), M2)) := fun Q2 M3 a1 a2 a3 a4 => by
          unfold F_X3_findBestDerivations_J191
          rw [w_id (a := ((ep G (lcA G ax) i + j : Nat) : Int) + 1) (by omega)]
          exact Ok.lett (Ok.ret ⟨⟨Q2, j + 1, rfl, by show ((ep G (lcA G ax) i + j : Nat) : Int) + 1 = _; omega, by omega, a1, a2, a3, a4⟩, by show (((ep G (lcA G ax) (i + 1) : Nat) : Int) - (((ep G (lcA G ax) i + j : Nat) : Int) + 1)).toNat < (((ep G (lcA G ax) (i + 1) : Nat) : Int) - ((ep G (lcA G ax) i + j : Nat) : Int)).toNat; omega⟩)
        refine Ok.ite (fun q4 => ?_) (fun q4 => go Q1 M2 j4 j5 j6 (fun r2 a => ?_))
        · have hny : insV G x r ∉ Q1 := fun a => by have := (j5.2.2.2.1 _ e6).1 a; omega
          rw [xat hF 20 300 rfl (by omega) (by omega)]
          simp only [zb1_some]
          rw [← hpe, w_id (a := M2 20 (pos (lcA G ax) x) + 1) (by omega), xput hF 20 300 rfl (by omega) (by omega)]
          simp only [zb1_some]
          rw [xput hF 21 300 rfl (by omega) (by omega)]
          simp only [zb1_some]
          rw [xput hF 22 300 rfl (by omega) (by omega)]
          simp only [zb1_some]
          have hlt9 : Q1.length < (wl_ (lcA G ax)).length := by
            have h9 := nd_len (D := fun z => lcA G ax z ∧ z ≠ insV G x r) (n := 29524) Q1 j5.1.1 (fun z hz => ⟨(hDw (j5.1.2.1 z hz)).1, (hDw (j5.1.2.1 z hz)).2, j5.1.2.1 z hz, fun e => hny (e ▸ hz)⟩)
            have h8 := cnt_add (D := fun z => lcA G ax z ∧ z ≠ insV G x r) (y := insV G x r) (fun a => a.2 rfl) e5.1 (n := 29524) e5.2
            have h7 := cnt_le (D := fun z => (lcA G ax z ∧ z ≠ insV G x r) ∨ z = insV G x r) (E := lcA G ax) (n := 29524) (fun k _ a => by
              rcases a with a | a
              · exact a.1
              · rw [a]; exact e6)
            rw [len_wl]
            omega
          rw [xput hF 19 300 rfl (by omega) (by omega)]
          simp only [zb1_some]
          refine Ok.lett ?_
          rw [w_id (a := (Q1.length : Int) + 1) (by omega)]
          obtain ⟨M3, hM3⟩ : ∃ M3, M3 = zs (zs (zs (zs M2 20 (pos (lcA G ax) (insV G x r)) (M2 20 (pos (lcA G ax) x) + 1)) 21 (pos (lcA G ax) (insV G x r)) (mvc (pos (lcA G ax) (insV G x r)) r)) 22 (pos (lcA G ax) (insV G x r)) (pos (lcA G ax) x)) 19 (Q1.length : Int) (pos (lcA G ax) (insV G x r)) := ⟨_, rfl⟩
          rw [← hM3]
          have n20 : M3 20 = up (M2 20) (pos (lcA G ax) (insV G x r)) (M2 20 (pos (lcA G ax) x) + 1) := by rw [hM3, zs_ne _ _ _ (by decide), zs_ne _ _ _ (by decide), zs_ne _ _ _ (by decide), zs_eq]
          have n21 : M3 21 = up (M2 21) (pos (lcA G ax) (insV G x r)) (mvc (pos (lcA G ax) (insV G x r)) r) := by rw [hM3, zs_ne _ _ _ (by decide), zs_ne _ _ _ (by decide), zs_eq, zs_ne _ _ _ (by decide)]
          have n22 : M3 22 = up (M2 22) (pos (lcA G ax) (insV G x r)) (pos (lcA G ax) x) := by rw [hM3, zs_ne _ _ _ (by decide), zs_eq, zs_ne _ _ _ (by decide), zs_ne _ _ _ (by decide)]
          have n19 : M3 19 = up (M2 19) (Q1.length : Int) (pos (lcA G ax) (insV G x r)) := by rw [hM3, zs_eq, zs_ne _ _ _ (by decide), zs_ne _ _ _ (by decide), zs_ne _ _ _ (by decide)]
          have hf3 : lfr (fun b => b = 19 ∨ b = 20 ∨ b = 21 ∨ b = 22) (fun _ => False) M M3 := by
            rw [hM3]
            exact j4.trans ((lfr.cell (Or.inr (Or.inl rfl)) (by decide)).trans ((lfr.cell (Or.inr (Or.inr (Or.inl rfl))) (by decide)).trans ((lfr.cell (Or.inr (Or.inr (Or.inr rfl))) (by decide)).trans (lfr.cell (Or.inl rfl) (by decide)))))
          have hadd := j5.add (M1 := M3) hG hax j6 hgj e1 rfl hny e6 (fun r2 a => (j7 r2 a).1) n20 n21 n22 n19
          have hlen : ((Q1 ++ [insV G x r]).length : Int) = (Q1.length : Int) + 1 := by rw [List.length_append, List.length_singleton]; omega
          rw [← hlen]
          have hnex : pos (lcA G ax) x ≠ pos (lcA G ax) (insV G x r) := fun e => by have := pos_inj e3 e4 e5 e6 e; omega
          refine go _ M3 hf3 hadd (app_l j6) (fun r2 a => ?_)
          rcases (hmj r2).mp a with a | a
          · obtain ⟨c1, c2⟩ := j7 r2 a
            have hne2 : pos (lcA G ax) (insV G x r2) ≠ pos (lcA G ax) (insV G x r) := fun e => hny ((pos_inj (hDw (j5.1.2.1 _ c1)) (j5.1.2.1 _ c1) e5 e6 e) ▸ c1)
            exact ⟨List.mem_append_left _ c1, by rw [n20, up_ne _ _ hne2, up_ne _ _ hnex]; exact c2⟩
          · rw [a]
            exact ⟨List.mem_append_right _ List.mem_cons_self, by rw [n20, up_eq, up_ne _ _ hnex]; exact Int.le_refl _⟩
        · rcases (hmj r2).mp a with a | a
          · exact j7 r2 a
          · rw [a]
            have hin : insV G x r ∈ Q1 := Classical.byContradiction (fun b => q4 (by rw [(j5.2.2.2.1 _ e6).2 b]; decide))
            obtain ⟨k, hk⟩ := List.mem_iff_getElem?.mp hin
            exact ⟨hin, j5.2.2.2.2.2.2.2.1 k x _ j6 hk⟩
      · have ej : j = (insL G x).length := by omega
        rw [ej, List.take_length] at j7
        obtain ⟨b0, b1, b2, b3, b4, b5, b6, b7, b8⟩ := j5
        refine ⟨Q1, rfl, j4, b0, b1, b2, b3, by have := (List.getElem?_eq_some_iff.mp j6).1; omega, fun k z r a1 a2 a3 => ?_, b6, fun k u v a1 a2 => ?_, b8⟩
        · by_cases e : k = q
          · rw [e, j6] at a2
            have ez := Option.some.inj a2
            subst ez
            exact j7 r ((mem_insL hG (hDw hDx)).mpr a3)
          · exact b5 k z r (by omega) a2 a3
        · have h1 := b7 k x v j6 a2
          have h2 := b6 q (q + 1) x u (by omega) j6 a1
          show M2 20 (pos (lcA G ax) v) ≤ M2 20 (pos (lcA G ax) u) + 1
          omega
    · rintro ⟨v1, M2⟩ ⟨Q1, a1, a2, a3⟩
      dsimp only at a1 a2 a3
      subst a1
      show Ok (F_X3_findBestDerivations_J197 (Q1.length : Int) q M2 S) _
      unfold F_X3_findBestDerivations_J197
      rw [w_id (a := (q : Int) + 1) (by omega)]
      exact Ok.lett (Ok.ret ⟨⟨Q1, q + 1, rfl, by show (q : Int) + 1 = _; omega, a2, a3⟩, by show (400 - ((q : Int) + 1)).toNat < (400 - (q : Int)).toNat; omega⟩)
  · obtain ⟨⟨b1, b2, b3, b4, b5⟩, c1, c2, c3, c4, c5, c6, c7, c8⟩ := i4
    have eq : q = Q.length := by omega
    have hall : ∀ y, lcA G ax y → y ∈ Q := fun y hy => hy (fun y => y ∈ Q) (fun a ha hl => b3 a (lc_ax ha hl) ha) (fun x r hx hp _ => by
      obtain ⟨k, hk⟩ := List.mem_iff_getElem?.mp hx
      exact (c5 k x r (by have := (List.getElem?_eq_some_iff.mp hk).1; omega) hk hp).1)
    refine ⟨hall, fun y hy => (c3 y hy).1 (hall y hy), fun x r hx hp => ?_⟩
    obtain ⟨k, hk⟩ := List.mem_iff_getElem?.mp (hall x hx)
    exact (c5 k x r (by have := (List.getElem?_eq_some_iff.mp hk).1; omega) hk hp).2
theorem FX3_findBestDerivations {M : zM} {S : zS} {G : zGr} {ax : List Int} (hF : zFx S) (hG : grok G) (hax : axok ax) (hL : lang1 G ax M) : Ok (F_X3_findBestDerivations M S) (fun M1 => bfsF G ax M1 ∧ lfr (fun b => b = 19 ∨ b = 20 ∨ b = 21 ∨ b = 22) (fun _ => False) M M1) := by
  obtain ⟨l1, l2, l3, l4, l5, l6, l7⟩ := id hL
  have hDw : ∀ {y}, lcA G ax y → wd y := fun h => (lc_wd hG hax h).1
  unfold F_X3_findBestDerivations F_X3_findBestDerivations_L4
  refine Ok.loop (fun z => ∃ i : Nat, z.1 = ((((wl_ (lcA G ax)).take i).filter (fun y => decide (y ∈ ax))).length : Int) ∧ z.2.1 = i ∧ i ≤ (wl_ (lcA G ax)).length ∧ lfr (fun b => b = 19 ∨ b = 20) (fun _ => False) M z.2.2 ∧ rowl (z.2.2 19) ((((wl_ (lcA G ax)).take i).filter (fun y => decide (y ∈ ax))).map (pos (lcA G ax))) ∧ ∀ y ∈ (wl_ (lcA G ax)).take i, z.2.2 20 (pos (lcA G ax) y) = if y ∈ ax then 0 else -1) (fun z => (400 - z.2.1).toNat) (fun e => e.1 = (((wl_ (lcA G ax)).filter (fun y => decide (y ∈ ax))).length : Int) ∧ lfr (fun b => b = 19 ∨ b = 20) (fun _ => False) M e.2 ∧ rowl (e.2 19) (((wl_ (lcA G ax)).filter (fun y => decide (y ∈ ax))).map (pos (lcA G ax))) ∧ ∀ y, lcA G ax y → e.2 20 (pos (lcA G ax) y) = if y ∈ ax then 0 else -1) ⟨0, rfl, rfl, by omega, lfr.refl, rowl_nil _, fun y a => by simp at a⟩ (by show (400 - (0 : Int)).toNat < zN; decide) ?_ ?_
  · rintro ⟨v1, v2, M1⟩ ⟨i, i1, i2, i3, i4, i5, i6⟩
    dsimp only at i1 i2 i3 i4 i5 i6 ⊢
    subst i1 i2
    unfold F_X3_findBestDerivations_B4
    rw [i4.2 13 (fun a => a), l1]
    refine Ok.ite (fun q => ?_) (fun q => Ok.ret ?_)
    · have hi : i < (wl_ (lcA G ax)).length := by omega
      have hg := List.getElem?_eq_getElem hi
      have htk : (wl_ (lcA G ax)).take (i + 1) = (wl_ (lcA G ax)).take i ++ [(wl_ (lcA G ax))[i]] := List.take_succ_eq_append_getElem hi
      have hfl := List.length_filter_le (fun y => decide (y ∈ ax)) ((wl_ (lcA G ax)).take i)
      rw [List.length_take] at hfl
      have h17 := l7 i _ hg
      generalize (wl_ (lcA G ax))[i] = x at hg htk h17
      have hix := wl_idx hg
      have hposx : pos (lcA G ax) x = i := by unfold pos; omega
      have hmemt : ∀ z, z ∈ (wl_ (lcA G ax)).take (i + 1) ↔ z ∈ (wl_ (lcA G ax)).take i ∨ z = x := fun z => by rw [htk, List.mem_append, List.mem_singleton]
      have hlow := wl_take hg
      rw [xat hF 17 300 rfl (by omega) (by omega)]
      simp only [zb1_some]
      rw [i4.1 17 (by decide) (by decide), h17]
      have hw1 : w ((if x ∈ ax then (1 : Int) else 0) - 1) = if x ∈ ax then 0 else -1 := by split <;> decide
      rw [hw1, xput hF 20 300 rfl (by omega) (by omega)]
      simp only [zb1_some]
      rw [xat hF 17 300 rfl (by omega) (by omega)]
      simp only [zb1_some]
      rw [zs_ne M1 _ _ (show (17 : Nat) ≠ 20 by decide), i4.1 17 (by decide) (by decide), h17]
      have h20 : ∀ y ∈ (wl_ (lcA G ax)).take (i + 1), zs M1 20 (i : Int) (if x ∈ ax then 0 else -1) 20 (pos (lcA G ax) y) = if y ∈ ax then 0 else -1 := fun y hy => by
        rcases (hmemt y).mp hy with a | a
        · have hne : pos (lcA G ax) y ≠ i := fun e => by
            have hym := mem_wl.mp (List.mem_of_mem_take a)
            have := pos_inj hym.1 hym.2 hix.2.1 hix.2.2 (e.trans hposx.symm)
            have := hlow y a
            omega
          rw [zs_off _ _ (Or.inr hne)]; exact i6 y a
        · rw [a, hposx, zs_at]
      have hf20 : lfr (fun b => b = 19 ∨ b = 20) (fun _ => False) M (zs M1 20 (i : Int) (if x ∈ ax then 0 else -1)) := i4.trans (lfr.cell (Or.inr rfl) (by decide))
      have e19 : zs M1 20 (i : Int) (if x ∈ ax then 0 else -1) 19 = M1 19 := zs_ne _ _ _ (by decide)
      generalize zs M1 20 (i : Int) (if x ∈ ax then 0 else -1) = M2 at h20 hf20 e19
      unfold F_X3_findBestDerivations_J54
      by_cases hxa : x ∈ ax
      · rw [if_pos hxa]
        refine Ok.pos rfl ?_
        rw [xput hF 19 300 rfl (by omega) (by omega)]
        simp only [zb1_some]
        have hfe : ((wl_ (lcA G ax)).take (i + 1)).filter (fun y => decide (y ∈ ax)) = ((wl_ (lcA G ax)).take i).filter (fun y => decide (y ∈ ax)) ++ [x] := by rw [htk, List.filter_append, List.filter_cons, decide_eq_true hxa]; rfl
        rw [w_id (a := ((((wl_ (lcA G ax)).take i).filter (fun y => decide (y ∈ ax))).length : Int) + 1) (by omega), w_id (a := (i : Int) + 1) (by omega)]
        refine Ok.lett (Ok.lett (Ok.ret ⟨⟨i + 1, by show _ + 1 = _; rw [hfe, List.length_append, List.length_singleton]; omega, by show (i : Int) + 1 = _; omega, by omega, hf20.trans (lfr.cell (Or.inl rfl) (by decide)), ?_, fun y hy => ?_⟩, by show (400 - ((i : Int) + 1)).toNat < (400 - (i : Int)).toNat; omega⟩))
        · show rowl (zs M2 19 _ _ 19) _
          rw [zs_eq, hfe, List.map_append, e19]
          have := rowl_push (v := (i : Int)) i5 (k := ((((wl_ (lcA G ax)).take i).filter (fun y => decide (y ∈ ax))).length : Int)) (by rw [List.length_map])
          rw [List.map_cons, List.map_nil, hposx]
          exact this
        · dsimp only
          rw [zs_ne _ _ _ (by decide)]; exact h20 y hy
      · rw [if_neg hxa]
        have hfe : ((wl_ (lcA G ax)).take (i + 1)).filter (fun y => decide (y ∈ ax)) = ((wl_ (lcA G ax)).take i).filter (fun y => decide (y ∈ ax)) := by rw [htk, List.filter_append, List.filter_cons, decide_eq_false hxa]; simp
        rw [w_id (a := (i : Int) + 1) (by omega)]
        refine Ok.neg (by decide) (Ok.lett (Ok.ret ⟨⟨i + 1, by rw [hfe], by show (i : Int) + 1 = _; omega, by omega, hf20, by show rowl (M2 19) _; rw [hfe, e19]; exact i5, h20⟩, by show (400 - ((i : Int) + 1)).toNat < (400 - (i : Int)).toNat; omega⟩))
    · have e : i = (wl_ (lcA G ax)).length := by omega
      rw [e, List.take_length] at i5 i6 ⊢
      exact ⟨rfl, i4, i5, fun y hy => i6 y (mem_wl.mpr ⟨hDw hy, hy⟩)⟩
  · rintro ⟨v1, M1⟩ ⟨a1, a2, a3, a4⟩
    dsimp only at a1 a2 a3 a4
    subst a1
    show Ok (F_X3_findBestDerivations_J60 _ M1 S) _
    unfold F_X3_findBestDerivations_J60
    have hmm : ∀ y, y ∈ (wl_ (lcA G ax)).filter (fun y => decide (y ∈ ax)) ↔ lcA G ax y ∧ y ∈ ax := fun y => by
      rw [List.mem_filter, decide_eq_true_eq, mem_wl]
      exact ⟨fun h => ⟨h.1.2, h.2⟩, fun h => ⟨⟨hDw h.1, h.1⟩, h.2⟩⟩
    have hpw : ((wl_ (lcA G ax)).filter (fun y => decide (y ∈ ax))).Pairwise (· < ·) := List.Pairwise.filter _ (pw_wl _)
    have hlen := List.length_filter_le (fun y => decide (y ∈ ax)) (wl_ (lcA G ax))
    generalize (wl_ (lcA G ax)).filter (fun y => decide (y ∈ ax)) = Q at a3 hmm hpw hlen
    have hlt : ∀ (i j : Nat) (x y : Int), Q[i]? = some x → Q[j]? = some y → i < j → x < y := fun i j x y b1 b2 b3 => by
      obtain ⟨c1, c2⟩ := List.getElem?_eq_some_iff.mp b1
      obtain ⟨c3, c4⟩ := List.getElem?_eq_some_iff.mp b2
      have := List.pairwise_iff_getElem.mp hpw i j c1 c3 b3
      omega
    have hst0 : ∀ y ∈ Q, M1 20 (pos (lcA G ax) y) = 0 := fun y hy => by
      have := (hmm y).mp hy
      rw [a4 y this.1, if_pos this.2]
    have hI : bfsI G ax M1 Q 0 := by
      refine ⟨⟨fun i j y b1 b2 => ?_, fun y hy => ((hmm y).mp hy).1, fun y b1 b2 => (hmm y).mpr ⟨b1, b2⟩, fun i y b1 b2 => ⟨hst0 y (List.mem_of_getElem? b1), fun j z b3 b4 => ?_⟩, fun i y b1 b2 => absurd ((hmm y).mp (List.mem_of_getElem? b1)).2 b2⟩, hlen, a3, fun y hy => ⟨fun b => by rw [hst0 y b]; decide, fun b => ?_⟩, by omega, fun i x r b1 => by omega, fun i j x y _ b1 b2 => by rw [hst0 x (List.mem_of_getElem? b1), hst0 y (List.mem_of_getElem? b2)]; exact Int.le_refl _, fun j x y b1 b2 => by rw [hst0 x (List.mem_of_getElem? b1), hst0 y (List.mem_of_getElem? b2)]; decide, fun i y b1 => by rw [hst0 y (List.mem_of_getElem? b1)]; omega⟩
      · rcases Nat.lt_trichotomy i j with h | h | h
        · have := hlt i j y y b1 b2 h; omega
        · exact h
        · have := hlt j i y y b2 b1 h; omega
      · rcases b4 with b4 | b4
        · exact absurd ((hmm z).mp (List.mem_of_getElem? b3)).2 b4
        · rcases Nat.lt_trichotomy i j with h | h | h
          · exact h
          · subst h; rw [b1] at b3; cases b3; omega
          · have := hlt j i z y b3 b1 h; omega
      · rw [a4 y hy, if_neg (fun c => b ((hmm y).mpr ⟨hy, c⟩))]
    exact (FX3_bfs hF hG hax (hL.fr a2 (fun b hb => by omega) (fun a => a)) hI).mono (fun M2 ⟨c1, c2⟩ => ⟨c1, (a2.mono (fun b hb => by omega) (fun _ a => a)).trans c2⟩)
