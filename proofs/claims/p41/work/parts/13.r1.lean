/-! PURE 89: the order of words as texts -/
theorem wT_byt {x : Int} (hw : wd x) : byt (wT x) := by
  intro c hc
  unfold wT at hc
  obtain ⟨t, ht, rfl⟩ := List.mem_map.mp hc
  rw [List.mem_range] at ht
  have hd := let_r hw (t := (t : Int)) (by omega) (by omega)
  unfold dg
  omega
theorem ST_row {r i : Nat} {T : List Int} {M : zM} {S : zS} {c : Int} (h : stO r T M S) (hi : T[i]? = some c) : F_J1_getChar_3b067 (zrf S r 0) (i : Int) M S = some c := by
  obtain ⟨⟨a1, a2⟩, b1, b2, ⟨c1, c2⟩, c3, c4, c6, c7⟩ := h
  have hl := (List.getElem?_eq_some_iff.mp hi).1
  have hc := c7 c (List.mem_of_getElem? hi)
  have hz := (zi2b_id c.toNat (by omega)).2.2
  rw [show ((c.toNat : Nat) : Int) = c by omega] at hz
  unfold F_J1_getChar_3b067
  rw [zchk_pos c3, zchk_pos ⟨by omega, by omega⟩, c6 i c hi, hz, zchk_pos ⟨by omega, by omega⟩]
theorem MM {r0 r1 n : Nat} {T0 T1 : List Int} {M : zM} {S : zS} (h0 : stO r0 T0 M S) (h1 : stO r1 T1 M S) (l0 : T0.length = n) (l1 : T1.length = n) (hn : n ≤ 7) : Ok (F_J8_mismatch_cb723 (zrf S r0 0) (zrf S r1 0) (n : Int) M S) (fun r => (∃ k : Nat, r = (k : Int) ∧ k < n ∧ (∀ t, t < k → T0[t]? = T1[t]?) ∧ T0[k]? ≠ T1[k]?) ∨ (r = -1 ∧ ∀ t, t < n → T0[t]? = T1[t]?)) := by
  obtain ⟨⟨a1, a2⟩, b1, b2, ⟨c1, c2⟩, c3, c4, c6, c7⟩ := h0
  obtain ⟨⟨a1', a2'⟩, b1', b2', ⟨c1', c2'⟩, c3', c4', c6', c7'⟩ := h1
  have g0 : ∀ t : Nat, t < n → T0[t]? = some (M (zrf S r0 0) (t : Int)) := fun t ht => by
    have hg := List.getElem?_eq_getElem (l := T0) (i := t) (by omega)
    rw [hg, c6 t _ hg]
  have g1 : ∀ t : Nat, t < n → T1[t]? = some (M (zrf S r1 0) (t : Int)) := fun t ht => by
    have hg := List.getElem?_eq_getElem (l := T1) (i := t) (by omega)
    rw [hg, c6' t _ hg]
  unfold F_J8_mismatch_cb723 F_J8_mismatch_cb723_L49
  rw [if_neg (by omega)]
  refine Ok.loop (fun s : Int => ∃ t : Nat, s = (t : Int) ∧ t ≤ n ∧ ∀ i, i < t → T0[i]? = T1[i]?) (fun s => n - s.toNat) (fun e : Int ⊕ Unit => (∃ k : Nat, e = .inl (k : Int) ∧ k < n ∧ (∀ t, t < k → T0[t]? = T1[t]?) ∧ T0[k]? ≠ T1[k]?) ∨ (e = .inr () ∧ ∀ t, t < n → T0[t]? = T1[t]?)) ⟨0, rfl, Nat.zero_le _, fun i hi => absurd hi (Nat.not_lt_zero i)⟩ (by show n - 0 < 1000000; omega) (fun s ⟨t, e1, e2, e3⟩ => ?_) (fun e he => ?_)
  · subst e1
    unfold F_J8_mismatch_cb723_B49
    refine Ok.ite (fun c => ?_) (fun c => ?_)
    · refine Ok.chk c3 (Ok.chk ⟨by omega, by omega⟩ (Ok.chk c3' (Ok.chk ⟨by omega, by omega⟩ ?_)))
      refine Ok.ite (fun z => Ok.lett (Ok.ret ?_)) (fun z => Ok.ret ?_)
      · rw [w_id (a := (t : Int) + 1) ⟨by omega, by omega⟩]
        refine ⟨⟨t + 1, rfl, by omega, fun i hi => ?_⟩, by dsimp only; omega⟩
        by_cases q : i = t
        · subst q; rw [g0 i (by omega), g1 i (by omega), z]
        · exact e3 i (by omega)
      · refine Or.inl ⟨t, rfl, by omega, e3, ?_⟩
        rw [g0 t (by omega), g1 t (by omega)]
        exact fun q => z (Option.some.inj q)
    · exact Ok.ret (Or.inr ⟨rfl, fun i hi => e3 i (by omega)⟩)
  · rcases he with ⟨k, rfl, k1, k2, k3⟩ | ⟨rfl, k2⟩
    · exact Ok.ret (Or.inl ⟨k, rfl, k1, k2, k3⟩)
    · exact Ok.ret (Or.inr ⟨rfl, k2⟩)
/-- the text before: nothing, or a smaller word -/
def bfO (v : Nat) (y : Int) (M : zM) (S : zS) : Prop := v = 68 ∨ ∃ x, wd x ∧ x < y ∧ stO v (wT x) M S
theorem LO {v0 v1 : Nat} {y : Int} {M : zM} {S : zS} (h0 : bfO v0 y M S) (h1 : stO v1 (wT y) M S) (hy : wd y) (hy1 : 1 ≤ ln y) (hy6 : ln y ≤ 7) : F_L_isOrdered v0 v1 M S = some 1 := by
  have hl1 := wT_len y
  have e1 := tx_len (Or.inr h1) (by omega)
  unfold F_L_isOrdered F_L_isOrdered_J30
  rcases h0 with rfl | ⟨x, wx, hxy, h0⟩
  · have e0 : F_J0_lenM 68 M S = some ((csT 20).length : Int) := tx_len (txC 20 (by decide)) (by decide)
    have e0 : F_J0_lenM 68 M S = some 0 := e0
    rw [e0, e1]
    simp only [zb1_some]
    rw [if_pos (by omega)]
  · have hl0 := wT_len x
    have hbx := ln_b x
    have e0 := tx_len (Or.inr h0) (by omega)
    rw [e0, e1]
    simp only [zb1_some]
    by_cases q : ((wT x).length : Int) < ((wT y).length : Int)
    · rw [if_pos q]
    · rw [if_neg q]
      have hge : ¬ ln y < ln x := fun z => by have := ln_mono hy wx z; omega
      have hxe : ln x = ln y := by omega
      rw [if_pos (by omega), zchk_pos h0.2.1]
      have hcmp : ∃ r : Int, F_J0_compareTo_2f485 v0 v1 M S = some r ∧ r < 0 := by
        unfold F_J0_compareTo_2f485 F_J0_coder_7d493 F_J1_compareTo_b82b6 F_J1_compareTo_66405
        obtain ⟨a1, b1, b2, c1, c3, c4, c6, c7⟩ := id h0
        obtain ⟨a1', b1', b2', c1', c3', c4', c6', c7'⟩ := id h1
        rw [zchk_pos b1, zlet_eq, zchk_pos b1', zlet_eq, zchk_pos b1, if_neg (by decide), zchk_pos b1, b2, zchk_pos ⟨by decide, by decide⟩]
        simp only [zb1_some]
        rw [zchk_pos b1', if_neg (by decide), zchk_pos b1', b2', zchk_pos ⟨by decide, by decide⟩]
        simp only [zb1_some]
        rw [if_pos trivial, if_pos trivial, zchk_pos c3, zlet_eq, zchk_pos c3', zlet_eq, c4, c4', zlet_eq]
        obtain ⟨n, hn⟩ : ∃ n : Nat, n = (wT y).length := ⟨_, rfl⟩
        have hm : zmin ((wT x).length : Int) ((wT y).length : Int) = (n : Int) := by
          unfold zmin
          rw [if_neg (by omega)]; omega
        rw [hm]
        obtain ⟨r2, hr, hh⟩ := MM h0 h1 (by omega) hn.symm (n := n) (by omega)
        rw [hr]
        simp only [zb1_some]
        have hat : ∀ t : Nat, t < n → ((wT x)[t]? = (wT y)[t]? ↔ dg x t = dg y t) := fun t ht => by
          rw [wT_at (show (t : Int) < ln x by omega), wT_at (show (t : Int) < ln y by omega)]
          constructor
          · intro z; have := Option.some.inj z; omega
          · intro z; rw [z]
        rcases hh with ⟨k, rfl, k1, k2, k3⟩ | ⟨rfl, k2⟩
        · rw [if_neg (by omega), ST_row h0 (wT_at (show (k : Int) < ln x by omega)), ST_row h1 (wT_at (show (k : Int) < ln y by omega))]
          simp only [zb1_some]
          have hlt := dg_lt hxe rfl wx hy hxy (k := k) (by omega) (fun t ht => (hat t (by omega)).mp (k2 t ht)) (fun z => k3 ((hat k k1).mpr z))
          have hd1 := let_r wx (t := (k : Int)) (by omega) (by omega)
          have hd2 := let_r hy (t := (k : Int)) (by omega) (by omega)
          have hd1 : 1 ≤ dg x k ∧ dg x k ≤ 3 := hd1
          have hd2 : 1 ≤ dg y k ∧ dg y k ≤ 3 := hd2
          rw [w_id ⟨by omega, by omega⟩]
          exact ⟨_, rfl, by omega⟩
        · have := dg_eq hxe rfl wx hy (fun t ht => (hat t (by omega)).mp (k2 t (by omega)))
          omega
      obtain ⟨r, hr, hneg⟩ := hcmp
      rw [hr]
      simp only [zb1_some]
      rw [if_pos hneg]
