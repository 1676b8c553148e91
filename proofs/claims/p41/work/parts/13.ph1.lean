/-! PURE 65: texts: the class's reader, its small steps -/
/-- the character at a position, 0 behind the end -/
def chT (T : List Int) (p : Nat) : Int := (T[p]?).getD 0
def txtT (T : List Int) : Prop := T.length ≤ 60 ∧ ∀ c ∈ T, 0 ≤ c ∧ c < 65536
theorem chT_in {T : List Int} {p : Nat} (h : p < T.length) : T[p]? = some (chT T p) := by
  unfold chT
  rw [List.getElem?_eq_getElem h]
  rfl
theorem chT_out {T : List Int} {p : Nat} (h : T.length ≤ p) : chT T p = 0 := by
  unfold chT
  rw [List.getElem?_eq_none h]
  rfl
theorem chT_r {T : List Int} {p : Nat} (hT : txtT T) : 0 ≤ chT T p ∧ chT T p < 65536 := by
  by_cases h : p < T.length
  · exact hT.2 _ (List.mem_of_getElem? (chT_in h))
  · rw [chT_out (by omega)]; omega
theorem chT_lt {T : List Int} {p : Nat} (h : chT T p ≠ 0) : p < T.length := by
  rcases Nat.lt_or_ge p T.length with q | q
  · exact q
  · exact absurd (chT_out q) h
/-- from M to M1 only the reader's position and program have changed -/
def pfr (M M1 : zM) : Prop := (∀ b, b ≠ 2 → b ≠ 4 → M1 b = M b) ∧ ∀ k : Int, k ≠ 2 → k ≠ 4 → M1 2 k = M 2 k
theorem pfr.refl {M : zM} : pfr M M := ⟨fun _ _ _ => rfl, fun _ _ _ => rfl⟩
theorem pfr.trans {M M1 M2 : zM} (h : pfr M M1) (i : pfr M1 M2) : pfr M M2 := ⟨fun b h1 h2 => (i.1 b h1 h2).trans (h.1 b h1 h2), fun k h1 h2 => (i.2 k h1 h2).trans (h.2 k h1 h2)⟩
/-- the class's reader at position p with the program pr -/
def cpS (T pr : List Int) (p : Nat) (M : zM) : Prop := M 2 3 = (T.length : Int) ∧ rowl (M 3) T ∧ M 2 4 = (p : Int) ∧ M 2 2 = (pr.length : Int) ∧ ∀ (i : Nat) (a : Int), pr[i]? = some a → srel (M 4 i) a
def cOk (T pr : List Int) (p : Nat) (M : zM) (r : Int × zM) : Prop := r.1 = 1 ∧ cpS T pr p r.2 ∧ pfr M r.2
def cFt (q : Nat) (M : zM) (r : Int × zM) : Prop := r.1 = 0 ∧ r.2 2 4 = (q : Int) ∧ pfr M r.2
theorem cOk.pre {T pr : List Int} {p : Nat} {M M1 : zM} {r : Int × zM} (h : pfr M M1) (i : cOk T pr p M1 r) : cOk T pr p M r := ⟨i.1, i.2.1, h.trans i.2.2⟩
theorem cFt.pre {q : Nat} {M M1 : zM} {r : Int × zM} (h : pfr M M1) (i : cFt q M1 r) : cFt q M r := ⟨i.1, i.2.1, h.trans i.2.2⟩
section
variable {T pr : List Int} {p : Nat} {M : zM}
theorem CP_at (hT : txtT T) (h : cpS T pr p M) (j : Nat) : F_X1_characterAt (j : Int) M = some (chT T j) := by
  obtain ⟨h1, h2, _⟩ := h
  unfold F_X1_characterAt F_X1_characterAt_J21
  rw [if_neg (by omega), h1]
  by_cases e : j < T.length
  · have h60 := hT.1
    have hv := h2 j _ (chT_in e)
    have hr := chT_r (p := j) hT
    rw [if_pos (by omega), if_pos (by omega), zchk_pos ⟨by omega, by omega⟩, hv, zchk_pos hr]
  · rw [if_neg (by omega), zchk_pos (by decide), chT_out (by omega)]
theorem CP_here (hT : txtT T) (h : cpS T pr p M) : F_X1_characterAt (M 2 4) M = some (chT T p) := by
  rw [h.2.2.1]; exact CP_at hT h p
theorem cpS.mv (h : cpS T pr p M) (q : Nat) : cpS T pr q (zs M 2 4 (q : Int)) ∧ pfr M (zs M 2 4 (q : Int)) := by
  obtain ⟨h1, h2, h3, h4, h5⟩ := h
  refine ⟨⟨?_, ?_, zs_at M 2 4 _, ?_, ?_⟩, fun b b2 b4 => zs_ne M 4 _ b2, fun k k2 k4 => zs_off M _ (Or.inr k4)⟩
  · rw [zs_off _ _ (Or.inr (by decide))]; exact h1
  · rw [zs_ne _ _ _ (by decide)]; exact h2
  · rw [zs_off _ _ (Or.inr (by decide))]; exact h4
  · rw [zs_ne _ _ _ (by decide)]; exact h5
theorem cpS.nx (h : cpS T pr p M) (h60 : p < 60) : zs M 2 4 (w ((M 2 4) + 1)) = zs M 2 4 ((p + 1 : Nat) : Int) := by
  rw [h.2.2.1, w_id (by omega)]
  congr 1
theorem CP_skip_y {c : Int} (hT : txtT T) (h : cpS T pr p M) (hc : 0 < c) (e : chT T p = c) : ∃ M1, F_X1_skip c M = some (1, M1) ∧ cpS T pr (p + 1) M1 ∧ pfr M M1 ∧ p + 1 ≤ T.length := by
  have hl := chT_lt (T := T) (p := p) (by omega)
  have h60 := hT.1
  refine ⟨zs M 2 4 ((p + 1 : Nat) : Int), ?_, (h.mv (p + 1)).1, (h.mv (p + 1)).2, hl⟩
  unfold F_X1_skip
  rw [CP_here hT h]
  simp only [zb1_some]
  rw [if_pos e, zlet_eq, h.nx (by omega)]
theorem CP_skip_n {c : Int} (hT : txtT T) (h : cpS T pr p M) (e : chT T p ≠ c) : F_X1_skip c M = some (0, M) := by
  unfold F_X1_skip
  rw [CP_here hT h]
  simp only [zb1_some]
  rw [if_neg e]
theorem zstep {s g : Int} (hs : 0 ≤ s ∧ s < 8) (hg : 0 ≤ g ∧ g < 100000) : zor (zshl g 3) s = g * 8 + s := by
  have e1 : zshl g 3 = g * 8 := zshl_k hg.1 3 3 (by decide) (by show g * 8 < _; omega)
  rw [e1, zor_add (a := g * 8) 3 g hg.1 rfl (by omega) hs.1 (by show s < 8; omega) (by decide)]
theorem CP_add {s g a : Int} (h : cpS T pr p M) (hl : pr.length < 60) (hs : srel (zor (zshl g 3) s) a) : ∃ M1, F_X1_addStep s g M = some (1, M1) ∧ cpS T (pr ++ [a]) p M1 ∧ pfr M M1 := by
  obtain ⟨h1, h2, h3, h4, h5⟩ := h
  refine ⟨zs (zs M 4 (pr.length : Int) (zor (zshl g 3) s)) 2 2 ((pr.length : Int) + 1), ?_, ⟨?_, ?_, ?_, ?_, fun i b hi => ?_⟩, fun b b2 b4 => ?_, fun k k2 k4 => ?_⟩
  · unfold F_X1_addStep
    rw [h4, if_neg (by omega), if_pos (by omega), zchk_pos ⟨by omega, by omega⟩]
    simp only [zlet_eq]
    rw [zs_ne M (a := 4) (b := 2) _ _ (by decide), h4, w_id (by omega)]
  · rw [zs_off _ _ (Or.inr (by decide)), zs_ne _ _ _ (by decide)]; exact h1
  · rw [zs_ne _ _ _ (by decide), zs_ne _ _ _ (by decide)]; exact h2
  · rw [zs_off _ _ (Or.inr (by decide)), zs_ne _ _ _ (by decide)]; exact h3
  · rw [zs_at, List.length_append]; rfl
  · rw [zs_ne _ _ _ (by decide)]
    by_cases e : i < pr.length
    · rw [List.getElem?_append_left e] at hi
      rw [zs_off _ _ (Or.inr (by omega))]
      exact h5 i b hi
    · have hj := (List.getElem?_eq_some_iff.mp hi).1
      rw [List.length_append] at hj
      have hj2 : i < pr.length + 1 := hj
      have e2 : i = pr.length := by omega
      subst e2
      rw [List.getElem?_append_right (Nat.le_refl _), Nat.sub_self] at hi
      have e3 : a = b := by simpa using hi
      rw [zs_at, ← e3]
      exact hs
  · rw [zs_ne _ _ _ b2, zs_ne _ _ _ b4]
  · rw [zs_off _ _ (Or.inr k2), zs_ne _ _ _ (by decide)]
end
/-! letters -/
def lwT (T : List Int) : Nat → Nat → Int → Int
  | _, 0, x => x
  | p, m + 1, x => if 97 ≤ chT T p ∧ chT T p ≤ 99 then lwT T (p + 1) m (3 * x + 1 + (chT T p - 97)) else x
def lcT (T : List Int) : Nat → Nat → Nat
  | _, 0 => 0
  | p, m + 1 => if 97 ≤ chT T p ∧ chT T p ≤ 99 then lcT T (p + 1) m + 1 else 0
theorem lwT_s (T : List Int) (p m : Nat) (x : Int) : lwT T p (m + 1) x = if 97 ≤ chT T p ∧ chT T p ≤ 99 then lwT T (p + 1) m (3 * x + 1 + (chT T p - 97)) else x := rfl
theorem lcT_s (T : List Int) (p m : Nat) : lcT T p (m + 1) = if 97 ≤ chT T p ∧ chT T p ≤ 99 then lcT T (p + 1) m + 1 else 0 := rfl
theorem lcT_le {T : List Int} : ∀ (m p : Nat), lcT T p m ≤ m ∧ (p ≤ T.length → p + lcT T p m ≤ T.length) := by
  intro m
  induction m with
  | zero => intro p; exact ⟨Nat.le_refl 0, fun h => h⟩
  | succ m ih =>
    intro p
    unfold lcT
    by_cases e : 97 ≤ chT T p ∧ chT T p ≤ 99
    · rw [if_pos e]
      have hl := chT_lt (T := T) (p := p) (by omega)
      have h1 := ih (p + 1)
      have h2 := h1.2 (by omega)
      omega
    · rw [if_neg e]; exact ⟨by omega, fun h => h⟩
theorem lw_nx {x c : Int} (hx : wd x) (h : ln x ≤ 8) (hc : 97 ≤ c ∧ c ≤ 99) : wd (3 * x + 1 + (c - 97)) ∧ ln (3 * x + 1 + (c - 97)) = ln x + 1 ∧ 3 * x + 1 + (c - 97) = jn x (1 + c - 97) := by
  obtain ⟨a1, a2, a3⟩ := jn_3 (x := x) (d := 1 + c - 97) (by omega)
  have h2 := jn_r hx a3 (by omega)
  have e : 3 * x + 1 + (c - 97) = jn x (1 + c - 97) := by rw [a1]; omega
  rw [e]
  exact ⟨h2.2, by rw [h2.1, a2], rfl⟩
theorem lwT_wd {T : List Int} : ∀ (m p : Nat) (x : Int), wd x → ln x + m ≤ 9 → wd (lwT T p m x) ∧ ln (lwT T p m x) = ln x + lcT T p m := by
  intro m
  induction m with
  | zero => intro p x hx _; exact ⟨hx, by unfold lwT lcT; omega⟩
  | succ m ih =>
    intro p x hx h
    unfold lwT lcT
    by_cases e : 97 ≤ chT T p ∧ chT T p ≤ 99
    · rw [if_pos e, if_pos e]
      obtain ⟨a1, a2, _⟩ := lw_nx hx (by omega) e
      have h1 := ih (p + 1) _ a1 (by rw [a2]; omega)
      refine ⟨h1.1, ?_⟩
      rw [h1.2, a2]; omega
    · rw [if_neg e, if_neg e]; exact ⟨hx, by omega⟩
theorem ln_z : ln 0 = 0 := rfl
theorem wd_z : wd 0 := ⟨by decide, by decide⟩
theorem lwT_0 {T : List Int} {m p : Nat} (h : m ≤ 8) : (lcT T p m = 0 → lwT T p m 0 = 0) ∧ (0 < lcT T p m → 1 ≤ lwT T p m 0) ∧ wd (lwT T p m 0) ∧ ln (lwT T p m 0) = lcT T p m := by
  obtain ⟨h1, h2⟩ := lwT_wd (T := T) m p 0 wd_z (by rw [ln_z]; omega)
  rw [ln_z] at h2
  refine ⟨fun e => ?_, fun e => ?_, h1, by omega⟩
  · have h3 := (ln_r h1).2
    rw [h2, e] at h3
    have h4 : f3 (0 + ((0 : Nat) : Int) + 1) = 1 := by decide
    rw [h4] at h3
    have := h1.1
    omega
  · rcases Int.lt_or_le (lwT T p m 0) 1 with q | q
    · have h5 : lwT T p m 0 = 0 := by have := h1.1; omega
      rw [h5, ln_z] at h2
      omega
    · exact q
theorem lwT_lt {T : List Int} {m p : Nat} (h : m ≤ 8) : lwT T p m 0 < f3 (m + 1) := by
  obtain ⟨_, _, h1, h2⟩ := lwT_0 (T := T) (p := p) h
  have h3 := (ln_r h1).2
  have h4 := (lcT_le (T := T) m p).1
  have h5 := f3_mono (a := ln (lwT T p m 0) + 1) (b := (m : Int) + 1) (by omega) (by omega)
  omega
theorem CP_letters {T pr : List Int} {p : Nat} {M : zM} (hT : txtT T) (h : cpS T pr p M) (m : Nat) (hm : m ≤ 8) (hp : p ≤ T.length) : Ok (F_X1_readLetters (m : Int) M) (fun r => r.1 = lwT T p m 0 ∧ cpS T pr (p + lcT T p m) r.2 ∧ pfr M r.2) := by
  unfold F_X1_readLetters F_X1_readLetters_L4
  refine Ok.loop (fun z => ∃ i q : Nat, z.2.1 = i ∧ i ≤ m ∧ q ≤ T.length ∧ cpS T pr q z.2.2 ∧ pfr M z.2.2 ∧ wd z.1 ∧ ln z.1 = i ∧ lwT T q (m - i) z.1 = lwT T p m 0 ∧ q + lcT T q (m - i) = p + lcT T p m) (fun z => (100 - z.2.1).toNat) (fun e => (Sum.elim (fun r => r) (fun r => r) e).1 = lwT T p m 0 ∧ cpS T pr (p + lcT T p m) (Sum.elim (fun r => r) (fun r => r) e).2 ∧ pfr M (Sum.elim (fun r => r) (fun r => r) e).2) ⟨0, p, rfl, by omega, hp, h, pfr.refl, wd_z, ln_z, rfl, rfl⟩ (by show (100 - (0 : Int)).toNat < zN; decide) ?_ ?_
  · rintro ⟨v2, v3, M1⟩ ⟨i, q, i1, i2, i3, i4, i5, i6, i7, i8, i9⟩
    dsimp only at i1 i2 i3 i4 i5 i6 i7 i8 i9 ⊢
    subst i1
    unfold F_X1_readLetters_B4
    refine Ok.ite (fun c => ?_) (fun c => Ok.ret ?_)
    · obtain ⟨n, hn⟩ : ∃ n, m - i = n + 1 := ⟨m - i - 1, by omega⟩
      rw [hn] at i8 i9
      rw [lwT_s] at i8
      rw [lcT_s] at i9
      rw [CP_here hT i4]
      simp only [zb1_some]
      have h60 := hT.1
      by_cases e : 97 ≤ chT T q ∧ chT T q ≤ 99
      · rw [if_pos e] at i8 i9
        have hl := chT_lt (T := T) (p := q) (by omega)
        obtain ⟨a1, a2, _⟩ := lw_nx i6 (by omega) e
        refine Ok.neg (by omega) (Ok.neg (by omega) ?_)
        unfold F_X9_extend
        rw [w_id (a := chT T q - 97) (by omega), w_id (by have := a1; unfold wd at this; omega), i4.nx (by omega), w_id (a := (i : Int) + 1) (by omega)]
        simp only [zb1_some]
        refine Ok.lett (Ok.lett (Ok.ret ⟨⟨i + 1, q + 1, by show (i : Int) + 1 = _; omega, by omega, by omega, (i4.mv (q + 1)).1, i5.trans (i4.mv (q + 1)).2, a1, by rw [a2, i7]; omega, ?_, ?_⟩, by show (100 - ((i : Int) + 1)).toNat < (100 - (i : Int)).toNat; omega⟩))
        · rw [show m - (i + 1) = n by omega]; exact i8
        · rw [show m - (i + 1) = n by omega]; omega
      · rw [if_neg e] at i8 i9
        have hx : ∀ {P : ((Int × Int × zM) ⊕ ((Int × zM) ⊕ (Int × zM))) → Prop}, P (.inr (.inl (v2, M1))) → ∀ y, Ok (if chT T q < 97 then some (.inr (.inl (v2, M1))) else if 99 < chT T q then some (.inr (.inl (v2, M1))) else y) P := fun hP y => by
          by_cases z : chT T q < 97
          · exact Ok.pos z (Ok.ret hP)
          · exact Ok.neg z (Ok.pos (by omega) (Ok.ret hP))
        refine hx ?_ _
        exact ⟨i8, by rw [← i9]; exact i4, i5⟩
    · have e0 : m - i = 0 := by omega
      rw [e0] at i8 i9
      exact ⟨i8, by rw [← i9]; exact i4, i5⟩
  · intro e he
    cases e with
    | inl r => unfold Sum.elim F_X1_readLetters_J33; exact Ok.ret he
    | inr r => unfold Sum.elim F_X1_readLetters_J61; exact Ok.ret he
