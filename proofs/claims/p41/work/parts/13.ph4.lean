/-! PURE 68: texts: a selector, both sides at once -/
theorem dps_app : ∀ {a b : List Int} {d e : Nat}, dps a d = some e → dps (a ++ b) d = dps b e := by
  intro a
  induction a with
  | nil => intro b d e h; unfold dps at h; cases h; rfl
  | cons x r ih =>
    intro b d e h
    obtain ⟨m, h1, h2⟩ := dps_cons h
    rw [List.cons_append]
    show (match dp1 x d with | none => none | some e => dps (r ++ b) e) = _
    rw [h1]
    exact ih h2
/-- what both readers make of a part of a text from p on -/
def PR (T pr : List Int) (p : Nat) (op : Int) (M M0 : zM) (x : Option (Int × zM)) (y : Option zM) : Prop := (∃ (ext : List Int) (p2 : Nat), p < p2 ∧ ext.length + p ≤ p2 ∧ p2 ≤ T.length ∧ (∀ d, dps ext d = some (d + 1)) ∧ Ok x (cOk T (pr ++ ext) p2 M) ∧ Ok y (mOk T (pr ++ ext) p2 op M0)) ∨ (∃ q : Nat, q ≤ T.length ∧ Ok x (cFt q M) ∧ Ok y (mFt q M0))
theorem PR.pre {T pr : List Int} {p p1 : Nat} {op : Int} {M M1 M0 M01 : zM} {x : Option (Int × zM)} {y : Option zM} (h : PR T pr p1 op M1 M01 x y) (hp : p ≤ p1) (hc : pfr M M1) (hm : qfr M0 M01) : PR T pr p op M M0 x y := by
  rcases h with ⟨ext, p2, a1, a2, a3, a4, a5, a6⟩ | ⟨q, a1, a2, a3⟩
  · exact Or.inl ⟨ext, p2, by omega, by omega, a3, a4, a5.mono (fun r b => b.pre hc), a6.mono (fun r b => b.pre hm)⟩
  · exact Or.inr ⟨q, a1, a2.mono (fun r b => b.pre hc), a3.mono (fun r b => b.pre hm)⟩
section
variable {T pr : List Int} {p : Nat} {op : Int} {M M0 : zM}
/-- a pattern behind its sign -/
theorem JP_pat {k : Int} (hT : txtT T) (hC : cpS T pr p M) (hM : mpS T pr p op M0) (hp : p ≤ T.length) (hl : pr.length < 60) (hk : 0 ≤ k ∧ k ≤ 2) : PR T pr p op M M0 (zb2 (F_X1_readLetters 3 M) fun r M2 => zb2 (F_X1_addPattern (5 + k) r M2) fun r2 M3 => if r2 = 0 then some (0, M3) else some (1, M3)) (zb2 (F_X11_readWord 1 3 M0) fun r M2 => zb1 (F_X11_put (w (5000 + 100 * k + r)) M2) fun M3 => some M3) := by
  obtain ⟨⟨v, M1⟩, a1, a2, a3, a4⟩ := CP_letters hT hC 3 (by decide) hp
  obtain ⟨⟨v2, M2⟩, b1, b2, b3⟩ := MP_word (a := 1) (m := 3) hT hM (by decide) hp (by decide)
  obtain ⟨l1, l2, l3, l4⟩ := lwT_0 (T := T) (p := p) (m := 3) (by decide)
  have l5 := lwT_lt (T := T) (p := p) (m := 3) (by decide)
  have l6 : f3 (((3 : Nat) : Int) + 1) = 40 := by decide
  rw [l6] at l5
  have lc := lcT_le (T := T) 3 p
  dsimp only at a2 a3 a4 b2 b3
  have a1' : F_X1_readLetters 3 M = some (v, M1) := a1
  have b1' : F_X11_readWord 1 3 M0 = some (v2, M2) := b1
  rw [a1', b1']
  simp only [zb2_some]
  subst a2
  subst b2
  rcases b3 with ⟨c1, c2⟩ | ⟨c1, c2⟩
  · have hv := l2 (by omega)
    obtain ⟨M3, d1, d2, d3⟩ := CP_add (s := 5 + k) (g := lwT T p 3 0) (a := 5000 + 100 * k + lwT T p 3 0) a3 hl (by
      rw [zstep (by omega) (by omega)]
      exact Or.inr (Or.inr (Or.inr (Or.inr (Or.inr ⟨k, lwT T p 3 0, ⟨hk, by omega⟩, rfl, rfl⟩)))))
    obtain ⟨M4, e1, e2, e3⟩ := MP_put (a := 5000 + 100 * k + lwT T p 3 0) c2.1 hl
    refine Or.inl ⟨[5000 + 100 * k + lwT T p 3 0], p + lcT T p 3, by omega, by show 1 + p ≤ _; omega, lc.2 hp, fun d => ?_, ?_, ?_⟩
    · show (match dp1 (5000 + 100 * k + lwT T p 3 0) d with | none => none | some e => dps [] e) = _
      have h : dp1 (5000 + 100 * k + lwT T p 3 0) d = some (d + 1) := by
        unfold dp1
        rw [if_neg (by omega), if_neg (by omega)]
      rw [h]
      rfl
    · unfold F_X1_addPattern
      rw [if_neg (by omega), d1]
      simp only [zb2_some]
      rw [if_neg (by decide)]
      simp only [zb2_some]
      exact Ok.neg (by decide) (Ok.ret ⟨rfl, d2, a4.trans d3⟩)
    · rw [w_id (by omega), e1]
      simp only [zb1_some]
      exact Ok.ret ⟨e2, c2.2.trans e3⟩
  · have hv := l1 (by omega)
    have hlc : lcT T p 3 = 0 := by omega
    rw [hlc] at a3
    refine Or.inr ⟨p, hp, ?_, ?_⟩
    · unfold F_X1_addPattern F_X1_addPattern_J17
      rw [if_pos hv]
      simp only [zb2_some]
      exact Ok.pos trivial (Ok.ret ⟨rfl, a3.2.2.1, a4⟩)
    · rw [MF_put c2.1]
      simp only [zb1_some]
      exact Ok.ret c2
theorem JP_comp (hT : txtT T) (hC : cpS T pr p M) (hM : mpS T pr p op M0) (hp : p ≤ T.length) (hl : pr.length < 60) : PR T pr p op M M0 (zb2 (F_X1_readComparison M) fun r M2 => zchk ((0 : Int) ≤ r ∧ (r : Int) ≤ 1) (some (r, M2))) (zb1 (F_X11_readComparison M0) fun M2 => some M2) := by
  have a := CP_comp hT hC hl
  have b := MP_comp hT hM hp hl
  have key : ∀ q, cmpF T p = some q → q ≤ T.length := fun q hq => by
    unfold cmpF at hq
    by_cases e : chT T p = 35 ∨ (97 ≤ chT T p ∧ chT T p ≤ 99)
    · have h0 := chT_lt (T := T) (p := p) (by omega)
      rw [if_pos e] at hq
      by_cases e1 : 60 ≤ chT T (p + 1) ∧ chT T (p + 1) ≤ 62
      · have h1 := chT_lt (T := T) (p := p + 1) (by omega)
        rw [if_pos e1] at hq
        by_cases e2 : 48 ≤ chT T (p + 2) ∧ chT T (p + 2) ≤ 57
        · rw [if_pos e2] at hq; cases hq
        · rw [if_neg e2] at hq; cases hq; omega
      · rw [if_neg e1] at hq; cases hq; omega
    · rw [if_neg e] at hq; cases hq; exact hp
  have key0 : cmpF T p = none → p + 3 ≤ T.length ∧ 1000 ≤ cmpA T p := fun hq => by
    unfold cmpF at hq
    by_cases e : chT T p = 35 ∨ (97 ≤ chT T p ∧ chT T p ≤ 99)
    · rw [if_pos e] at hq
      have hw := cmpW_r e
      by_cases e1 : 60 ≤ chT T (p + 1) ∧ chT T (p + 1) ≤ 62
      · rw [if_pos e1] at hq
        by_cases e2 : 48 ≤ chT T (p + 2) ∧ chT T (p + 2) ≤ 57
        · have h2 := chT_lt (T := T) (p := p + 2) (by omega)
          refine ⟨by omega, ?_⟩
          unfold cmpA
          omega
        · rw [if_neg e2] at hq; cases hq
      · rw [if_neg e1] at hq; cases hq
    · rw [if_neg e] at hq; cases hq
  cases h : cmpF T p with
  | none =>
    rw [h] at a b
    dsimp only at a b
    obtain ⟨k1, k2⟩ := key0 h
    refine Or.inl ⟨[cmpA T p], p + 3, by omega, by show 1 + p ≤ _; omega, k1, fun d => ?_, Ok.b2 a (fun v M1 a1 => Ok.chk (by have e := a1.1; dsimp only at e; rw [e]; decide) (Ok.ret a1)), Ok.b1 b (fun M1 b1 => Ok.ret b1)⟩
    show (match dp1 (cmpA T p) d with | none => none | some e => dps [] e) = _
    have h : dp1 (cmpA T p) d = some (d + 1) := by
      unfold dp1
      rw [if_neg (by omega), if_neg (by omega)]
    rw [h]
    rfl
  | some q =>
    rw [h] at a b
    dsimp only at a b
    exact Or.inr ⟨q, key q h, Ok.b2 a (fun v M1 a1 => Ok.chk (by have e := a1.1; dsimp only at e; rw [e]; decide) (Ok.ret a1)), Ok.b1 b (fun M1 b1 => Ok.ret b1)⟩
end
/-- the turn of a loop over parts with a sign between them -/
def gB (c s : Int) (x : zM → Option (Int × zM)) (v2 v3 : Int) (M : zM) : Option ((Int × Int × zM) ⊕ (Int × zM)) :=
  if v3 < 60 then (if v2 = 0 then (some (.inr (v2, M))) else (zb2 (F_X1_skip c M) fun r5 M6 => (if r5 = 0 then (some (.inr (v2, M6))) else (zb2 (x M6) fun r9 M10 => (if r9 = 0 then (zlet (w (v3 + 1)) fun x2 => some (.inl (0, x2, M10))) else (zb2 (F_X1_addStep s 0 M10) fun r13 M14 => (if r13 = 0 then (zlet (w (v3 + 1)) fun x2 => some (.inl (0, x2, M14))) else (zlet (w (v3 + 1)) fun x2 => some (.inl (1, x2, M14)))))))))) else (some (.inr (v2, M)))
def gQ (c a : Int) (y : zM → Option zM) (M : zM) : Option (zM ⊕ zM) :=
  zb2 (F_X11_goes c M) fun r1 M2 => (if r1 = 0 then (some (.inr M2)) else (zb1 (y M2) fun M5 => (zb1 (F_X11_put a M5) fun M7 => (some (.inl M7)))))
def PL (T pr : List Int) (p : Nat) (op : Int) (M M0 : zM) (x : Option (Int × zM)) (y : Option zM) : Prop := (∃ (ext : List Int) (p2 : Nat), p ≤ p2 ∧ ext.length + p ≤ p2 ∧ p2 ≤ T.length ∧ (∀ d, dps ext (d + 1) = some (d + 1)) ∧ Ok x (cOk T (pr ++ ext) p2 M) ∧ Ok y (mOk T (pr ++ ext) p2 op M0)) ∨ (∃ q : Nat, q ≤ T.length ∧ Ok x (cFt q M) ∧ Ok y (mFt q M0))
/-- one more turn, then the loop -/
theorem Ok.turn {σ ε : Type} {bd : σ → Option (σ ⊕ ε)} {n : Nat} {s s1 : σ} {Q : ε → Prop} (h : bd s = some (.inl s1)) (i : Ok (zloop bd n s1) Q) : Ok (zloop bd (n + 1) s) Q := by rw [lp_step h]; exact i
theorem Ok.last {σ ε : Type} {bd : σ → Option (σ ⊕ ε)} {n : Nat} {s : σ} {e : ε} {Q : ε → Prop} (h : bd s = some (.inr e)) (i : Q e) : Ok (zloop bd (n + 1) s) Q := by rw [lp_stop h]; exact ⟨e, rfl, i⟩
theorem Ok.stop {σ ε : Type} {bd : σ → Option (σ ⊕ ε)} {n : Nat} {s : σ} {e : ε} {Q : ε → Prop} (hn : 0 < n) (h : bd s = some (.inr e)) (i : Q e) : Ok (zloop bd n s) Q := by
  obtain ⟨k, rfl⟩ : ∃ k, n = k + 1 := ⟨n - 1, by omega⟩
  exact Ok.last h i
theorem zN_pos : 0 < zN := by rw [zN_v]; decide
theorem JP_loop {T : List Int} {op c s a : Int} {x : zM → Option (Int × zM)} {y : zM → Option zM} (hT : txtT T) (hc : 0 < c) (hs : srel (zor (zshl 0 3) s) a) (ha : a = 3 ∨ a = 4) (hx : ∀ (p : Nat) (pr : List Int) (M M0 : zM), cpS T pr p M → mpS T pr p op M0 → p ≤ T.length → pr.length < p → PR T pr p op M M0 (x M) (y M0)) : ∀ (N n m p i : Nat) (pr : List Int) (M M0 : zM), T.length - p ≤ N → N + 2 ≤ n → N + 2 ≤ m → i < p → p ≤ T.length → pr.length < p → cpS T pr p M → mpS T pr p op M0 → PL T pr p op M M0 (zloop (fun (z : Int × Int × zM) => gB c s x z.1 z.2.1 z.2.2) n (1, (i : Int), M)) (zloop (fun (z : zM) => gQ c a y z) m M0) := by
  intro N
  have h60 := hT.1
  induction N with
  | zero =>
    intro n m p i pr M M0 hN hn hm hi hp hl hC hM
    obtain ⟨n, rfl⟩ : ∃ k, n = k + 1 := ⟨n - 1, by omega⟩
    obtain ⟨m, rfl⟩ : ∃ k, m = k + 1 := ⟨m - 1, by omega⟩
    have e : chT T p ≠ c := by rw [chT_out (by omega)]; omega
    refine Or.inl ⟨[], p, Nat.le_refl p, by show 0 + p ≤ p; omega, hp, fun d => rfl, Ok.last (e := (1, M)) ?_ ⟨rfl, by rw [List.append_nil]; exact hC, pfr.refl⟩, Ok.last (e := M0) ?_ ⟨by rw [List.append_nil]; exact hM, qfr.refl⟩⟩
    · dsimp only
      unfold gB
      rw [if_pos (by omega), if_neg (by decide), CP_skip_n hT hC e]
      simp only [zb2_some]
      rw [if_pos trivial]
    · unfold gQ
      rw [MP_goes_n hT hM hp hc e]
      simp only [zb2_some]
      rw [if_pos trivial]
  | succ N ih =>
    intro n m p i pr M M0 hN hn hm hi hp hl hC hM
    obtain ⟨n, rfl⟩ : ∃ k, n = k + 2 := ⟨n - 2, by omega⟩
    obtain ⟨m, rfl⟩ : ∃ k, m = k + 2 := ⟨m - 2, by omega⟩
    by_cases e : chT T p = c
    · obtain ⟨M1, a1, a2, a3, a4⟩ := CP_skip_y hT hC hc e
      obtain ⟨M01, b1, b2, b3⟩ := MP_goes_y hT hM hc e
      rcases hx (p + 1) pr M1 M01 a2 b2 a4 (by omega) with ⟨ext, p2, c1, c2, c3, c4, ⟨⟨r, M2⟩, c5, d1, d2, d3⟩, ⟨M02, c6, e1, e2⟩⟩ | ⟨q, c1, ⟨⟨r, M2⟩, c5, d1, d2, d3⟩, ⟨M02, c6, e1, e2⟩⟩
      · dsimp only at d1 d2 d3
        subst d1
        have hlen : (pr ++ ext).length < 60 := by rw [List.length_append]; omega
        obtain ⟨M3, f1, f2, f3⟩ := CP_add (s := s) (g := 0) (a := a) d2 hlen hs
        obtain ⟨M03, g1, g2, g3⟩ := MP_put (a := a) e1 hlen
        have hC1 : (fun (z : Int × Int × zM) => gB c s x z.1 z.2.1 z.2.2) (1, (i : Int), M) = some (.inl (1, ((i + 1 : Nat) : Int), M3)) := by
          dsimp only
          unfold gB
          rw [if_pos (by omega), if_neg (by decide), a1]
          simp only [zb2_some]
          rw [if_neg (by decide), c5]
          simp only [zb2_some]
          rw [if_neg (by decide), f1]
          simp only [zb2_some]
          rw [if_neg (by decide), zlet_eq, w_id (a := (i : Int) + 1) (by omega), show ((i + 1 : Nat) : Int) = (i : Int) + 1 by omega]
        have hM1 : (fun (z : zM) => gQ c a y z) M0 = some (.inl M03) := by
          dsimp only
          unfold gQ
          rw [b1]
          simp only [zb2_some]
          rw [if_neg (by decide), c6]
          simp only [zb1_some]
          rw [g1]
          simp only [zb1_some]
        have hd : ∀ d, dps (ext ++ [a]) (d + 1) = some (d + 1) := fun d => by
          rw [dps_app (c4 (d + 1))]
          show (match dp1 a (d + 1 + 1) with | none => none | some e => dps [] e) = _
          have h : dp1 a (d + 1 + 1) = some (d + 1) := by
            unfold dp1
            rw [if_neg (by omega), if_pos ha, if_pos (by omega)]
            rfl
          rw [h]
          rfl
        have hpc := (a3.trans d3).trans f3
        have hpm := (b3.trans e2).trans g3
        rcases ih (n + 1) (m + 1) p2 (i + 1) (pr ++ ext ++ [a]) M3 M03 (by omega) (by omega) (by omega) (by omega) c3 (by rw [List.length_append, List.length_append]; show pr.length + ext.length + 1 < p2; omega) f2 g2 with ⟨ext2, p3, k1, k2, k3, k4, k5, k6⟩ | ⟨q, k1, k2, k3⟩
        · refine Or.inl ⟨ext ++ [a] ++ ext2, p3, by omega, by rw [List.length_append, List.length_append]; show ext.length + 1 + ext2.length + p ≤ p3; omega, k3, fun d => by rw [dps_app (hd d)]; exact k4 d, Ok.turn hC1 (k5.mono (fun r q => ?_)), Ok.turn hM1 (k6.mono (fun r q => ?_))⟩
          · rw [show pr ++ (ext ++ [a] ++ ext2) = pr ++ ext ++ [a] ++ ext2 by simp only [List.append_assoc]]
            exact cOk.pre hpc q
          · rw [show pr ++ (ext ++ [a] ++ ext2) = pr ++ ext ++ [a] ++ ext2 by simp only [List.append_assoc]]
            exact mOk.pre hpm q
        · exact Or.inr ⟨q, k1, Ok.turn hC1 (k2.mono (fun r u => cFt.pre hpc u)), Ok.turn hM1 (k3.mono (fun r u => mFt.pre hpm u))⟩
      · dsimp only at d1 d2 d3
        subst d1
        obtain ⟨⟨v, M03⟩, g1, g2, g3⟩ := MF_goes (c := c) e1
        dsimp only at g2 g3
        subst g2
        refine Or.inr ⟨q, c1, Ok.turn (s1 := (0, (i : Int) + 1, M2)) ?_ (Ok.last (e := (0, M2)) ?_ ⟨rfl, d2, a3.trans d3⟩), Ok.turn (s1 := M02) ?_ (Ok.last (e := M03) ?_ (mFt.pre (b3.trans e2) g3))⟩
        · dsimp only
          unfold gB
          rw [if_pos (by omega), if_neg (by decide), a1]
          simp only [zb2_some]
          rw [if_neg (by decide), c5]
          simp only [zb2_some]
          rw [if_pos trivial, zlet_eq, w_id (a := (i : Int) + 1) (by omega)]
        · dsimp only
          unfold gB
          by_cases z : (i : Int) + 1 < 60
          · rw [if_pos z, if_pos rfl]
          · rw [if_neg z]
        · unfold gQ
          rw [b1]
          simp only [zb2_some]
          rw [if_neg (by decide), c6]
          simp only [zb1_some]
          rw [MF_put e1]
          simp only [zb1_some]
        · unfold gQ
          rw [g1]
          simp only [zb2_some]
          rw [if_pos trivial]
    · refine Or.inl ⟨[], p, Nat.le_refl p, by show 0 + p ≤ p; omega, hp, fun d => rfl, Ok.last (e := (1, M)) ?_ ⟨rfl, by rw [List.append_nil]; exact hC, pfr.refl⟩, Ok.last (e := M0) ?_ ⟨by rw [List.append_nil]; exact hM, qfr.refl⟩⟩
      · dsimp only
        unfold gB
        rw [if_pos (by omega), if_neg (by decide), CP_skip_n hT hC e]
        simp only [zb2_some]
        rw [if_pos trivial]
      · unfold gQ
        rw [MP_goes_n hT hM hp hc e]
        simp only [zb2_some]
        rw [if_pos trivial]
/-- parts with a sign between them -/
theorem JP_parts {T : List Int} {op c s a : Int} {x : zM → Option (Int × zM)} {y : zM → Option zM} (hT : txtT T) (hc : 0 < c) (hs : srel (zor (zshl 0 3) s) a) (ha : a = 3 ∨ a = 4) (hx : ∀ (p : Nat) (pr : List Int) (M M0 : zM), cpS T pr p M → mpS T pr p op M0 → p ≤ T.length → pr.length < p → PR T pr p op M M0 (x M) (y M0)) {p : Nat} {pr : List Int} {M M0 : zM} (hC : cpS T pr p M) (hM : mpS T pr p op M0) (hp : p ≤ T.length) (hl : pr.length < p) : PR T pr p op M M0 (zb2 (x M) fun r1 M1 => zb1 (zloop (fun (z : Int × Int × zM) => gB c s x z.1 z.2.1 z.2.2) zN (r1, 0, M1)) fun e => zchk ((0 : Int) ≤ e.1 ∧ (e.1 : Int) ≤ 1) (some (e.1, e.2))) (zb1 (y M0) fun M1 => zb1 (zloop (fun (z : zM) => gQ c a y z) zN M1) fun e => some e) := by
  have h60 := hT.1
  rcases hx p pr M M0 hC hM hp hl with ⟨ext, p2, c1, c2, c3, c4, ⟨⟨r, M2⟩, c5, d1, d2, d3⟩, ⟨M02, c6, e1, e2⟩⟩ | ⟨q, c1, ⟨⟨r, M2⟩, c5, d1, d2, d3⟩, ⟨M02, c6, e1, e2⟩⟩
  · dsimp only at d1 d2 d3
    subst d1
    rw [c5, c6]
    simp only [zb2_some, zb1_some]
    rcases JP_loop hT hc hs ha hx T.length zN zN p2 0 (pr ++ ext) M2 M02 (by omega) (by rw [zN_v]; omega) (by rw [zN_v]; omega) (by omega) c3 (by rw [List.length_append]; omega) d2 e1 with ⟨ext2, p3, k1, k2, k3, k4, k5, k6⟩ | ⟨q, k1, k2, k3⟩
    · refine Or.inl ⟨ext ++ ext2, p3, by omega, by rw [List.length_append]; omega, k3, fun d => by rw [dps_app (c4 d)]; exact k4 d, Ok.b1 k5 (fun r q => Ok.chk (by rw [q.1]; decide) (Ok.ret ?_)), Ok.b1 k6 (fun r q => Ok.ret ?_)⟩
      · rw [← List.append_assoc]; exact cOk.pre d3 q
      · rw [← List.append_assoc]; exact mOk.pre e2 q
    · exact Or.inr ⟨q, k1, Ok.b1 k2 (fun r u => Ok.chk (by rw [u.1]; decide) (Ok.ret (cFt.pre d3 u))), Ok.b1 k3 (fun r u => Ok.ret (mFt.pre e2 u))⟩
  · dsimp only at d1 d2 d3
    subst d1
    rw [c5, c6]
    simp only [zb2_some, zb1_some]
    obtain ⟨⟨v, M03⟩, g1, g2, g3⟩ := MF_goes (c := c) e1
    dsimp only at g2 g3
    subst g2
    refine Or.inr ⟨q, c1, Ok.b1 (Q := cFt q M) (Ok.stop zN_pos (e := (0, M2)) ?_ ⟨rfl, d2, d3⟩) (fun r u => Ok.chk (by rw [u.1]; decide) (Ok.ret u)), Ok.b1 (Q := mFt q M0) (Ok.stop zN_pos (e := M03) ?_ (mFt.pre e2 g3)) (fun r u => Ok.ret u)⟩
    · dsimp only
      unfold gB
      rw [if_pos (by decide), if_pos rfl]
    · unfold gQ
      rw [g1]
      simp only [zb2_some]
      rw [if_pos trivial]
