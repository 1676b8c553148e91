/-! PURE 90: the words of a language, all of them looked at -/
theorem lcA_1 {G : zGr} {ax : List Int} {y : Int} (hG : grok G) (hax : axok ax) (h : lcA G ax y) : 1 ≤ ln y := by
  have hw := (lc_wd hG hax h).1
  rcases lc_inv h with ⟨a, -⟩ | ⟨x, r, hx, hp, -, e⟩
  · have := (hax.2 y a).1
    by_cases q : ln y < 1
    · exfalso
      have hl := ln_b y
      have h0 : ln y = 0 := by omega
      have := ln_r hw
      rw [h0] at this
      have h1 : f3 (0 + 1) = 1 := rfl
      omega
    · omega
  · have hwx := (lc_wd hG hax hx).1
    have := insV_r hG hwx hp
    rw [e] at this
    have := ln_b x
    omega
/-- the law's two arrays -/
def AWs (v2 : Nat) (S : zS) : Prop := (89 < v2 ∧ v2 + 1 ≤ S.1) ∧ zkd S v2 = 20 ∧ zlen S v2 = 10 ∧ zkd S (v2 + 1) = 22 ∧ zlen S (v2 + 1) = 5
theorem AWs.kp {v2 : Nat} {S S1 : zS} {M M1 : zM} (h : AWs v2 S) (k : kp S.1 S M S1 M1) : AWs v2 S1 := by
  obtain ⟨⟨a1, a2⟩, b1, b2, b3, b4⟩ := h
  have k1 := k.kd (b := v2) (by omega)
  have k2 := k.kd (b := v2 + 1) a2
  have hn := k.1.1
  exact ⟨⟨a1, by omega⟩, k1.1.trans b1, k1.2.1.trans b2, k2.1.trans b3, k2.2.1.trans b4⟩
/-- what is used by some of the insertions in a word, the first i of them -/
def uTo (G : zGr) (y : Int) (i : Nat) (c : Nat) : Prop := ∃ j r, j < i ∧ (insL G y)[j]? = some r ∧ r / 100 = c
def uK (G : zGr) (W : List Int) (c : Nat) : Prop := ∃ x ∈ W, ∃ r, insP G x r ∧ r / 100 = c
def USs (v3 : Nat) (U : Nat → Prop) (M : zM) : Prop := ∀ c : Nat, c < 5 → tv (M v3 (c : Int)) (U c)
def CTs (v2 : Nat) (W : List Int) (M : zM) : Prop := ∀ n : Nat, n < 10 → M v2 (n : Int) = ((W.filter (fun y => decide (ln y = (n : Int)))).length : Int)
section
variable {β : Type} {P : β → Prop} {B : Int} {G : zGr} {ax : List Int} {cur : Int} {R : zRst} {M : zM} {S : zS}
/-- one insertion taken -/
theorem IS {KK : zM → zS → Option β} {v2 k i r : Nat} {y : Int} (hC : clsW B G ax cur R M S) (hf : fewA G ax) (hA : AWs v2 S) (hg : (wl_ (lcA G ax))[k]? = some y) (hr : (insL G y)[i]? = some r) (hs : S.1 + 100 ≤ 6000) (hy : ∀ M1, clsW B G ax (insV G y r) R M1 S → (∀ b, 89 < b → b ≤ S.1 → zkd S b ≠ 21 → b ≠ v2 + 1 → M1 b = M b) → M1 (v2 + 1) = up (M (v2 + 1)) ((r / 100 : Nat) : Int) 1 → Ok (KK M1 S) P) : Ok (zchk (S.1 + 100 ≤ 6000) (zbx (F_X10_takeWord (k : Int) M S) (fun e M S => none) fun u M6 S7 => zchk (S7.1 + 100 ≤ 6000) (zbx (F_X10_insert (i : Int) M6 S7) (fun e M S => none) fun r15 M16 S17 => zchk (zkd S17 (v2 + 1) = 22) (zchk ((0 : Int) ≤ r15 ∧ r15 < (zlen S17 (v2 + 1))) (zlet (zs M16 (v2 + 1) r15 1) fun M25 => KK M25 S17))))) P := by
  obtain ⟨⟨a1, a2⟩, b1, b2, b3, b4⟩ := hA
  have hwy := (wl_idx hg).2.1
  refine Ok.chk hs (Ok.q (Q_takeWord hC hf hg) (fun u M6 c1 c2 _ => Ok.chk hs (Ok.q (Q_insert c1 hr) (fun r15 M16 d1 d2 d3 => ?_))))
  subst d3
  have hp := (mem_insL hC.2.1.1 hwy).mp (List.mem_of_getElem? hr)
  have h500 := insP_500 hC.2.1.1 hwy hp
  refine Ok.chk b3 (Ok.chk ⟨by omega, by omega⟩ (Ok.lett (hy _ ?_ (fun b h1 h2 h3 h4 => ?_) ?_)))
  · exact d1.tr (A := fun b => b = v2 + 1) (Nat.le_refl _) (fun _ _ => rfl) (fun _ _ _ => rfl) (fun b _ hb => zs_ne _ _ _ hb) (fun b hb => by subst hb; exact ⟨by omega, ctx_not (Or.inr (Or.inr (Or.inl b3)))⟩)
  · rw [zs_ne _ _ _ h4, d2 b h1 ⟨h2, h3⟩, c2 b h1 ⟨h2, h3⟩]
  · rw [zs_eq, d2 _ (by omega) ⟨a2, by omega⟩, c2 _ (by omega) ⟨a2, by omega⟩]
theorem US_put {v3 : Nat} {U V : Nat → Prop} {M1 : zM} {c0 : Nat} (h : USs v3 U M) (e : M1 v3 = up (M v3) ((c0 : Nat) : Int) 1) (hV : ∀ c, V c ↔ U c ∨ c = c0) : USs v3 V M1 := by
  intro c hc
  rw [e]
  by_cases q : c = c0
  · subst q
    rw [up_eq]
    exact tv_t ((hV c).mpr (Or.inr rfl))
  · rw [up_ne _ _ (by omega)]
    exact tv_iff (h c hc) ((hV c).trans ⟨fun z => z.resolve_right q, Or.inl⟩).symm
theorem uTo_s {y : Int} {i r : Nat} (hr : (insL G y)[i]? = some r) (c : Nat) : uTo G y (i + 1) c ↔ uTo G y i c ∨ c = r / 100 := by
  constructor
  · rintro ⟨j, r2, h1, h2, h3⟩
    by_cases q : j = i
    · subst q; rw [hr] at h2; cases h2; exact Or.inr h3.symm
    · exact Or.inl ⟨j, r2, by omega, h2, h3⟩
  · rintro (⟨j, r2, h1, h2, h3⟩ | h)
    · exact ⟨j, r2, by omega, h2, h3⟩
    · exact ⟨i, r, by omega, hr, h.symm⟩
theorem uTo_end {y : Int} {i j : Nat} (hi : (insL G y).length ≤ i) (hj : i ≤ j ∨ (insL G y).length ≤ j) (c : Nat) : uTo G y i c ↔ uTo G y j c := by
  constructor
  · rintro ⟨a, r, h1, h2, h3⟩
    have := (List.getElem?_eq_some_iff.mp h2).1
    exact ⟨a, r, by omega, h2, h3⟩
  · rintro ⟨a, r, h1, h2, h3⟩
    have := (List.getElem?_eq_some_iff.mp h2).1
    exact ⟨a, r, by omega, h2, h3⟩
end
/-- where the look at the words stands: W are the words that have been looked at, U the contexts that are used so far -/
def AWi (B : Int) (G : zGr) (ax : List Int) (R : zRst) (v2 : Nat) (W : List Int) (U : Nat → Prop) (M : zM) (S : zS) : Prop := (∃ cur, clsW B G ax cur R M S) ∧ AWs v2 S ∧ CTs v2 W M ∧ USs (v2 + 1) U M
section
variable {B : Int} {G : zGr} {ax : List Int} {R : zRst} {M : zM} {S : zS} {v1 : Int} {v2 v4 v7 k : Nat} {W : List Int} {U : Nat → Prop} {y : Int}
theorem AWi.put {M1 : zM} {c0 : Nat} {V : Nat → Prop} {cur : Int} (h : AWi B G ax R v2 W U M S) (hC : clsW B G ax cur R M1 S) (hb : ∀ b, 89 < b → b ≤ S.1 → zkd S b ≠ 21 → b ≠ v2 + 1 → M1 b = M b) (e : M1 (v2 + 1) = up (M (v2 + 1)) ((c0 : Nat) : Int) 1) (hV : ∀ c, V c ↔ U c ∨ c = c0) : AWi B G ax R v2 W V M1 S := by
  obtain ⟨-, h2, h3, h4⟩ := h
  refine ⟨⟨cur, hC⟩, h2, fun n hn => ?_, US_put h4 e hV⟩
  rw [hb v2 h2.1.1 (by have := h2.1.2; omega) (by rw [h2.2.1]; decide) (by omega)]
  exact h3 n hn
theorem AWi.iff {V : Nat → Prop} (h : AWi B G ax R v2 W U M S) (hV : ∀ c, U c ↔ V c) : AWi B G ax R v2 W V M S := ⟨h.1, h.2.1, h.2.2.1, fun c hc => tv_iff (h.2.2.2 c hc) (hV c)⟩
theorem stO.put {M1 : zM} {T : List Int} (h : stO v7 T M S) (hk3 : zkd S (v2 + 1) = 22) (hb : ∀ b, 89 < b → b ≤ S.1 → zkd S b ≠ 21 → b ≠ v2 + 1 → M1 b = M b) : stO v7 T M1 S := by
  obtain ⟨⟨a1, a2⟩, b1, b2, ⟨c1, c2⟩, c3, c4, c6, c7⟩ := h
  have n1 : v7 ≠ v2 + 1 := fun e => by rw [e] at b1; omega
  have n2 : zrf S v7 0 ≠ v2 + 1 := fun e => by rw [e] at c3; omega
  exact ⟨⟨a1, a2⟩, b1, by rw [hb v7 a1 a2 (by omega) n1]; exact b2, ⟨c1, c2⟩, c3, c4, by rw [hb _ c1 c2 (by omega) n2]; exact c6, c7⟩
/-- the insertions in a word from the twelfth on -/
theorem L167 (hf : fewA G ax) (hg : (wl_ (lcA G ax))[k]? = some y) (hs : S.1 + 100 ≤ 6000) (hk : k < 400) (h : AWi B G ax R v2 W (fun c => U c ∨ uTo G y 12 c) M S) (hT : stO v7 (wT y) M S) : Ok (F_L_areWords_L167 v1 v2 (v2 + 1) v7 1 (k : Int) ((insL G y).length : Int) 12 M S) (fun r => ∃ M1, r = .inl (v7, 1, (k : Int) + 1, M1, S) ∧ AWi B G ax R v2 W (fun c => U c ∨ uTo G y (insL G y).length c) M1 S ∧ stO v7 (wT y) M1 S) := by
  obtain ⟨⟨cur0, hC0⟩, -⟩ := id h
  have hlen := len_insL hC0.2.1.1 (x := y)
  unfold F_L_areWords_L167
  refine Ok.loop (fun s : Int × zM × zS => ∃ i : Nat, s.1 = (i : Int) ∧ 12 ≤ i ∧ (i = 12 ∨ i ≤ (insL G y).length) ∧ s.2.2 = S ∧ AWi B G ax R v2 W (fun c => U c ∨ uTo G y i c) s.2.1 S ∧ stO v7 (wT y) s.2.1 S) (fun s => (insL G y).length - s.1.toNat) (fun e : zM × zS => e.2 = S ∧ AWi B G ax R v2 W (fun c => U c ∨ uTo G y (insL G y).length c) e.1 S ∧ stO v7 (wT y) e.1 S) ⟨12, rfl, Nat.le_refl _, Or.inl rfl, rfl, h, hT⟩ (by show (insL G y).length - 12 < 1000000; omega) (fun s ⟨i, h1, h2, h3, h4, h5, h6⟩ => ?_) (fun e ⟨h1, h2, h3⟩ => ?_)
  · obtain ⟨s1, M1, S1⟩ := s
    dsimp only at h1 h4 h5 h6 ⊢
    subst h1 h4
    unfold F_L_areWords_B167
    refine Ok.ite (fun c => ?_) (fun c => Ok.ret ⟨rfl, h5.iff (fun c => or_congr Iff.rfl (uTo_end (by omega) (Or.inr (Nat.le_refl _)) c)), h6⟩)
    have hil : i < (insL G y).length := by omega
    have hr := List.getElem?_eq_getElem hil
    generalize (insL G y)[i] = r at hr
    obtain ⟨⟨cur, hC⟩, hA, -⟩ := id h5
    refine IS (KK := fun M25 S17 => zlet (w ((i : Int) + 1)) fun x26 => some (Sum.inl (x26, M25, S17) : (Int × zM × zS) ⊕ (zM × zS))) hC hf hA hg hr hs (fun M2 d1 d2 d3 => Ok.lett (Ok.ret ?_))
    rw [w_id (a := (i : Int) + 1) ⟨by omega, by omega⟩]
    exact ⟨⟨i + 1, rfl, by omega, Or.inr (by omega), rfl, h5.put d1 d2 d3 (fun c => by rw [uTo_s hr c, or_assoc]), h6.put hA.2.2.2.1 d2⟩, by dsimp only; omega⟩
  · obtain ⟨M1, S1⟩ := e
    dsimp only at h1 h2 h3 ⊢
    subst h1
    unfold F_L_areWords_J195
    refine Ok.lett (Ok.ret ⟨M1, ?_, h2, h3⟩)
    rw [w_id (a := (k : Int) + 1) ⟨by omega, by omega⟩]
theorem pos_gt {x z : Int} (hx : wd x) (hD : lcA G ax x) (h : x < z) : pos (lcA G ax) x < pos (lcA G ax) z := by
  unfold pos
  have h1 : cnt (lcA G ax) (x.toNat + 1) = cnt (lcA G ax) x.toNat + 1 := cnt_t (by rw [show ((x.toNat : Nat) : Int) = x by have := hx.1; omega]; exact hD)
  have h2 : cnt (lcA G ax) (x.toNat + 1) ≤ cnt (lcA G ax) z.toNat := cnt_mono (by have := hx.1; omega)
  omega
/-- all insertions in a word -/
theorem L103 (hf : fewA G ax) (hg : (wl_ (lcA G ax))[k]? = some y) (hs : S.1 + 100 ≤ 6000) (hk : k < 400) (h : AWi B G ax R v2 W U M S) (hT : stO v7 (wT y) M S) : Ok (F_L_areWords_L103 v1 v2 (v2 + 1) v7 1 (k : Int) ((insL G y).length : Int) 0 M S) (fun r => ∃ M1, r = .inl (v7, 1, (k : Int) + 1, M1, S) ∧ AWi B G ax R v2 W (fun c => U c ∨ uTo G y (insL G y).length c) M1 S ∧ stO v7 (wT y) M1 S) := by
  obtain ⟨⟨cur0, hC0⟩, -⟩ := id h
  obtain ⟨hpos, hwy, hDy⟩ := wl_idx hg
  unfold F_L_areWords_L103
  refine Ok.loop (fun s : Int × Int × zM × zS => ∃ i : Nat, s.1 = 1 ∧ s.2.1 = (i : Int) ∧ i ≤ 12 ∧ s.2.2.2 = S ∧ AWi B G ax R v2 W (fun c => U c ∨ uTo G y i c) s.2.2.1 S ∧ stO v7 (wT y) s.2.2.1 S) (fun s => 12 - s.2.1.toNat) (fun e : Int × zM × zS => e.1 = 1 ∧ e.2.2 = S ∧ AWi B G ax R v2 W (fun c => U c ∨ uTo G y 12 c) e.2.1 S ∧ stO v7 (wT y) e.2.1 S) ⟨0, rfl, rfl, by omega, rfl, h.iff (fun c => ⟨Or.inl, fun z => z.resolve_right (fun ⟨j, r, q, _⟩ => absurd q (Nat.not_lt_zero j))⟩), hT⟩ (by show 12 - 0 < 1000000; omega) (fun s ⟨i, h1, h2, h3, h4, h5, h6⟩ => ?_) (fun e ⟨h0, h1, h2, h3⟩ => ?_)
  · obtain ⟨s1, s2, M1, S1⟩ := s
    dsimp only at h1 h2 h4 h5 h6 ⊢
    subst h1 h2 h4
    unfold F_L_areWords_B103
    refine Ok.ite (fun c => Ok.ite (fun c12 => ?_) (fun c12 => ?_)) (fun c => ?_)
    · have hil : i < (insL G y).length := by omega
      have hr := List.getElem?_eq_getElem hil
      generalize (insL G y)[i] = r at hr
      obtain ⟨⟨cur, hC⟩, hA, -⟩ := id h5
      have hp := (mem_insL hC.2.1.1 hwy).mp (List.mem_of_getElem? hr)
      refine IS (KK := fun M50 S42 => if (1 : Int) = 0 then F_L_areWords_J154 v1 v2 (v2 + 1) v7 (k : Int) ((insL G y).length : Int) (i : Int) M50 S42 else zchk (S42.1 + 100 ≤ 6000) (zb3 (F_L_rank M50 S42) fun r53 M54 S55 => if (k : Int) < r53 then F_L_areWords_J155 v1 v2 (v2 + 1) v7 (k : Int) ((insL G y).length : Int) (i : Int) 1 M54 S55 else F_L_areWords_J154 v1 v2 (v2 + 1) v7 (k : Int) ((insL G y).length : Int) (i : Int) M54 S55)) hC hf hA hg hr hs (fun M2 d1 d2 d3 => ?_)
      have hl : lcA G ax (insV G y r) := lc_ins hDy hp trivial
      have hv := insV_r hC.2.1.1 hwy hp
      refine Ok.neg (by decide) (Ok.chk hs (LS_rank d1 hf hl hs (fun M3 e1 e2 => ?_)))
      have hpk : pos (lcA G ax) y = (k : Int) := by unfold pos; rw [hpos]
      refine Ok.pos (by rw [← hpk]; exact pos_gt hwy hDy hv.2.2.2.2) ?_
      unfold F_L_areWords_J155
      refine Ok.lett (Ok.ret ?_)
      rw [w_id (a := (i : Int) + 1) ⟨by omega, by omega⟩]
      have d2' : ∀ b, 89 < b → b ≤ S1.1 → zkd S1 b ≠ 21 → b ≠ v2 + 1 → M3 b = M1 b := fun b q1 q2 q3 q4 => (e2 b q1 ⟨q2, q3⟩).trans (d2 b q1 q2 q3 q4)
      have d3' : M3 (v2 + 1) = up (M1 (v2 + 1)) ((r / 100 : Nat) : Int) 1 := (e2 _ (by have := hA.1.1; omega) ⟨hA.1.2, by rw [hA.2.2.2.1]; decide⟩).trans d3
      exact ⟨⟨i + 1, rfl, rfl, by omega, rfl, h5.put e1 d2' d3' (fun c => by rw [uTo_s hr c, or_assoc]), h6.put hA.2.2.2.1 d2'⟩, by dsimp only; omega⟩
    · have e12 : i = 12 := by omega
      subst e12
      exact Ok.ret ⟨rfl, rfl, h5, h6⟩
    · exact Ok.ret ⟨rfl, rfl, h5.iff (fun c => or_congr Iff.rfl (uTo_end (by omega) (Or.inl h3) c)), h6⟩
  · obtain ⟨e1, M1, S1⟩ := e
    dsimp only at h0 h1 h2 h3 ⊢
    subst h0 h1
    unfold F_L_areWords_J163
    exact L167 hf hg hs hk h2 h3
end
