/-! PURE 42: the reference: a reduction by its place in order -/
noncomputable def ksR (G : zGr) (x : Int) : List Int := (redL G x).map (fun r => mvc (redV G x r) r)
/-- the reduction with place i in order -/
def rkd (G : zGr) (x : Int) (i r : Nat) : Prop := redP G x r ∧ rkn (ksR G x) (mvc (redV G x r) r) = i
def qv (r : Nat) : Nat := r / 100 * 256 + r / 10 % 10 * 16 + r % 10
theorem q_dig {a b c d e f : Nat} (h1 : b ≤ 9) (h2 : c ≤ 9) (h3 : e ≤ 9) (h4 : f ≤ 9) (h : 100 * a + 10 * b + c < 100 * d + 10 * e + f) : a * 256 + b * 16 + c < d * 256 + e * 16 + f := by omega
theorem q_3 (r : Nat) : r = 100 * (r / 100) + 10 * (r / 10 % 10) + r % 10 := by omega
theorem q_mono {r t : Nat} (h : r < t) : qv r < qv t := by
  unfold qv
  refine q_dig (by omega) (by omega) (by omega) (by omega) ?_
  rw [← q_3 r, ← q_3 t]
  exact h
theorem q_top {r : Nat} (h : r < 500) : qv r < 2048 := by
  have h1 : r / 100 ≤ 4 := by omega
  have h2 : r / 10 % 10 ≤ 9 := by omega
  have h3 : r % 10 ≤ 9 := by omega
  unfold qv
  generalize r / 100 = a at h1 ⊢
  generalize r / 10 % 10 = b at h2 ⊢
  generalize r % 10 = c at h3 ⊢
  omega
theorem mvc_q {y : Int} {r : Nat} : mvc y r = y * 2048 + (qv r : Int) := by
  unfold mvc rs re qv
  generalize r / 100 = a
  generalize r / 10 % 10 = b
  generalize r % 10 = c
  omega
theorem q_cmp {y z : Int} {a b r t : Nat} (q1 : a < 2048) (q2 : b < 2048) (q3 : r < t → a < b) (q4 : t < r → b < a) (q5 : r = t → a = b) : y * 2048 + (a : Int) < z * 2048 + (b : Int) ↔ y < z ∨ (y = z ∧ r < t) := by omega
theorem mvc_lt {y z : Int} {r t : Nat} (hr : r < 500) (ht : t < 500) : mvc y r < mvc z t ↔ y < z ∨ (y = z ∧ r < t) := by
  rw [mvc_q, mvc_q]
  exact q_cmp (q_top hr) (q_top ht) q_mono q_mono (fun h => by rw [h])
theorem mvc_eq {y z : Int} {r t : Nat} (hr : r < 500) (ht : t < 500) (h : mvc y r = mvc z t) : y = z ∧ r = t := by
  have h1 := (mvc_lt (y := y) (z := z) hr ht).mpr
  have h2 := (mvc_lt (y := z) (z := y) ht hr).mpr
  omega
theorem redP_500 {G : zGr} (hG : grok G) {x : Int} {r : Nat} (h : redP G x r) : r < 500 := by
  have := (redV_r hG h).2.2.2
  have := hG.2.2.1
  omega
theorem frl_pw {P : Nat → Prop} : ∀ {n : Nat}, (frl P n).Pairwise (· < ·)
  | 0 => List.Pairwise.nil
  | n + 1 => by
    by_cases h : P n
    · rw [frl_t h, List.pairwise_append]
      refine ⟨frl_pw, List.pairwise_singleton _ _, fun a ha b hb => ?_⟩
      have := (mem_frl.mp ha).1
      rw [List.mem_singleton] at hb
      omega
    · rw [frl_f h]; exact frl_pw
theorem redL_lt {G : zGr} {x : Int} {i j r t : Nat} (hi : (redL G x)[i]? = some r) (hj : (redL G x)[j]? = some t) : i < j ↔ r < t := by
  obtain ⟨a1, a2⟩ := List.getElem?_eq_some_iff.mp hi
  obtain ⟨b1, b2⟩ := List.getElem?_eq_some_iff.mp hj
  have hp := List.pairwise_iff_getElem.mp (frl_pw (P := redP G x) (n := 100 * G.2.2.length))
  constructor
  · intro h
    have := hp i j a1 b1 h
    change (redL G x)[i] < (redL G x)[j] at this
    omega
  · intro h
    rcases Nat.lt_trichotomy i j with q | q | q
    · exact q
    · subst q; rw [hi] at hj; cases hj; omega
    · have := hp j i b1 a1 q
      change (redL G x)[j] < (redL G x)[i] at this
      omega
theorem ksR_nd {G : zGr} (hG : grok G) {x : Int} : (ksR G x).Nodup := by
  unfold ksR
  rw [List.Nodup, List.pairwise_map]
  refine List.Pairwise.imp_of_mem ?_ (frl_pw (P := redP G x) (n := 100 * G.2.2.length))
  intro a b ha hb hab e
  have := (mvc_eq (redP_500 hG ((mem_redL hG).mp ha)) (redP_500 hG ((mem_redL hG).mp hb)) e).2
  omega
theorem rkd.eq {G : zGr} (hG : grok G) {x : Int} {i r t : Nat} (h : rkd G x i r) (h2 : rkd G x i t) : r = t := by
  have m1 : mvc (redV G x r) r ∈ ksR G x := List.mem_map.mpr ⟨r, (mem_redL hG).mpr h.1, rfl⟩
  have m2 : mvc (redV G x t) t ∈ ksR G x := List.mem_map.mpr ⟨t, (mem_redL hG).mpr h2.1, rfl⟩
  exact (mvc_eq (redP_500 hG h.1) (redP_500 hG h2.1) (rkn_inj m1 m2 (h.2.trans h2.2.symm))).2
theorem rkn_take {ks : List Int} {j : Nat} {u v : Int} (h : ks[j]? = some u) : rkn (ks.take (j + 1)) v = rkn (ks.take j) v + if u < v then 1 else 0 := by
  obtain ⟨h1, h2⟩ := List.getElem?_eq_some_iff.mp h
  have htk : ks.take (j + 1) = ks.take j ++ [ks[j]] := List.take_succ_eq_append_getElem h1
  unfold rkn
  rw [htk, h2, List.filter_append, List.length_append, List.filter_cons]
  by_cases q : u < v
  · rw [if_pos (by simpa using q), if_pos q]; rfl
  · rw [if_neg (by simpa using q), if_neg q]; rfl
theorem FX11_countAhead {M : zM} {G : zGr} {x : Int} {i r : Nat} (hG : grok G) (h66 : ∀ (j t : Nat), (redL G x)[j]? = some t → M 66 j = redV G x t) (hi : (redL G x)[i]? = some r) : Ok (F_X11_countAhead (i : Int) ((redL G x).length : Int) M) (fun v => v = (rkn (ksR G x) (mvc (redV G x r) r) : Int)) := by
  have hlen := len_redL hG (x := x)
  have hil := (List.getElem?_eq_some_iff.mp hi).1
  have hkl : (ksR G x).length = (redL G x).length := List.length_map ..
  have hpr : redP G x r := (mem_redL hG).mp (List.mem_of_getElem? hi)
  unfold F_X11_countAhead F_X11_countAhead_L5
  refine Ok.loop (fun z => ∃ j : Nat, z.2 = j ∧ j ≤ (redL G x).length ∧ z.1 = (rkn ((ksR G x).take j) (mvc (redV G x r) r) : Int) ∧ rkn ((ksR G x).take j) (mvc (redV G x r) r) ≤ j) (fun z => (1000 - z.2).toNat) (fun v => v = (rkn (ksR G x) (mvc (redV G x r) r) : Int)) ⟨0, rfl, Nat.zero_le _, rfl, Nat.le_refl 0⟩ (by show (1000 - (0 : Int)).toNat < zN; decide) ?_ (fun v h => by unfold F_X11_countAhead_J63; exact Ok.ret h)
  rintro ⟨v3, v4⟩ ⟨j, i1, i2, i3, i4⟩
  dsimp only at i1 i2 i3 i4 ⊢
  subst i1 i3
  unfold F_X11_countAhead_B5
  refine Ok.ite (fun q => ?_) (fun q => Ok.ret ?_)
  · have hj : j < (redL G x).length := by omega
    have hg := List.getElem?_eq_getElem hj
    generalize (redL G x)[j] = t at hg
    have hpt : redP G x t := (mem_redL hG).mp (List.mem_of_getElem? hg)
    have hkj : (ksR G x)[j]? = some (mvc (redV G x t) t) := by unfold ksR; rw [List.getElem?_map, hg]; rfl
    have hs := rkn_take (v := mvc (redV G x r) r) hkj
    have hiff : mvc (redV G x t) t < mvc (redV G x r) r ↔ redV G x t < redV G x r ∨ (redV G x t = redV G x r ∧ j < i) := by
      rw [mvc_lt (redP_500 hG hpt) (redP_500 hG hpr), redL_lt hg hi]
    have go : ∀ b : Int, b = (if mvc (redV G x t) t < mvc (redV G x r) r then 1 else 0) → Ok (F_X11_countAhead_J55 (i : Int) ((redL G x).length : Int) j ((rkn ((ksR G x).take j) (mvc (redV G x r) r) : Nat) : Int) b M) (Turn (fun z : Int × Int => ∃ j : Nat, z.2 = j ∧ j ≤ (redL G x).length ∧ z.1 = (rkn ((ksR G x).take j) (mvc (redV G x r) r) : Int) ∧ rkn ((ksR G x).take j) (mvc (redV G x r) r) ≤ j) (fun z => (1000 - z.2).toNat) (fun v => v = (rkn (ksR G x) (mvc (redV G x r) r) : Int)) (((rkn ((ksR G x).take j) (mvc (redV G x r) r) : Nat) : Int), (j : Int))) := fun b hb => by
      unfold F_X11_countAhead_J55
      have e : w (((rkn ((ksR G x).take j) (mvc (redV G x r) r) : Nat) : Int) + b) = ((rkn ((ksR G x).take (j + 1)) (mvc (redV G x r) r) : Nat) : Int) ∧ rkn ((ksR G x).take (j + 1)) (mvc (redV G x r) r) ≤ j + 1 := by
        rw [hs, hb]
        by_cases c : mvc (redV G x t) t < mvc (redV G x r) r
        · rw [if_pos c, if_pos c, w_id (by omega)]; omega
        · rw [if_neg c, if_neg c, w_id (by omega)]; omega
      rw [e.1, w_id (a := (j : Int) + 1) (by omega)]
      exact Ok.lett (Ok.lett (Ok.ret ⟨⟨j + 1, by show (j : Int) + 1 = _; omega, by omega, rfl, e.2⟩, by show (1000 - ((j : Int) + 1)).toNat < (1000 - (j : Int)).toNat; omega⟩))
    unfold F_X11_countAhead_J50 F_X11_countAhead_J54
    rw [h66 j t hg, h66 i r hi]
    have b1 : (0 : Int) ≤ j ∧ (j : Int) < 500 := ⟨by omega, by omega⟩
    have b2 : (0 : Int) ≤ i ∧ (i : Int) < 500 := ⟨by omega, by omega⟩
    refine Ok.chk b1 (Ok.chk b2 (Ok.ite (fun c => go 1 (by rw [if_pos (hiff.mpr (Or.inl c))])) (fun c => Ok.chk b1 (Ok.chk b2 (Ok.ite (fun c1 => Ok.ite (fun c2 => go 1 (by rw [if_pos (hiff.mpr (Or.inr ⟨c1, by omega⟩))])) (fun c2 => go 0 ?_)) (fun c1 => go 0 ?_))))))
    · rw [if_neg (fun a => by rcases hiff.mp a with a | a; exact c a; exact c2 (by omega))]
    · rw [if_neg (fun a => by rcases hiff.mp a with a | a; exact c a; exact c1 a.1)]
  · show ((rkn ((ksR G x).take j) (mvc (redV G x r) r) : Nat) : Int) = _
    rw [List.take_of_length_le (by omega)]
theorem FX11_reduce {M : zM} {G : zGr} {ax : List Int} {cur t : Int} (h : mst M G ax cur) : Ok (F_X11_reduce t M) (fun e => (¬ (0 ≤ t ∧ t < ((redL G cur).length : Int)) → e.2 48 0 = 1 ∧ mscr M e.2) ∧ ∀ i : Nat, t = i → i < (redL G cur).length → e.2 48 0 = 0 ∧ ∃ r, rkd G cur i r ∧ e.1 = ((r / 100 : Nat) : Int) ∧ mcur M e.2 (redV G cur r)) := by
  obtain ⟨hG, hax, hw, hM, hA, hcu⟩ := id h
  have hG3 := hG.2.2.1
  have hlen := len_redL hG (x := cur)
  have h1 := h.scr (M1 := zs M 48 0 0) mscr.th
  unfold F_X11_reduce
  refine Ok.lett ?_
  rw [h1.2.2.2.2.2]
  refine Ok.b2 (FX11_countReductions hG h1.2.2.2.1 hw) (fun v M3 ⟨a1, a2⟩ => ?_)
  dsimp only at a1 a2
  subst a1
  have hs3 : mscr M M3 := mfr.trans mscr.th (mscr.of a2 (fun b q => False.elim q) (fun k q => by omega))
  have z3 : M3 48 0 = 0 := by rw [a2.2 0 (by decide) (by decide) (by decide)]; exact zs_at M 48 0 0
  rw [FX11_isIn, w_id (a := ((redL G cur).length : Int) - 1) (by omega)]
  simp only [zb1_some]
  refine Ok.ite (fun c => ?_) (fun c => ?_)
  · rw [FX11_fail]
    simp only [zb2_some]
    have hno : ¬ (0 ≤ t ∧ t ≤ ((redL G cur).length : Int) - 1) := fun q => by rw [if_pos q] at c; exact absurd c (by decide)
    exact Ok.ret ⟨fun _ => ⟨zs_at M3 48 0 1, mfr.trans hs3 mscr.th⟩, fun i e1 e2 => absurd ⟨by omega, by omega⟩ hno⟩
  have ht : 0 ≤ t ∧ t ≤ ((redL G cur).length : Int) - 1 := by
    by_cases q : 0 ≤ t ∧ t ≤ ((redL G cur).length : Int) - 1
    · exact q
    · rw [if_neg q] at c; exact absurd rfl c
  obtain ⟨i, hi⟩ : ∃ i : Nat, t = i := ⟨t.toNat, by omega⟩
  subst hi
  have hfr : ∀ {M4 : zM}, mfr (fun b => b = 65 ∨ b = 66) m26 M3 M4 → mscr M M4 := fun a => mfr.trans hs3 (mscr.of a (fun b q => by omega) (fun k q => by unfold m26 at q; omega))
  unfold F_X11_reduce_L33
  refine Ok.loop (fun z => ∃ r : Nat, z.2.1 = r ∧ r ≤ 100 * G.2.2.length ∧ z.1 = ((frl (redP G cur) r).length : Int) ∧ mfr (fun b => b = 65 ∨ b = 66) m26 M3 z.2.2 ∧ ∀ (j u : Nat), (frl (redP G cur) r)[j]? = some u → z.2.2 65 j = (u : Int) ∧ z.2.2 66 j = redV G cur u) (fun z => (1000 - z.2.1).toNat) (fun e => e.1 = ((redL G cur).length : Int) ∧ mfr (fun b => b = 65 ∨ b = 66) m26 M3 e.2 ∧ ∀ (j u : Nat), (redL G cur)[j]? = some u → e.2 65 j = (u : Int) ∧ e.2 66 j = redV G cur u) ⟨0, rfl, by omega, rfl, mfr.refl, fun j u hj => by have hj : ([] : List Nat)[j]? = some u := hj; simp at hj⟩ (by show (1000 - (0 : Int)).toNat < zN; decide) ?_ ?_
  · rintro ⟨v2, v3, M4⟩ ⟨r, i1, i2, i3, i4, i5⟩
    dsimp only at i1 i2 i3 i4 i5 ⊢
    subst i1 i3
    have hst := h.scr (hfr i4)
    have hle : (frl (redP G cur) r).length ≤ (redL G cur).length := frl_mono i2
    unfold F_X11_reduce_B33
    rw [hst.2.2.2.1.1, hst.2.2.2.2.2, w_id (a := 100 * (G.2.2.length : Int)) (by omega)]
    refine Ok.ite (fun q => ?_) (fun q => Ok.ret ?_)
    · have go : ∀ (v : Int) (M5 : zM), v = ((frl (redP G cur) (r + 1)).length : Int) → mfr (fun b => b = 65 ∨ b = 66) m26 M3 M5 → (∀ (j u : Nat), (frl (redP G cur) (r + 1))[j]? = some u → M5 65 j = (u : Int) ∧ M5 66 j = redV G cur u) → Ok (F_X11_reduce_J97 i v r M5) (Turn (fun z : Int × Int × zM => ∃ r : Nat, z.2.1 = r ∧ r ≤ 100 * G.2.2.length ∧ z.1 = ((frl (redP G cur) r).length : Int) ∧ mfr (fun b => b = 65 ∨ b = 66) m26 M3 z.2.2 ∧ ∀ (j u : Nat), (frl (redP G cur) r)[j]? = some u → z.2.2 65 j = (u : Int) ∧ z.2.2 66 j = redV G cur u) (fun z => (1000 - z.2.1).toNat) (fun e : Int × zM => e.1 = ((redL G cur).length : Int) ∧ mfr (fun b => b = 65 ∨ b = 66) m26 M3 e.2 ∧ ∀ (j u : Nat), (redL G cur)[j]? = some u → e.2 65 j = (u : Int) ∧ e.2 66 j = redV G cur u) (((frl (redP G cur) r).length : Int), (r : Int), M4)) := fun v M5 b1 b2 b3 => by
        unfold F_X11_reduce_J97
        rw [w_id (a := (r : Int) + 1) (by omega)]
        exact Ok.lett (Ok.ret ⟨⟨r + 1, by show (r : Int) + 1 = _; omega, by omega, b1, b2, b3⟩, by show (1000 - ((r : Int) + 1)).toNat < (1000 - (r : Int)).toNat; omega⟩)
      refine mred hG hst.2.2.2.1 hw (by omega) (fun hn => go _ M4 (by rw [frl_f hn]) i4 (by rw [frl_f hn]; exact i5)) (fun M6 hn f6 => go _ M6 (by rw [frl_f hn]) (i4.trans (f6.mono (fun _ a => a.elim) (fun _ a => a))) (by rw [frl_f hn, f6.1 65 (fun a => a) (by decide) (by decide) (by decide), f6.1 66 (fun a => a) (by decide) (by decide) (by decide)]; exact i5)) (fun M6 hp e26 f6 => ?_)
      have hs : (frl (redP G cur) (r + 1)).length = (frl (redP G cur) r).length + 1 := by rw [frl_t hp, List.length_append]; rfl
      have hle2 : (frl (redP G cur) (r + 1)).length ≤ (redL G cur).length := frl_mono (by omega)
      have bb : (0 : Int) ≤ ((frl (redP G cur) r).length : Int) ∧ ((frl (redP G cur) r).length : Int) < 500 := ⟨by omega, by omega⟩
      have e65 : M6 65 = M4 65 := f6.1 65 (fun a => a) (by decide) (by decide) (by decide)
      have e66 : M6 66 = M4 66 := f6.1 66 (fun a => a) (by decide) (by decide) (by decide)
      have e48 : zs M6 65 ((frl (redP G cur) r).length : Int) (r : Int) 48 26 = redV G cur r := by rw [zs_ne _ _ _ (by decide)]; exact e26
      refine Ok.chk bb (Ok.lett (Ok.chk bb ?_))
      rw [e48, w_id (a := ((frl (redP G cur) r).length : Int) + 1) (by omega)]
      refine Ok.lett (Ok.lett (go _ _ (by rw [hs]; omega) (((i4.trans (f6.mono (fun _ a => a.elim) (fun _ a => a))).trans (mfr.cell (Or.inl rfl) (by decide))).trans (mfr.cell (Or.inr rfl) (by decide))) (fun j u hj => ?_)))
      rw [frl_t hp] at hj
      rw [zs_ne (a := 66) (b := 65) _ _ _ (by decide)]
      by_cases e : j = (frl (redP G cur) r).length
      · subst e
        rw [List.getElem?_append_right (Nat.le_refl _), Nat.sub_self] at hj
        have hj : r = u := by simpa using hj
        subst hj
        rw [zs_at, zs_at]
        exact ⟨rfl, rfl⟩
      · have hjl : j < (frl (redP G cur) r).length := by
          have := (List.getElem?_eq_some_iff.mp hj).1
          rw [List.length_append, List.length_singleton] at this
          omega
        rw [List.getElem?_append_left hjl] at hj
        rw [zs_off _ _ (Or.inr (by omega)), zs_off _ _ (Or.inr (by omega)), zs_ne (a := 65) (b := 66) _ _ _ (by decide), e65, e66]
        exact i5 j u hj
    · have e : r = 100 * G.2.2.length := by omega
      rw [e] at i5 ⊢
      exact ⟨rfl, i4, i5⟩
  · rintro ⟨v2, M4⟩ ⟨b1, b2, b3⟩
    dsimp only at b1 b2 b3 ⊢
    subst b1
    obtain ⟨kv, hkv, hrk⟩ := rkn_ex (ksR_nd hG (x := cur)) (i := i) (by unfold ksR; rw [List.length_map]; omega)
    obtain ⟨r0, hr0, hkr⟩ := List.mem_map.mp hkv
    obtain ⟨p, hp⟩ := List.mem_iff_getElem?.mp hr0
    have hpl := (List.getElem?_eq_some_iff.mp hp).1
    unfold F_X11_reduce_J103 F_X11_reduce_L105
    refine Ok.loop (fun z => ∃ j : Nat, z = j ∧ j ≤ p) (fun z => (1000 - z).toNat) (fun v => ∃ (j r : Nat), v = j ∧ (redL G cur)[j]? = some r ∧ rkn (ksR G cur) (mvc (redV G cur r) r) = i) ⟨0, rfl, Nat.zero_le _⟩ (by show (1000 - (0 : Int)).toNat < zN; decide) ?_ ?_
    · rintro v3 ⟨j, i1, i2⟩
      subst i1
      have hj : j < (redL G cur).length := by omega
      have hg := List.getElem?_eq_getElem hj
      generalize (redL G cur)[j] = u at hg
      unfold F_X11_reduce_B105
      refine Ok.b1 (FX11_countAhead hG (fun j u hu => (b3 j u hu).2) hg) (fun v hv => ?_)
      subst hv
      refine Ok.ite (fun q => Ok.ret ⟨j, u, rfl, hg, by omega⟩) (fun q => ?_)
      rw [w_id (a := (j : Int) + 1) (by omega)]
      refine Ok.lett (Ok.ret ⟨⟨j + 1, by omega, ?_⟩, by show (1000 - ((j : Int) + 1)).toNat < (1000 - (j : Int)).toNat; omega⟩)
      by_cases e : j = p
      · subst e
        rw [hp] at hg
        cases hg
        have hkr : mvc (redV G cur r0) r0 = kv := hkr
        rw [hkr, hrk] at q
        exact absurd rfl q
      · omega
    · rintro v ⟨j, r, rfl, hj, hrk2⟩
      have hjl := (List.getElem?_eq_some_iff.mp hj).1
      have hpr : redP G cur r := (mem_redL hG).mp (List.mem_of_getElem? hj)
      have h500 := redP_500 hG hpr
      obtain ⟨c1, c2⟩ := b3 j r hj
      unfold F_X11_reduce_J121
      have bb : (0 : Int) ≤ (j : Int) ∧ (j : Int) < 500 := ⟨by omega, by omega⟩
      rw [c2]
      have d1 : zdiv (r : Int) 100 = ((r / 100 : Nat) : Int) := by rw [zdiv_e (by omega) (by omega) (by decide) (by decide)]; omega
      have e65 : zs M4 48 29 (redV G cur r) 65 = M4 65 := zs_ne M4 29 _ (by decide)
      refine Ok.chk bb (Ok.lett (Ok.chk bb ?_))
      rw [e65, c1, d1]
      refine (Ok.ret ⟨fun q => absurd ⟨by omega, by omega⟩ q, fun k e1 e2 => ⟨?_, r, ⟨hpr, by rw [hrk2]; omega⟩, rfl, mcur.of (hfr b2)⟩⟩)
      show zs M4 48 29 (redV G cur r) 48 0 = 0
      rw [zs_off _ _ (Or.inr (by decide)), b2.2 0 (by unfold m26; decide) (by decide) (by decide)]
      exact z3
