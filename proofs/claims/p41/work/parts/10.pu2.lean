/-! PURE 2: words: the class's and the reference's small methods are the same functions -/
theorem FX9_length {x : Int} (h : wd x) : F_X9_length x = some (ln x) := by
  refine Ok.eqs ?_
  unfold F_X9_length F_X9_length_L6
  refine Ok.loop (fun s => s.1 = s.2.2 - 1 ∧ s.2.1 = f3 s.2.2 ∧ 1 ≤ s.2.2 ∧ s.2.2 ≤ 10 ∧ f3 s.1 ≤ x) (fun s => (10 - s.2.2).toNat) (fun e => e = ln x) ⟨rfl, rfl, by decide, by decide, h.1⟩ (by decide) ?_ (fun e he => Ok.ret he)
  rintro ⟨v1, v2, v3⟩ ⟨i1, i2, i3, i4, i5⟩
  dsimp only at i1 i2 i3 i4 i5 ⊢
  subst i1 i2
  unfold F_X9_length_B6
  have h3 := f3_10 (n := v3) (by omega) i4
  have h4 := f3_nn v3
  refine Ok.ite (fun c => Ok.ret ?_) (fun c => Ok.ite (fun c2 => Ok.ret ?_) (fun c2 => Ok.lett (Ok.lett (Ok.ret ?_))))
  · have e : v3 = 10 := by omega
    subst e
    exact (ln_u (n := 9) (by decide) (by decide) i5 h.2).1.symm
  · exact (ln_u (n := v3 - 1) (by omega) (by omega) i5 (by rw [Int.sub_add_cancel]; exact c2)).1.symm
  · refine ⟨⟨?_, ?_, ?_, ?_, ?_⟩, ?_⟩
    · show v3 = w (v3 + 1) - 1
      rw [w_id (by omega)]; omega
    · show w (3 * f3 v3 + 1) = f3 (w (v3 + 1))
      rw [w_id (a := v3 + 1) (by omega), f3_s (by omega), w_id (by omega)]
    · show 1 ≤ w (v3 + 1)
      rw [w_id (by omega)]; omega
    · show w (v3 + 1) ≤ 10
      rw [w_id (by omega)]; omega
    · show f3 v3 ≤ x
      omega
    · show (10 - w (v3 + 1)).toNat < (10 - v3).toNat
      rw [w_id (by omega)]; omega
theorem zpow_p3 : ∀ k : Int, 0 ≤ k → k < 10 → zpow k = p3 k := by
  intro k h0 h1
  have : k = 0 ∨ k = 1 ∨ k = 2 ∨ k = 3 ∨ k = 4 ∨ k = 5 ∨ k = 6 ∨ k = 7 ∨ k = 8 ∨ k = 9 := by omega
  rcases this with rfl | rfl | rfl | rfl | rfl | rfl | rfl | rfl | rfl | rfl <;> decide +kernel
theorem FX9_power {k : Int} (h0 : 0 ≤ k) (h1 : k ≤ 9) : F_X9_power k = some (p3 k) := by
  unfold F_X9_power
  rw [if_neg (by omega), if_pos (by omega), zchk_pos (by omega), zpow_p3 k h0 (by omega)]
theorem div_odd (n : Int) : p3 n / 2 = f3 n := by
  have := p3_odd n
  unfold f3
  omega
theorem sh_div {a b c : Int} (hb : 0 < b) (hc : 0 < c) : a / b / c = a / (b * c) := Int.ediv_ediv_of_nonneg (Int.le_of_lt hb)
/-- dropping j letters -/
theorem drop_e {x j : Int} (h0 : 0 ≤ j) (h1 : j ≤ ln x) : (x - f3 j) / p3 j = (x - f3 (ln x)) / p3 j + f3 (ln x - j) := by
  have h := f3_add (a := ln x - j) (b := j) (by omega) h0
  rw [Int.sub_add_cancel] at h
  rw [← Int.add_mul_ediv_right _ _ (Int.ne_of_gt (p3_pos j))]
  congr 1
  omega
theorem tp {x j m : Int} (hm : 0 ≤ m) (h0 : 0 ≤ j) (h1 : j + m ≤ ln x) : ((x - f3 j) / p3 j - f3 m) % p3 m + f3 m = fa x (ln x - j - m) (ln x - j) := by
  have h := f3_add (a := ln x - j - m) (b := m) (by omega) hm
  rw [Int.sub_add_cancel] at h
  rw [drop_e h0 (by omega)]
  unfold fa
  rw [show ln x - j - (ln x - j - m) = m by omega, show ln x - (ln x - j) = j by omega, h, show (x - f3 (ln x)) / p3 j + (f3 (ln x - j - m) * p3 m + f3 m) - f3 m = (x - f3 (ln x)) / p3 j + f3 (ln x - j - m) * p3 m by omega, Int.add_mul_emod_self_right]
  omega
theorem drop_r {x j : Int} (hx : wd x) (h0 : 0 ≤ j) (h1 : j ≤ ln x) : f3 (ln x - j) ≤ (x - f3 j) / p3 j ∧ (x - f3 j) / p3 j < 29524 := by
  rw [drop_e h0 h1]
  have h2 := ln_r hx
  have h4 := ln_b x
  have h3 : 0 ≤ (x - f3 (ln x)) / p3 j := Int.ediv_nonneg (by omega) (Int.le_of_lt (p3_pos j))
  have h5 : (x - f3 (ln x)) / p3 j ≤ x - f3 (ln x) := Int.ediv_le_self _ (by omega)
  have h6 := f3_mono (show ln x - j ≤ ln x by omega) (by omega)
  have := hx.2
  constructor <;> omega
theorem FX9_factor {x s e : Int} (hx : wd x) (h0 : 0 ≤ s) (h1 : s ≤ e) (h2 : e ≤ ln x) : F_X9_factor x (ln x) s e = some (fa x s e) := by
  have hb := ln_b x
  unfold F_X9_factor
  rw [w_id (a := ln x - e) (by omega), w_id (a := e - s) (by omega), FX9_power (by omega) (by omega), FX9_power (by omega) (by omega)]
  simp only [zb1_some, zlet_eq]
  have p1 := p3_pos (ln x - e)
  have p2 := p3_pos (e - s)
  have q1 := p3_9 (n := ln x - e) (by omega) (by omega)
  have q2 := p3_9 (n := e - s) (by omega) (by omega)
  have hd := drop_r (j := ln x - e) hx (by omega) (by omega)
  rw [show ln x - (ln x - e) = e by omega] at hd
  have hf := f3_mono (show ln x - e ≤ ln x by omega) (by omega)
  have hl := ln_r hx
  have hg := f3_mono (show e - s ≤ e by omega) (by omega)
  have hn1 := f3_nn (e - s)
  have hn2 := f3_nn (ln x - e)
  have hxx := hx.2
  have hxy := hx.1
  rw [if_neg (by omega), if_neg (by omega), zchk_pos (by omega), zchk_pos (by omega), zdiv_e (a := p3 (ln x - e)) (by omega) (by omega) (by omega) (by omega), zdiv_e (a := p3 (e - s)) (by omega) (by omega) (by omega) (by omega), div_odd, div_odd, zdiv_e (by omega) (by omega) p1 (by omega), zrem_e (by omega) (by omega) p2 (by omega)]
  have ht := tp (x := x) (j := ln x - e) (m := e - s) (by omega) (by omega) (by omega)
  rw [show ln x - (ln x - e) - (e - s) = s by omega, show ln x - (ln x - e) = e by omega] at ht
  rw [ht, w_id]
  have := (fa_r h0 h1 h2).2
  exact ⟨by have := this.1; omega, by have := this.2; omega⟩
theorem FX9_join {a b : Int} (ha : wd a) (hb : wd b) (h : ln a + ln b ≤ 9) : F_X9_join a b (ln b) = some (jn a b) := by
  have h1 := ln_b a
  have h2 := ln_b b
  unfold F_X9_join
  rw [FX9_power (by omega) (by omega)]
  simp only [zb1_some]
  have h3 := (jn_r ha hb h).2
  unfold jn at h3 ⊢
  rw [w_id ⟨by have := h3.1; omega, by have := h3.2; omega⟩]
theorem FX11_power {k : Int} (h0 : 0 ≤ k) (h1 : k ≤ 10) : F_X11_power k = some (p3 k) := by
  refine Ok.eqs ?_
  unfold F_X11_power F_X11_power_L4
  refine Ok.loop (fun s => s.1 = p3 s.2 ∧ 0 ≤ s.2 ∧ s.2 ≤ k) (fun s => (k - s.2).toNat) (fun e => e = p3 k) ⟨rfl, by decide, h0⟩ (by simp only [zN_v]; omega) ?_ (fun e he => Ok.ret he)
  rintro ⟨v1, v2⟩ ⟨i1, i2, i3⟩
  dsimp only at i1 i2 i3 ⊢
  subst i1
  unfold F_X11_power_B4
  have hp := p3_pos v2
  refine Ok.ite (fun c => Ok.lett (Ok.lett (Ok.ret ?_))) (fun c => Ok.ret ?_)
  · have hq := p3_9 i2 (by omega)
    rw [w_id (a := p3 v2 * 3) (by omega), w_id (a := v2 + 1) (by omega)]
    exact ⟨⟨by show p3 v2 * 3 = p3 (v2 + 1); rw [p3_s i2]; omega, by show 0 ≤ v2 + 1; omega, by show v2 + 1 ≤ k; omega⟩, by show (k - (v2 + 1)).toNat < (k - v2).toNat; omega⟩
  · show p3 v2 = p3 k
    rw [show v2 = k by omega]
theorem FX11_first {k : Int} (h0 : 0 ≤ k) (h1 : k ≤ 10) : F_X11_first k = some (f3 k) := by
  unfold F_X11_first
  rw [FX11_power h0 h1]
  simp only [zb1_some]
  have hp := p3_pos k
  have hq := f3_10 h0 h1
  have h2 := f3_2 k
  rw [zdiv_e (by omega) (by omega) (by omega) (by omega), ← h2]
  congr 1
  omega
theorem FX11_lengthOf {x : Int} (h : wd x) : F_X11_lengthOf x = some (ln x) := by
  refine Ok.eqs ?_
  unfold F_X11_lengthOf F_X11_lengthOf_L2
  refine Ok.loop (fun s => 0 ≤ s ∧ s ≤ 9 ∧ f3 s ≤ x) (fun s => (10 - s).toNat) (fun e => e = ln x) ⟨by decide, by decide, h.1⟩ (by decide) ?_ (fun e he => Ok.ret he)
  intro v ⟨i1, i2, i3⟩
  unfold F_X11_lengthOf_B2
  rw [w_id (a := v + 1) (by omega), FX11_first (by omega) (by omega)]
  simp only [zb1_some]
  refine Ok.ite (fun c => Ok.ret ?_) (fun c => Ok.lett (Ok.ret ?_))
  · exact (ln_u i1 i2 i3 c).1.symm
  · have : v ≠ 9 := by
      intro q; subst q
      exact c h.2
    exact ⟨⟨by omega, by omega, by omega⟩, by show (10 - (v + 1)).toNat < (10 - v).toNat; omega⟩
theorem fa_b {x s e : Int} (h0 : 0 ≤ s) (h1 : s ≤ e) (h2 : e ≤ ln x) : 0 ≤ fa x s e ∧ fa x s e < 29524 := (fa_r h0 h1 h2).2
theorem FX11_joined {a b : Int} (ha : wd a) (hb : wd b) (h : ln a + ln b ≤ 9) : F_X11_joined a b = some (jn a b) := by
  have h1 := ln_b a
  have h2 := ln_b b
  unfold F_X11_joined
  rw [FX11_lengthOf ha, FX11_lengthOf hb]
  simp only [zb1_some]
  rw [w_id (a := ln a + ln b) (by omega), FX11_first (by omega) (by omega), FX11_first (by omega) (by omega), FX11_power (by omega) (by omega), FX11_first (by omega) (by omega)]
  simp only [zb1_some]
  have h3 := (jn_r ha hb h).2
  have e : f3 (ln a + ln b) + (a - f3 (ln a)) * p3 (ln b) + b - f3 (ln b) = jn a b := by
    rw [f3_add h1.1 h2.1, Int.sub_mul]
    unfold jn
    omega
  rw [e, w_id ⟨by have := h3.1; omega, by have := h3.2; omega⟩]
theorem FX11_isIn {v a b : Int} : F_X11_isIn v a b = some (if a ≤ v ∧ v ≤ b then 1 else 0) := by
  unfold F_X11_isIn F_X11_isIn_J14
  by_cases h1 : v < a
  · rw [if_pos h1, if_neg (by omega)]
  · rw [if_neg h1]
    by_cases h2 : b < v
    · rw [if_pos h2, if_neg (by omega)]
    · rw [if_neg h2, if_pos (by omega)]
/-! letters counted -/
def csum (f : Int → Int) : Nat → Int
  | 0 => 0
  | n + 1 => csum f n + f n
theorem csum_congr {f g : Int → Int} : ∀ (n : Nat), (∀ i : Int, 0 ≤ i → i < n → f i = g i) → csum f n = csum g n
  | 0, _ => rfl
  | n + 1, h => by
    show csum f n + f n = csum g n + g n
    rw [csum_congr n (fun i h0 h1 => h i h0 (by omega)), h n (by omega) (by omega)]
theorem csum_head (f : Int → Int) : ∀ n : Nat, csum f (n + 1) = f 0 + csum (fun i => f (i + 1)) n
  | 0 => by show csum f 0 + f (0 : Nat) = f 0 + 0; show (0 : Int) + f 0 = f 0 + 0; omega
  | n + 1 => by
    show csum f (n + 1) + f ((n + 1 : Nat) : Int) = f 0 + (csum (fun i => f (i + 1)) n + f ((n : Int) + 1))
    rw [csum_head f n, show ((n + 1 : Nat) : Int) = (n : Int) + 1 by omega]
    omega
theorem csum_rev : ∀ (n : Nat) (f : Int → Int), csum f n = csum (fun i => f (n - 1 - i)) n
  | 0, _ => rfl
  | n + 1, f => by
    rw [csum_head f n, csum_rev n]
    show _ = csum (fun i => f (((n + 1 : Nat) : Int) - 1 - i)) n + f (((n + 1 : Nat) : Int) - 1 - n)
    rw [show ((n + 1 : Nat) : Int) - 1 - n = 0 by omega, csum_congr n (g := fun i => f (((n + 1 : Nat) : Int) - 1 - i)) (fun i h0 h1 => by show f ((n : Int) - 1 - i + 1) = f (((n + 1 : Nat) : Int) - 1 - i); congr 1; omega)]
    omega
theorem csum_b {f : Int → Int} (hf : ∀ i, 0 ≤ f i ∧ f i ≤ 1) : ∀ n : Nat, 0 ≤ csum f n ∧ csum f n ≤ n
  | 0 => ⟨Int.le_refl 0, Int.le_refl 0⟩
  | n + 1 => by
    have := csum_b hf n
    have := hf n
    show 0 ≤ csum f n + f n ∧ csum f n + f n ≤ _
    omega
/-- how many letters of a word are c -/
def lct (x c : Int) (k : Nat) : Int := csum (fun i => if fa x i (i + 1) - 1 = c then 1 else 0) k
def cmpv (how m d : Int) : Int := if how = 0 then (if m < d then 1 else 0) else if how = 1 then (if m = d then 1 else 0) else (if d < m then 1 else 0)
def cmpn (what x : Int) : Int := if what = 3 then ln x else lct x what (ln x).toNat
theorem FX7_compares {arg x what how d : Int} (hx : wd x) (ha : arg = (what * 3 + how) * 10 + d) (hw : 0 ≤ what ∧ what ≤ 3) (hh : 0 ≤ how ∧ how ≤ 2) (hd : 0 ≤ d ∧ d ≤ 9) : F_X7_compares arg x (ln x) = some (cmpv how (cmpn what x) d) := by
  have hb := ln_b x
  have e1 : zrem arg 10 = d := by rw [zrem_e (by omega) (by omega) (by omega) (by omega)]; omega
  have e2 : zrem (zdiv arg 10) 3 = how := by rw [zdiv_e (by omega) (by omega) (by omega) (by omega), zrem_e (by omega) (by omega) (by omega) (by omega)]; omega
  have e3 : zdiv arg 30 = what := by rw [zdiv_e (by omega) (by omega) (by omega) (by omega)]; omega
  -- the letters from the end
  have hrev : lct x what (ln x).toNat = csum (fun i => if fa x (ln x - 1 - i) (ln x - i) - 1 = what then 1 else 0) (ln x).toNat := by
    unfold lct
    rw [csum_rev]
    refine csum_congr _ (fun i h0 h1 => ?_)
    rw [show (((ln x).toNat : Nat) : Int) = ln x by omega]
    show (if fa x (ln x - 1 - i) (ln x - 1 - i + 1) - 1 = what then (1 : Int) else 0) = _
    rw [show ln x - 1 - i + 1 = ln x - i by omega]
  have hsb : ∀ k : Nat, 0 ≤ csum (fun i => if fa x (ln x - 1 - i) (ln x - i) - 1 = what then (1 : Int) else 0) k ∧ csum (fun i => if fa x (ln x - 1 - i) (ln x - i) - 1 = what then (1 : Int) else 0) k ≤ k := fun k => csum_b (fun i => by split <;> omega) k
  generalize hG : (fun i => if fa x (ln x - 1 - i) (ln x - i) - 1 = what then (1 : Int) else 0) = G at hrev hsb
  have key : ∀ t0 : Int, (what = 3 → t0 = ln x) → (what ≠ 3 → t0 = 0) → F_X7_compares_J29 x (ln x) what how d t0 = some (cmpv how (cmpn what x) d) := by
    intro t0 g1 g2
    refine Ok.eqs ?_
    unfold F_X7_compares_J29 F_X7_compares_L37
    refine Ok.loop (fun s => 0 ≤ s.2.2 ∧ s.2.2 ≤ ln x ∧ s.2.1 = (x - f3 s.2.2) / p3 s.2.2 ∧ s.1 = (if what = 3 then ln x else csum G s.2.2.toNat)) (fun s => (10 - s.2.2).toNat) (fun e => e = cmpn what x) ⟨Int.le_refl 0, by show 0 ≤ ln x; omega, ?_, ?_⟩ (by show (10 - (0 : Int)).toNat < zN; decide) ?_ ?_
    · show x = (x - f3 0) / p3 0
      rw [f3_0, p3_0]; omega
    · show t0 = _
      by_cases h3 : what = 3
      · rw [if_pos h3, g1 h3]
      · rw [if_neg h3, g2 h3]; rfl
    · rintro ⟨v6, v7, v8⟩ ⟨i1, i2, i4, i3⟩
      dsimp only at i1 i2 i3 i4 ⊢
      unfold F_X7_compares_B37
      refine Ok.ite (fun c => ?_) (fun c => Ok.ret ?_)
      · have hr := drop_r hx i1 i2
        rw [← i4] at hr
        have hf1 := f3_mono (show 1 ≤ ln x - v8 by omega) (by omega)
        rw [f3_t.2.1] at hf1
        have ht := tp (x := x) (j := v8) (m := 1) (by omega) i1 (by omega)
        rw [← i4, f3_t.2.1, show p3 1 = 3 from rfl, show ln x - v8 - 1 = ln x - 1 - v8 by omega] at ht
        have hs : csum G (v8 + 1).toNat = csum G v8.toNat + (if fa x (ln x - 1 - v8) (ln x - v8) - 1 = what then 1 else 0) := by
          rw [show (v8 + 1).toNat = v8.toNat + 1 by omega]
          show csum G v8.toNat + G v8.toNat = _
          rw [show ((v8.toNat : Nat) : Int) = v8 by omega, ← hG]
        have hl := hsb v8.toNat
        have hnext : (v7 - 1) / 3 = (x - f3 (v8 + 1)) / p3 (v8 + 1) := by
          rw [i4, p3_s i1, Int.mul_comm 3, ← sh_div (p3_pos _) (by decide), f3_s2 i1]
          congr 1
          have := Int.add_mul_ediv_right (x - f3 v8) (-1) (Int.ne_of_gt (p3_pos v8))
          rw [show x - (f3 v8 + p3 v8) = x - f3 v8 + -1 * p3 v8 by omega, this]
          omega
        have hz : zrem (v7 - 1) 3 = fa x (ln x - 1 - v8) (ln x - v8) - 1 := by
          rw [zrem_e (by omega) (by omega) (by omega) (by omega)]; omega
        have hz2 : zdiv (v7 - 1) 3 = (v7 - 1) / 3 := zdiv_e (by omega) (by omega) (by omega) (by omega)
        unfold F_X7_compares_J56
        rw [hz, hz2]
        refine Ok.ite (fun c2 => Ok.lett (Ok.lett (Ok.lett (Ok.ret ?_)))) (fun c2 => Ok.lett (Ok.lett (Ok.ret ?_)))
        · rw [if_pos c2] at hs
          have h3 : what ≠ 3 := by
            intro q; subst q
            have := Int.emod_lt_of_pos (v7 - 1) (show (0 : Int) < 3 by decide)
            omega
          rw [if_neg h3] at i3
          rw [w_id (a := v6 + 1) (by omega), w_id (a := v8 + 1) (by omega)]
          exact ⟨⟨by show 0 ≤ v8 + 1; omega, by show v8 + 1 ≤ ln x; omega, hnext, by show v6 + 1 = _; rw [if_neg h3]; show v6 + 1 = csum G (v8 + 1).toNat; omega⟩, by show (10 - (v8 + 1)).toNat < (10 - v8).toNat; omega⟩
        · rw [if_neg c2] at hs
          rw [w_id (a := v8 + 1) (by omega)]
          exact ⟨⟨by show 0 ≤ v8 + 1; omega, by show v8 + 1 ≤ ln x; omega, hnext, by show v6 = _; rw [i3]; show (if what = 3 then ln x else csum G v8.toNat) = (if what = 3 then ln x else csum G (v8 + 1).toNat); rw [show csum G (v8 + 1).toNat = csum G v8.toNat by omega]⟩, by show (10 - (v8 + 1)).toNat < (10 - v8).toNat; omega⟩
      · show v6 = cmpn what x
        unfold cmpn
        rw [i3, hrev, show v8 = ln x by omega]
    · intro e he
      subst he
      unfold F_X7_compares_J70 cmpv
      refine Ok.ite (fun c => ?_) (fun c => Ok.ite (fun c2 => ?_) (fun c2 => ?_))
      · rw [if_pos c]; split <;> exact ⟨_, rfl, rfl⟩
      · rw [if_neg c, if_pos c2]; split <;> exact ⟨_, rfl, rfl⟩
      · rw [if_neg c, if_neg c2]; split <;> exact ⟨_, rfl, rfl⟩
  unfold F_X7_compares
  simp only [zlet_eq]
  rw [e1, e2, e3]
  by_cases h3 : what = 3
  · rw [if_pos h3]; exact key _ (fun _ => rfl) (fun q => absurd h3 q)
  · rw [if_neg h3]; exact key _ (fun q => absurd q h3) (fun _ => rfl)
