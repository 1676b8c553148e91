/-! PURE 1: answers, loops, wraps -/
def Ok {α : Type} (x : Option α) (P : α → Prop) : Prop := ∃ a, x = some a ∧ P a
theorem Ok.mono {α : Type} {x : Option α} {P Q : α → Prop} (h : Ok x P) (i : ∀ a, P a → Q a) : Ok x Q := by
  obtain ⟨a, h1, h2⟩ := h
  exact ⟨a, h1, i a h2⟩
theorem Ok.ret {α : Type} {a : α} {P : α → Prop} (h : P a) : Ok (some a) P := ⟨a, rfl, h⟩
theorem Ok.of {α : Type} {x : Option α} {a : α} {P : α → Prop} (h : x = some a) (i : P a) : Ok x P := ⟨a, h, i⟩
theorem Ok.chk {α : Type} {c : Prop} [Decidable c] {x : Option α} {P : α → Prop} (hc : c) (h : Ok x P) : Ok (zchk c x) P := by
  unfold zchk
  rw [if_pos hc]
  exact h
theorem Ok.chkP {α : Type} {c : Prop} {x : Option α} {P : α → Prop} (hc : c) (h : Ok x P) : Ok (zchkP c x) P := by
  unfold zchkP
  rw [if_pos hc]
  exact h
theorem Ok.lett {α β : Type} {v : β} {k : β → Option α} {P : α → Prop} (h : Ok (k v) P) : Ok (zlet v k) P := h
theorem Ok.b1 {α β : Type} {x : Option α} {k : α → Option β} {P : β → Prop} {Q : α → Prop} (h : Ok x Q) (i : ∀ a, Q a → Ok (k a) P) : Ok (zb1 x k) P := by
  obtain ⟨a, rfl, h2⟩ := h
  exact i a h2
theorem Ok.b2 {α γ β : Type} {x : Option (α × γ)} {k : α → γ → Option β} {P : β → Prop} {Q : α × γ → Prop} (h : Ok x Q) (i : ∀ a c, Q (a, c) → Ok (k a c) P) : Ok (zb2 x k) P := by
  obtain ⟨a, rfl, h2⟩ := h
  exact i a.1 a.2 h2
theorem Ok.ite {α : Type} {c : Prop} [Decidable c] {x y : Option α} {P : α → Prop} (h : c → Ok x P) (i : ¬ c → Ok y P) : Ok (if c then x else y) P := by
  by_cases hc : c
  · rw [if_pos hc]; exact h hc
  · rw [if_neg hc]; exact i hc
theorem Ok.pos {α : Type} {c : Prop} [Decidable c] {x y : Option α} {P : α → Prop} (hc : c) (h : Ok x P) : Ok (if c then x else y) P := by
  rw [if_pos hc]; exact h
theorem Ok.neg {α : Type} {c : Prop} [Decidable c] {x y : Option α} {P : α → Prop} (hc : ¬ c) (h : Ok y P) : Ok (if c then x else y) P := by
  rw [if_neg hc]; exact h
theorem Ok.eqs {α : Type} {x : Option α} {b : α} (h : Ok x (fun a => a = b)) : x = some b := by
  obtain ⟨a, h1, h2⟩ := h
  rw [h1, h2]
theorem zb1_some {α β : Type} (a : α) (k : α → Option β) : zb1 (some a) k = k a := Eq.trans rfl rfl
theorem zb2_some {α γ β : Type} (a : α) (c : γ) (k : α → γ → Option β) : zb2 (some (a, c)) k = k a c := Eq.trans rfl rfl
theorem zb3_some {α γ δ β : Type} (a : α) (c : γ) (d : δ) (k : α → γ → δ → Option β) : zb3 (some (a, c, d)) k = k a c d := Eq.trans rfl rfl
theorem zbx_inl {α β : Type} (e : Nat) (M : zM) (S : zS) (kx : Nat → zM → zS → Option β) (k : α → zM → zS → Option β) : zbx (some (.inl e, M, S)) kx k = kx e M S := Eq.trans rfl rfl
theorem zbx_inr {α β : Type} (a : α) (M : zM) (S : zS) (kx : Nat → zM → zS → Option β) (k : α → zM → zS → Option β) : zbx (some (.inr a, M, S)) kx k = k a M S := Eq.trans rfl rfl
theorem zlet_eq {α β : Type} (v : β) (k : β → α) : zlet v k = k v := Eq.trans rfl rfl
theorem zchk_pos {α : Type} {c : Prop} [Decidable c] (h : c) (x : Option α) : zchk c x = x := if_pos h
theorem lp_step {σ ε : Type} {bd : σ → Option (σ ⊕ ε)} {n : Nat} {s s1 : σ} (h : bd s = some (.inl s1)) : zloop bd (n + 1) s = zloop bd n s1 := by
  show (match bd s with | none => none | some (.inl s1) => zloop bd n s1 | some (.inr e) => some e) = _
  rw [h]
theorem lp_stop {σ ε : Type} {bd : σ → Option (σ ⊕ ε)} {n : Nat} {s : σ} {e : ε} (h : bd s = some (.inr e)) : zloop bd (n + 1) s = some e := by
  show (match bd s with | none => none | some (.inl s1) => zloop bd n s1 | some (.inr e) => some e) = _
  rw [h]
/-- a loop's turn: go on with an invariant and a smaller measure, or leave -/
def Turn {σ ε : Type} (I : σ → Prop) (mu : σ → Nat) (Q : ε → Prop) (s : σ) : σ ⊕ ε → Prop
  | .inl s1 => I s1 ∧ mu s1 < mu s
  | .inr e => Q e
theorem lp_all {σ ε : Type} {bd : σ → Option (σ ⊕ ε)} (I : σ → Prop) (mu : σ → Nat) (Q : ε → Prop) (step : ∀ s, I s → Ok (bd s) (Turn I mu Q s)) : ∀ (n : Nat) (s : σ), I s → mu s < n → Ok (zloop bd n s) Q := by
  intro n
  induction n with
  | zero => intro s _ h; omega
  | succ n ih =>
    intro s hI hm
    obtain ⟨o, h1, h2⟩ := step s hI
    cases o with
    | inl s1 =>
      rw [lp_step h1]
      exact ih s1 h2.1 (by have := h2.2; omega)
    | inr e =>
      rw [lp_stop h1]
      exact ⟨e, rfl, h2⟩
theorem Ok.loop {σ ε β : Type} {bd : σ → Option (σ ⊕ ε)} {st : σ} {k : ε → Option β} {P : β → Prop} (I : σ → Prop) (mu : σ → Nat) (Q : ε → Prop) (h0 : I st) (hm : mu st < zN) (step : ∀ s, I s → Ok (bd s) (Turn I mu Q s)) (fin : ∀ e, Q e → Ok (k e) P) : Ok (zb1 (zloop bd zN st) k) P := Ok.b1 (lp_all I mu Q step zN st h0 hm) fin
theorem zN_v : zN = 1000000 := rfl
/-! numbers -/
theorem zdiv_e {a b : Int} (h0 : 0 ≤ a) (h1 : a < 2147483648) (h2 : 0 < b) (h3 : b < 2147483648) : zdiv a b = a / b := by
  unfold zdiv
  rw [zi_div ⟨by omega, h1⟩ ⟨by omega, h3⟩ h0 h2]
  exact w_id (inR_div ⟨by omega, h1⟩ h0 h2)
theorem zrem_e {a b : Int} (h0 : 0 ≤ a) (h1 : a < 2147483648) (h2 : 0 < b) (h3 : b < 2147483648) : zrem a b = a % b := by
  unfold zrem
  rw [zi_rem ⟨by omega, h1⟩ ⟨by omega, h3⟩ h0 h2]
  exact w_id (inR_mod ⟨by omega, h3⟩ h2)
def p3 (n : Int) : Int := 3 ^ n.toNat
def f3 (n : Int) : Int := (p3 n - 1) / 2
theorem p3_0 : p3 0 = 1 := rfl
theorem p3_s {n : Int} (h : 0 ≤ n) : p3 (n + 1) = 3 * p3 n := by
  unfold p3
  rw [show (n + 1).toNat = n.toNat + 1 by omega, Int.pow_succ]
  omega
theorem p3_add {a b : Int} (ha : 0 ≤ a) (hb : 0 ≤ b) : p3 (a + b) = p3 a * p3 b := by
  unfold p3
  rw [show (a + b).toNat = a.toNat + b.toNat by omega, Int.pow_add]
theorem p3_pos (n : Int) : 0 < p3 n := Int.pow_pos (by omega)
theorem p3_odd (n : Int) : p3 n % 2 = 1 := by
  unfold p3
  generalize n.toNat = k
  induction k with
  | zero => rfl
  | succ k ih => rw [Int.pow_succ]; omega
theorem f3_2 (n : Int) : 2 * f3 n = p3 n - 1 := by
  unfold f3
  have := p3_odd n
  omega
theorem f3_nn (n : Int) : 0 ≤ f3 n := by
  have := f3_2 n
  have := p3_pos n
  omega
theorem f3_0 : f3 0 = 0 := rfl
theorem f3_s {n : Int} (h : 0 ≤ n) : f3 (n + 1) = 3 * f3 n + 1 := by
  have h1 := f3_2 n
  have h2 := f3_2 (n + 1)
  rw [p3_s h] at h2
  omega
theorem f3_s2 {n : Int} (h : 0 ≤ n) : f3 (n + 1) = f3 n + p3 n := by
  have h1 := f3_2 n
  have h2 := f3_2 (n + 1)
  rw [p3_s h] at h2
  omega
theorem f3_add {a b : Int} (ha : 0 ≤ a) (hb : 0 ≤ b) : f3 (a + b) = f3 a * p3 b + f3 b := by
  have h1 := f3_2 a
  have h2 := f3_2 b
  have h3 := f3_2 (a + b)
  rw [p3_add ha hb] at h3
  have h4 : p3 a * p3 b = (2 * f3 a + 1) * p3 b := by rw [h1]; congr 1; omega
  rw [Int.add_mul, Int.mul_assoc] at h4
  omega
theorem p3_mono {a b : Int} (h : a ≤ b) (h0 : 0 ≤ a) : p3 a ≤ p3 b := by
  have h1 := p3_add (a := a) (b := b - a) h0 (by omega)
  rw [show a + (b - a) = b by omega] at h1
  have h2 := Int.mul_le_mul_of_nonneg_left (show 1 ≤ p3 (b - a) by have := p3_pos (b - a); omega) (Int.le_of_lt (p3_pos a))
  omega
theorem f3_mono {a b : Int} (h : a ≤ b) (h0 : 0 ≤ a) : f3 a ≤ f3 b := by
  have h1 := f3_2 a
  have h2 := f3_2 b
  have := p3_mono h h0
  omega
theorem p3_9 {n : Int} (h0 : 0 ≤ n) (h : n ≤ 9) : p3 n ≤ 19683 := p3_mono h h0
theorem f3_10 {n : Int} (h0 : 0 ≤ n) (h : n ≤ 10) : f3 n ≤ 29524 := f3_mono h h0
/-- the length of a word -/
def ln (x : Int) : Int := if x < 1 then 0 else if x < 4 then 1 else if x < 13 then 2 else if x < 40 then 3 else if x < 121 then 4 else if x < 364 then 5 else if x < 1093 then 6 else if x < 3280 then 7 else if x < 9841 then 8 else 9
theorem ln_b (x : Int) : 0 ≤ ln x ∧ ln x ≤ 9 := by unfold ln; repeat' split <;> omega
theorem f3_t : f3 0 = 0 ∧ f3 1 = 1 ∧ f3 2 = 4 ∧ f3 3 = 13 ∧ f3 4 = 40 ∧ f3 5 = 121 ∧ f3 6 = 364 ∧ f3 7 = 1093 ∧ f3 8 = 3280 ∧ f3 9 = 9841 ∧ f3 10 = 29524 := by decide
/-- a word -/
def wd (x : Int) : Prop := 0 ≤ x ∧ x < 29524
theorem ln_r {x : Int} (h : wd x) : f3 (ln x) ≤ x ∧ x < f3 (ln x + 1) := by
  obtain ⟨h0, h1⟩ := h
  obtain ⟨t0, t1, t2, t3, t4, t5, t6, t7, t8, t9, t10⟩ := f3_t
  unfold ln
  repeat' split
  · rw [t0]; exact ⟨h0, by rw [show (0 : Int) + 1 = 1 from rfl, t1]; assumption⟩
  · rw [t1]; exact ⟨by omega, by rw [show (1 : Int) + 1 = 2 from rfl, t2]; assumption⟩
  · rw [t2]; exact ⟨by omega, by rw [show (2 : Int) + 1 = 3 from rfl, t3]; assumption⟩
  · rw [t3]; exact ⟨by omega, by rw [show (3 : Int) + 1 = 4 from rfl, t4]; assumption⟩
  · rw [t4]; exact ⟨by omega, by rw [show (4 : Int) + 1 = 5 from rfl, t5]; assumption⟩
  · rw [t5]; exact ⟨by omega, by rw [show (5 : Int) + 1 = 6 from rfl, t6]; assumption⟩
  · rw [t6]; exact ⟨by omega, by rw [show (6 : Int) + 1 = 7 from rfl, t7]; assumption⟩
  · rw [t7]; exact ⟨by omega, by rw [show (7 : Int) + 1 = 8 from rfl, t8]; assumption⟩
  · rw [t8]; exact ⟨by omega, by rw [show (8 : Int) + 1 = 9 from rfl, t9]; assumption⟩
  · rw [t9]; exact ⟨by omega, by rw [show (9 : Int) + 1 = 10 from rfl, t10]; assumption⟩
theorem ln_u {x n : Int} (h0 : 0 ≤ n) (h9 : n ≤ 9) (h1 : f3 n ≤ x) (h2 : x < f3 (n + 1)) : ln x = n ∧ wd x := by
  have hx : wd x := ⟨by have := f3_nn n; omega, by have := f3_10 (n := n + 1) (by omega) (by omega); omega⟩
  refine ⟨?_, hx⟩
  obtain ⟨r1, r2⟩ := ln_r hx
  obtain ⟨b1, b2⟩ := ln_b x
  rcases Int.lt_trichotomy (ln x) n with h | h | h
  · have := f3_mono (show ln x + 1 ≤ n by omega) (by omega); omega
  · exact h
  · have := f3_mono (show n + 1 ≤ ln x by omega) (by omega); omega
theorem ln_mono {x y : Int} (hx : wd x) (hy : wd y) (h : ln x < ln y) : x < y := by
  have h1 := (ln_r hx).2
  have h2 := (ln_r hy).1
  have := ln_b x
  have := f3_mono (show ln x + 1 ≤ ln y by omega) (by omega)
  omega
/-- the factor from s to e -/
def fa (x s e : Int) : Int := f3 (e - s) + (x - f3 (ln x)) / p3 (ln x - e) % p3 (e - s)
def jn (a b : Int) : Int := a * p3 (ln b) + b
theorem fa_r {x s e : Int} (h0 : 0 ≤ s) (h1 : s ≤ e) (h2 : e ≤ ln x) : ln (fa x s e) = e - s ∧ wd (fa x s e) := by
  have h9 := ln_b x
  refine ln_u (by omega) (by omega) ?_ ?_
  · unfold fa
    have := Int.emod_nonneg ((x - f3 (ln x)) / p3 (ln x - e)) (Int.ne_of_gt (p3_pos (e - s)))
    omega
  · unfold fa
    have := Int.emod_lt_of_pos ((x - f3 (ln x)) / p3 (ln x - e)) (p3_pos (e - s))
    have := f3_s2 (n := e - s) (by omega)
    omega
theorem jn_r {a b : Int} (ha : wd a) (hb : wd b) (h : ln a + ln b ≤ 9) : ln (jn a b) = ln a + ln b ∧ wd (jn a b) := by
  have h1 := ln_b a
  have h2 := ln_b b
  obtain ⟨a1, a2⟩ := ln_r ha
  obtain ⟨b1, b2⟩ := ln_r hb
  have hp := p3_pos (ln b)
  refine ln_u (by omega) h ?_ ?_
  · rw [f3_add h1.1 h2.1]
    unfold jn
    have := Int.mul_le_mul_of_nonneg_right a1 (Int.le_of_lt hp)
    omega
  · rw [show ln a + ln b + 1 = (ln a + 1) + ln b by omega, f3_add (by omega) h2.1]
    unfold jn
    have h3 := Int.mul_le_mul_of_nonneg_right (show a ≤ f3 (ln a + 1) - 1 by omega) (Int.le_of_lt hp)
    rw [Int.sub_mul, Int.one_mul] at h3
    have h4 := f3_s2 h2.1
    omega
