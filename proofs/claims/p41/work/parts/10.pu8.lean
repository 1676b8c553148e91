/-! PURE 8: grammars; the class's insertions and reductions -/
abbrev zGr : Type := Int × Int × List (Int × Int × List Int)
def cxok (c : Int × Int × List Int) : Prop := (1 ≤ c.1 ∧ c.1 < 40) ∧ (0 ≤ c.2.1 ∧ c.2.1 < 40) ∧ pwf c.2.2
def grok (G : zGr) : Prop := (1 ≤ G.1 ∧ G.1 ≤ 9) ∧ (0 ≤ G.2.1 ∧ G.2.1 ≤ 4) ∧ G.2.2.length ≤ 5 ∧ ∀ c ∈ G.2.2, cxok c
/-- the class's grammar, the reference's -/
def gC (M : zM) (S : zS) (G : zGr) : Prop := M 5 3 = (G.2.2.length : Int) ∧ M 5 4 = G.2.1 ∧ M 5 5 = G.1 ∧ ∀ (i : Nat) (L R : Int) (pr : List Int), G.2.2[i]? = some (L, R, pr) → ctxok M S (zrf S 7 i) L R pr
def gM (M : zM) (G : zGr) : Prop := M 48 7 = (G.2.2.length : Int) ∧ M 48 8 = G.2.1 ∧ M 48 9 = G.1 ∧ ∀ (i : Nat) (L R : Int) (pr : List Int), G.2.2[i]? = some (L, R, pr) → M 50 i = L ∧ M 51 i = R ∧ prgM M i pr
theorem gC.fr {A : Nat → Prop} {M M1 : zM} {S : zS} {G : zGr} (h : gC M S G) (hf : cfr A S M M1) (hA : ¬ A 5) : gC M1 S G := by
  obtain ⟨h1, h2, h3, h4⟩ := h
  have e := hf.1 5 hA (Or.inl (by decide))
  refine ⟨by rw [e]; exact h1, by rw [e]; exact h2, by rw [e]; exact h3, fun i L R pr hi => hf.2 _ _ _ _ (h4 i L R pr hi)⟩
def rs (r : Nat) : Int := ((r / 10 % 10 : Nat) : Int)
def re (r : Nat) : Int := ((r % 10 : Nat) : Int)
def cxg (G : zGr) (r : Nat) : Int × Int × List Int := (G.2.2[r / 100]?).getD (0, 0, [])
def insP (G : zGr) (x : Int) (r : Nat) : Prop := ∃ (L R : Int) (pr : List Int), G.2.2[r / 100]? = some (L, R, pr) ∧ rs r ≤ re r ∧ re r ≤ ln x ∧ ln x + ln L + ln R ≤ G.1 ∧ sel G.2.1 pr x (rs r) (re r)
def insV (G : zGr) (x : Int) (r : Nat) : Int := insw x (cxg G r).1 (cxg G r).2.1 (rs r) (re r)
def tkw (x L R s e : Int) : Int := jn (jn (fa x 0 s) (fa x (s + ln L) (e + ln L))) (fa x (e + ln L + ln R) (ln x))
def redP (G : zGr) (x : Int) (r : Nat) : Prop := ∃ (L R : Int) (pr : List Int), G.2.2[r / 100]? = some (L, R, pr) ∧ rs r ≤ re r ∧ re r + ln L + ln R ≤ ln x ∧ ln x ≤ G.1 ∧ fa x (rs r) (rs r + ln L) = L ∧ fa x (re r + ln L) (re r + ln L + ln R) = R ∧ sel G.2.1 pr (tkw x L R (rs r) (re r)) (rs r) (re r)
def redV (G : zGr) (x : Int) (r : Nat) : Int := tkw x (cxg G r).1 (cxg G r).2.1 (rs r) (re r)
def mvc (y : Int) (r : Nat) : Int := y * 2048 + ((r / 100 : Nat) : Int) * 256 + rs r * 16 + re r
noncomputable def frl (P : Nat → Prop) (n : Nat) : List Nat := (List.range n).filter (fun r => dcd (P r))
theorem frl_t {P : Nat → Prop} {n : Nat} (h : P n) : frl P (n + 1) = frl P n ++ [n] := by
  unfold frl
  rw [List.range_succ, List.filter_append, List.filter_cons, dcd_t h]
  rfl
theorem frl_f {P : Nat → Prop} {n : Nat} (h : ¬ P n) : frl P (n + 1) = frl P n := by
  unfold frl
  rw [List.range_succ, List.filter_append, List.filter_cons, dcd_f h]
  simp
theorem frl_skip {P : Nat → Prop} {n m : Nat} (h : n ≤ m) (hP : ∀ r, n ≤ r → r < m → ¬ P r) : frl P m = frl P n := by
  induction m with
  | zero => rw [show n = 0 by omega]
  | succ m ih =>
    by_cases e : n = m + 1
    · rw [e]
    · rw [frl_f (hP m (by omega) (by omega))]
      exact ih (by omega) (fun r h1 h2 => hP r h1 (by omega))
theorem frl_mono {P : Nat → Prop} {n m : Nat} (h : n ≤ m) : (frl P n).length ≤ (frl P m).length := by
  induction m with
  | zero => rw [show n = 0 by omega]; exact Nat.le_refl _
  | succ m ih =>
    by_cases e : n = m + 1
    · rw [e]; exact Nat.le_refl _
    · have := ih (by omega)
      by_cases hp : P m
      · rw [frl_t hp, List.length_append]; omega
      · rw [frl_f hp]; exact this
theorem mem_frl {P : Nat → Prop} {n r : Nat} : r ∈ frl P n ↔ r < n ∧ P r := by
  unfold frl
  rw [List.mem_filter, List.mem_range, dcd_iff]
theorem frl_225 {P : Nat → Prop} (h : ∀ r, P r → r / 10 % 10 ≤ r % 10 ∧ r % 10 ≤ 8) : (frl P 500).length ≤ 225 := by
  have h2 : ((List.range 500).filter (fun r => decide (r / 10 % 10 ≤ r % 10 ∧ r % 10 ≤ 8))).length = 225 := by decide +kernel
  rw [← h2, ← List.countP_eq_length_filter]
  unfold frl
  rw [← List.countP_eq_length_filter]
  exact List.countP_mono_left (fun r _ hr => by rw [decide_eq_true_eq]; exact h r (dcd_iff.mp hr))
theorem frl_lt {P : Nat → Prop} {n : Nat} (h : ∀ r, P r → r / 10 % 10 ≤ r % 10 ∧ r % 10 ≤ 8) (hn : n < 500) (hp : P n) : (frl P n).length < 225 := by
  have h1 := frl_225 h
  have h2 := frl_mono (P := P) (show n + 1 ≤ 500 by omega)
  rw [frl_t hp, List.length_append, List.length_singleton] at h2
  omega
theorem ln_cx {L : Int} (h : 1 ≤ L ∧ L < 40) : 1 ≤ ln L ∧ ln L ≤ 3 := ln_pat h.1 h.2
theorem ln_cx0 {R : Int} (h : 0 ≤ R ∧ R < 40) : 0 ≤ ln R ∧ ln R ≤ 3 := by
  refine ⟨(ln_b R).1, ?_⟩
  by_cases e : R < 1
  · unfold ln; rw [if_pos e]; decide
  · exact (ln_pat (by omega) h.2).2
theorem cxg_e {G : zGr} {r : Nat} {L R : Int} {pr : List Int} (h : G.2.2[r / 100]? = some (L, R, pr)) : cxg G r = (L, R, pr) := by
  unfold cxg; rw [h]; rfl
theorem insP_8 {G : zGr} (hG : grok G) {x : Int} (r : Nat) (h : insP G x r) : r / 10 % 10 ≤ r % 10 ∧ r % 10 ≤ 8 := by
  obtain ⟨L, R, pr, h1, h2, h3, h4, _⟩ := h
  have hc := hG.2.2.2 _ (List.mem_of_getElem? h1)
  have := ln_cx hc.1
  have := ln_cx0 hc.2.1
  have := hG.1
  unfold rs re at h2
  unfold re at h3
  dsimp only at *
  omega
theorem redP_8 {G : zGr} (hG : grok G) {x : Int} (r : Nat) (h : redP G x r) : r / 10 % 10 ≤ r % 10 ∧ r % 10 ≤ 8 := by
  obtain ⟨L, R, pr, h1, h2, h3, h4, _⟩ := h
  have hc := hG.2.2.2 _ (List.mem_of_getElem? h1)
  have := ln_cx hc.1
  have := ln_cx0 hc.2.1
  have := ln_b x
  unfold rs re at h2
  unfold re at h3
  dsimp only at *
  omega
/-- a row begins with a list -/
def rowl (f : Int → Int) (l : List Int) : Prop := ∀ (i : Nat) (v : Int), l[i]? = some v → f i = v
theorem rowl_nil (f : Int → Int) : rowl f [] := fun i v h => by simp at h
theorem rowl_push {f : Int → Int} {l : List Int} {k v : Int} (h : rowl f l) (hk : k = (l.length : Int)) : rowl (up f k v) (l ++ [v]) := by
  intro i u hi
  by_cases e : i < l.length
  · rw [List.getElem?_append_left e] at hi
    rw [up_ne _ _ (by omega)]
    exact h i u hi
  · rw [List.getElem?_append_right (by omega)] at hi
    have : i - l.length = 0 := by
      rcases Nat.eq_zero_or_pos (i - l.length) with q | q
      · exact q
      · rw [List.getElem?_eq_none (by simp; omega)] at hi; cases hi
    rw [this] at hi
    have e2 : v = u := by simpa using hi
    rw [show (i : Int) = k by omega, up_eq, e2]
/-! moves -/
theorem zor_nat {a b : Int} (ha : 0 ≤ a) (ha2 : a < 2147483648) (hb : 0 ≤ b) (hb2 : b < 2147483648) : zor a b = ((a.toNat ||| b.toNat : Nat) : Int) := by
  have h := Nat.or_lt_two_pow (x := a.toNat) (y := b.toNat) (n := 31) (by omega) (by omega)
  refine ib_ext (cR_zor _ _) ⟨by omega, by omega⟩ (fun j hj => ?_)
  rw [ib_or, ib_nat ha hj, ib_nat hb hj, ib_nat (by omega) hj, Int.toNat_natCast, Nat.testBit_or]
theorem zor_add {a b : Int} (k : Nat) (q : Int) (hq : 0 ≤ q) (ha : a = q * (2 ^ k : Nat)) (ha2 : a < 2147483648) (hb : 0 ≤ b) (hb2 : b < (2 ^ k : Nat)) (hk : k ≤ 31) : zor a b = a + b := by
  have h2 : (2 ^ k : Nat) ≤ 2 ^ 31 := Nat.pow_le_pow_right (by decide) hk
  have h0 : 0 ≤ a := by rw [ha]; exact Int.mul_nonneg hq (by omega)
  rw [zor_nat h0 ha2 hb (by omega)]
  have e : a.toNat = 2 ^ k * q.toNat := by
    rw [ha, Nat.mul_comm]
    have : q = ((q.toNat : Nat) : Int) := by omega
    rw [this, ← Int.natCast_mul, Int.toNat_natCast, Int.toNat_natCast]
  rw [e, ← Nat.two_pow_add_eq_or_of_lt (by omega), ← e]
  omega
theorem FX4_of {y c s e : Int} (hy : 0 ≤ y ∧ y < 29524) (hc : 0 ≤ c ∧ c < 8) (hs : 0 ≤ s ∧ s < 16) (he : 0 ≤ e ∧ e < 16) : F_X4_of y c s e = some (y * 2048 + c * 256 + s * 16 + e) := by
  unfold F_X4_of
  have e1 : zshl y 11 = y * 2048 := zshl_k hy.1 11 11 (by decide) (by show y * 2048 < _; omega)
  have e2 : zshl c 8 = c * 256 := zshl_k hc.1 8 8 (by decide) (by show c * 256 < _; omega)
  have e3 : zshl s 4 = s * 16 := zshl_k hs.1 4 4 (by decide) (by show s * 16 < _; omega)
  have z1 : zor (y * 2048) (c * 256) = y * 2048 + c * 256 := zor_add 11 y hy.1 rfl (by omega) (by omega) (by show c * 256 < 2048; omega) (by decide)
  have z2 : zor (y * 2048 + c * 256) (s * 16) = y * 2048 + c * 256 + s * 16 := zor_add 8 (y * 8 + c) (by omega) (by show _ = (y * 8 + c) * 256; omega) (by omega) (by omega) (by show s * 16 < 256; omega) (by decide)
  have z3 : zor (y * 2048 + c * 256 + s * 16) e = y * 2048 + c * 256 + s * 16 + e := zor_add 4 (y * 128 + c * 16 + s) (by omega) (by show _ = (y * 128 + c * 16 + s) * 16; omega) (by omega) he.1 (by show e < 16; omega) (by decide)
  rw [e1, e2, e3, z1, z2, z3]
theorem FX4_of_r {y : Int} {r : Nat} (hy : 0 ≤ y ∧ y < 29524) (hr : r < 500) : F_X4_of y ((r / 100 : Nat) : Int) (rs r) (re r) = some (mvc y r) := FX4_of hy (by omega) (by unfold rs; omega) (by unfold re; omega)
/-! growth, round a factor, out of a word -/
theorem FX0_growth {M : zM} {S : zS} {p : Nat} {L R : Int} {pr : List Int} (h : ctxok M S p L R pr) : F_X0_growth p M S = some (ln L + ln R) := by
  obtain ⟨hS, _, _, ⟨_, e1, _, e3⟩, hL, hR, _⟩ := h
  have := ln_cx hL
  have := ln_cx0 hR
  unfold F_X0_growth
  rw [zchk_pos hS.2.1, zchk_pos hS.2.1, e1, e3, w_id (by omega)]
theorem FX0_putAround {M : zM} {S : zS} {p : Nat} {L R x s e : Int} {pr : List Int} (h : ctxok M S p L R pr) (hx : wd x) (hr : ln x + ln L + ln R ≤ 9) (h0 : 0 ≤ s) (h1 : s ≤ e) (h2 : e ≤ ln x) : F_X0_putAround p x (ln x) s e M S = some (insw x L R s e) := by
  obtain ⟨hS, _, _, ⟨e0, e1, e2, e3⟩, hL, hR, _⟩ := h
  have := ln_cx hL
  have := ln_cx0 hR
  have hb := ln_b x
  obtain ⟨a1, a2⟩ := fa_r (x := x) (Int.le_refl 0) h0 (by omega)
  obtain ⟨b1, b2⟩ := fa_r (x := x) h0 h1 h2
  obtain ⟨c1, c2⟩ := fa_r (x := x) (s := e) (e := ln x) (by omega) h2 (by omega)
  obtain ⟨d1, d2⟩ := jn_r (b := L) a2 ⟨by omega, by omega⟩ (by omega)
  obtain ⟨f1, f2⟩ := jn_r d2 b2 (by omega)
  obtain ⟨g1, g2⟩ := jn_r (b := R) f2 ⟨by omega, by omega⟩ (by omega)
  unfold F_X0_putAround
  rw [FX9_factor hx (Int.le_refl 0) h0 (by omega)]
  simp only [zb1_some]
  rw [zchk_pos hS.2.1, zchk_pos hS.2.1, e0, e1, FX9_join a2 ⟨by omega, by omega⟩ (by omega)]
  simp only [zb1_some]
  rw [FX9_factor hx h0 h1 h2]
  simp only [zb1_some]
  rw [w_id (a := e - s) (by omega), show F_X9_join (jn (fa x 0 s) L) (fa x s e) (e - s) = _ from b1 ▸ FX9_join d2 b2 (by omega)]
  simp only [zb1_some]
  rw [zchk_pos hS.2.1, zchk_pos hS.2.1, e2, e3, FX9_join f2 ⟨by omega, by omega⟩ (by omega)]
  simp only [zb1_some]
  rw [FX9_factor hx (by omega) h2 (by omega)]
  simp only [zb1_some]
  rw [w_id (a := ln x - e) (by omega), show F_X9_join (jn (jn (jn (fa x 0 s) L) (fa x s e)) R) (fa x e (ln x)) (ln x - e) = _ from c1 ▸ FX9_join g2 c2 (by omega)]
  rfl
theorem tkw_r {x L R s e : Int} (hL : 0 ≤ ln L) (hR : 0 ≤ ln R) (h0 : 0 ≤ s) (h1 : s ≤ e) (h2 : e + ln L + ln R ≤ ln x) : ln (tkw x L R s e) = ln x - ln L - ln R ∧ wd (tkw x L R s e) := by
  have hb := ln_b x
  obtain ⟨a1, a2⟩ := fa_r (x := x) (Int.le_refl 0) h0 (by omega)
  obtain ⟨b1, b2⟩ := fa_r (x := x) (s := s + ln L) (e := e + ln L) (by omega) (by omega) (by omega)
  obtain ⟨c1, c2⟩ := fa_r (x := x) (s := e + ln L + ln R) (e := ln x) (by omega) h2 (by omega)
  obtain ⟨d1, d2⟩ := jn_r a2 b2 (by omega)
  obtain ⟨f1, f2⟩ := jn_r d2 c2 (by omega)
  unfold tkw
  exact ⟨by omega, f2⟩
theorem FX0_takeAway {M : zM} {S : zS} {p : Nat} {L R x s e : Int} {pr : List Int} (h : ctxok M S p L R pr) (hx : wd x) (h0 : 0 ≤ s) (h1 : s ≤ e) (h2 : e + ln L + ln R ≤ ln x) : F_X0_takeAway p x (ln x) s e M S = some (if fa x (e + ln L) (e + ln L + ln R) = R then tkw x L R s e else -1) := by
  have hg := FX0_growth h
  obtain ⟨hS, _, _, ⟨e0, e1, e2, e3⟩, hL, hR, _⟩ := h
  have := ln_cx hL
  have := ln_cx0 hR
  have hb := ln_b x
  obtain ⟨a1, a2⟩ := fa_r (x := x) (Int.le_refl 0) h0 (by omega)
  obtain ⟨b1, b2⟩ := fa_r (x := x) (s := s + ln L) (e := e + ln L) (by omega) (by omega) (by omega)
  obtain ⟨c1, c2⟩ := fa_r (x := x) (s := e + ln L + ln R) (e := ln x) (by omega) h2 (by omega)
  obtain ⟨d1, d2⟩ := jn_r a2 b2 (by omega)
  unfold F_X0_takeAway
  rw [zchk_pos hS.2.1, hg]
  simp only [zb1_some, zlet_eq]
  rw [w_id (a := e + (ln L + ln R)) (by omega), zchk_pos hS.2.1, e3, w_id (a := e + (ln L + ln R) - ln R) (by omega), show e + (ln L + ln R) - ln R = e + ln L by omega, show e + (ln L + ln R) = e + ln L + ln R by omega, FX9_factor hx (by omega) (by omega) h2]
  simp only [zb1_some]
  rw [zchk_pos hS.2.1, e2]
  by_cases c : fa x (e + ln L) (e + ln L + ln R) = R
  · rw [if_pos c, if_pos c, FX9_factor hx (Int.le_refl 0) h0 (by omega)]
    simp only [zb1_some]
    rw [zchk_pos hS.2.1, zchk_pos hS.2.1, e1, w_id (a := s + ln L) (by omega), w_id (a := e + ln L) (by omega), FX9_factor hx (by omega) (by omega) (by omega)]
    simp only [zb1_some]
    rw [w_id (a := e - s) (by omega), show e - s = ln (fa x (s + ln L) (e + ln L)) by omega, FX9_join a2 b2 (by omega)]
    simp only [zb1_some]
    rw [FX9_factor hx (by omega) h2 (by omega)]
    simp only [zb1_some]
    rw [w_id (a := ln x - (e + ln L + ln R)) (by omega), ← c1, FX9_join d2 c2 (by omega)]
    rfl
  · rw [if_neg c, if_neg c]
theorem FX0_leftStandsAt {M : zM} {S : zS} {p : Nat} {L R x s : Int} {pr : List Int} (h : ctxok M S p L R pr) (hx : wd x) (h0 : 0 ≤ s) (h1 : s + ln L ≤ ln x) : Ok (F_X0_leftStandsAt p x (ln x) s M S) (fun r => tv r (fa x s (s + ln L) = L)) := by
  obtain ⟨hS, _, _, ⟨e0, e1, _, _⟩, hL, hR, _⟩ := h
  have := ln_cx hL
  have hb := ln_b x
  unfold F_X0_leftStandsAt
  rw [e1, e0, w_id (a := s + ln L) (by omega), FX9_factor hx h0 (by omega) h1]
  simp only [zb1_some]
  exact Ok.chk hS.2.1 (Ok.chk hS.2.1 (Ok.ite (fun c => Ok.ret (tv_t c)) (fun c => Ok.ret (tv_f c))))
theorem FX2_context {S : zS} {i : Nat} (h : i < 5) : F_X2_context (i : Int) S = some (zrf S 7 i) := by
  unfold F_X2_context
  rw [if_neg (by omega), if_pos (by omega), zchk_pos (by omega)]
