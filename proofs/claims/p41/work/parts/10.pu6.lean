/-! PURE 6: the reference: which factors are selected; insertions made -/
def bars (mode s e t f : Int) : Prop := if mode = 2 then t ≤ s ∧ e ≤ f else if mode = 3 then s ≤ t ∧ f ≤ e else t < s
def sel (mode : Int) (pr : List Int) (x s e : Int) : Prop := ful pr (fa x s e) = true ∧ (mode = 0 → s = 0 ∧ e = ln x) ∧ (1 < mode → ∀ t f : Int, 0 ≤ t → t ≤ f → f ≤ ln x → (t ≠ s ∨ f ≠ e) → ful pr (fa x t f) = true → ¬ bars mode s e t f)
def insw (x L R s e : Int) : Int := jn (jn (jn (jn (fa x 0 s) L) (fa x s e)) R) (fa x e (ln x))
def fitd (M : zM) (pr : List Int) (x : Int) : Prop := M 48 20 = x ∧ M 48 21 = ln x ∧ ∀ s e : Int, 0 ≤ s → s ≤ e → e ≤ ln x → M 57 (10 * s + e) = b2 (ful pr (fa x s e))
theorem prgM.fr {M M1 : zM} {c : Int} {pr : List Int} (h : prgM M c pr) (h2 : M1 52 = M 52) (h3 : M1 53 = M 53) : prgM M1 c pr := by
  unfold prgM
  rw [h2, h3]
  exact h
theorem insw_r {x L R s e : Int} (hx : wd x) (hL : wd L) (hR : wd R) (h : ln x + ln L + ln R ≤ 9) (h0 : 0 ≤ s) (h1 : s ≤ e) (h2 : e ≤ ln x) : ln (insw x L R s e) = ln x + ln L + ln R ∧ wd (insw x L R s e) := by
  have := ln_b L
  have := ln_b R
  obtain ⟨a1, a2⟩ := fa_r (x := x) (Int.le_refl 0) h0 (by omega)
  obtain ⟨b1, b2⟩ := fa_r (x := x) h0 h1 h2
  obtain ⟨c1, c2⟩ := fa_r (x := x) (s := e) (e := ln x) (by omega) h2 (by omega)
  obtain ⟨d1, d2⟩ := jn_r a2 hL (by omega)
  obtain ⟨f1, f2⟩ := jn_r d2 b2 (by omega)
  obtain ⟨g1, g2⟩ := jn_r f2 hR (by omega)
  obtain ⟨k1, k2⟩ := jn_r g2 c2 (by omega)
  unfold insw
  exact ⟨by omega, k2⟩
