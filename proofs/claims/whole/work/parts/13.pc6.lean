/-! PURE 33: normal forms: the reference -/
theorem redV_r {G : zGr} (hG : grok G) {x : Int} {r : Nat} (h : redP G x r) : wd (redV G x r) ∧ ln (redV G x r) < ln x ∧ ln x ≤ G.1 ∧ r < 100 * G.2.2.length := by
  obtain ⟨L, R, pr, h1, h2, h3, h4, h5⟩ := h
  have hc := (hG.2.2.2 _ (List.mem_of_getElem? h1)).1
  dsimp only at hc
  have hL := ln_cx hc
  have hR := ln_b R
  have e : cxg G r = (L, R, pr) := by unfold cxg; rw [h1]; rfl
  have hlt := (List.getElem?_eq_some_iff.mp h1).1
  have ht := tkw_r (x := x) (L := L) (R := R) (s := rs r) (e := re r) (by omega) hR.1 (by unfold rs; omega) h2 h3
  unfold redV
  rw [e]
  exact ⟨ht.2, by have := ht.1; dsimp only; omega, h4, by omega⟩
theorem redV_lt {G : zGr} (hG : grok G) {x : Int} (hx : wd x) {r : Nat} (h : redP G x r) : redV G x r < x := ln_mono (redV_r hG h).1 hx (redV_r hG h).2.1
theorem FX11_reduces {M : zM} {G : zGr} {x : Int} {r : Nat} (hG : grok G) (hM : gM M G) (hx : wd x) (hr : r < 100 * G.2.2.length) (hse : rs r ≤ re r) : Ok (F_X11_reduces x ((r / 100 : Nat) : Int) (rs r) (re r) M) (fun e => tv e.1 (redP G x r) ∧ (redP G x r → e.2 48 26 = redV G x r) ∧ mfr mA0 (fun k => k = 26) M e.2) := by
  have hG3 := hG.2.2.1
  have hc : r / 100 < G.2.2.length := by omega
  have hget : G.2.2[r / 100]? = some G.2.2[r / 100] := List.getElem?_eq_getElem hc
  obtain ⟨L, R, pr, hLR⟩ : ∃ L R pr, G.2.2[r / 100] = (L, R, pr) := ⟨_, _, _, rfl⟩
  rw [hLR] at hget
  have hcx := hG.2.2.2 _ (List.mem_of_getElem? hget)
  obtain ⟨w1, w2, w3, w4⟩ := cxok_wd hcx
  obtain ⟨g1, g2, g3, g4⟩ := id hM
  obtain ⟨g5, g6, g7⟩ := g4 (r / 100) L R pr hget
  have hl := ln_cx hcx.1
  have hlR := ln_b R
  have hlL := ln_b L
  have hb := ln_b x
  have hs0 : 0 ≤ rs r ∧ rs r ≤ 9 := by unfold rs; omega
  have he0 : 0 ≤ re r ∧ re r ≤ 9 := by unfold re; omega
  have hcb : (0 : Int) ≤ ((r / 100 : Nat) : Int) ∧ ((r / 100 : Nat) : Int) < 5 := ⟨by omega, by omega⟩
  have hiff : redP G x r ↔ re r + ln L + ln R ≤ ln x ∧ ln x ≤ G.1 ∧ fa x (rs r) (rs r + ln L) = L ∧ fa x (re r + ln L) (re r + ln L + ln R) = R ∧ sel G.2.1 pr (tkw x L R (rs r) (re r)) (rs r) (re r) := by
    constructor
    · rintro ⟨L2, R2, pr2, h1, h2, h3⟩
      rw [hget] at h1
      cases h1
      exact h3
    · intro h
      exact ⟨L, R, pr, hget, hse, h⟩
  have eV : redV G x r = tkw x L R (rs r) (re r) := by unfold redV cxg; rw [hget]; rfl
  have no : ∀ M1 : zM, mfr mA0 (fun k => k = 26) M M1 → ¬ redP G x r → Ok (some ((0 : Int), M1)) (fun e => tv e.1 (redP G x r) ∧ (redP G x r → e.2 48 26 = redV G x r) ∧ mfr mA0 (fun k => k = 26) M e.2) := fun M1 a b => Ok.ret ⟨tv_f b, fun q => absurd q b, a⟩
  unfold F_X11_reduces
  rw [FX11_lengthOf hx]
  simp only [zb1_some]
  rw [g5, FX11_lengthOf w1]
  simp only [zb1_some]
  rw [g6, FX11_lengthOf w2]
  simp only [zb1_some]
  refine Ok.chk hcb (Ok.chk hcb ?_)
  rw [w_id (a := re r + ln L + ln R) (by omega), g3]
  refine Ok.lett (Ok.ite (fun q => no M mfr.refl (fun h => by have := (hiff.mp h).2.1; omega)) (fun q => Ok.ite (fun q1 => no M mfr.refl (fun h => by have := (hiff.mp h).1; omega)) (fun q1 => ?_)))
  rw [w_id (a := rs r + ln L) (by omega), w_id (a := re r + ln L) (by omega), FX11_part hx hs0.1 (by omega) (by omega)]
  simp only [zb1_some]
  refine Ok.chk hcb (Ok.ite (fun q2 => ?_) (fun q2 => no M mfr.refl (fun h => q2 (hiff.mp h).2.2.1)))
  rw [FX11_part hx (by omega) (by omega) (by omega)]
  simp only [zb1_some]
  refine Ok.chk hcb (Ok.ite (fun q3 => ?_) (fun q3 => no M mfr.refl (fun h => q3 (hiff.mp h).2.2.2.1)))
  obtain ⟨a1, a2⟩ := fa_r (x := x) (Int.le_refl 0) hs0.1 (by omega)
  obtain ⟨b1, b2⟩ := fa_r (x := x) (s := rs r + ln L) (e := re r + ln L) (by omega) (by omega) (by omega)
  obtain ⟨c1, c2⟩ := fa_r (x := x) (s := re r + ln L + ln R) (e := ln x) (by omega) (by omega) (by omega)
  obtain ⟨d1, d2⟩ := jn_r a2 b2 (by omega)
  rw [FX11_part hx (Int.le_refl 0) hs0.1 (by omega)]
  simp only [zb1_some]
  rw [FX11_part hx (by omega) (by omega) (by omega)]
  simp only [zb1_some]
  rw [FX11_joined a2 b2 (by omega)]
  simp only [zb1_some]
  rw [FX11_part hx (by omega) (by omega) (by omega)]
  simp only [zb1_some]
  rw [FX11_joined d2 c2 (by omega)]
  simp only [zb1_some]
  refine Ok.lett ?_
  have e26 : zs M 48 26 (jn (jn (fa x 0 (rs r)) (fa x (rs r + ln L) (re r + ln L))) (fa x (re r + ln L + ln R) (ln x))) 48 26 = tkw x L R (rs r) (re r) := zs_at M 48 26 _
  rw [e26]
  obtain ⟨t1, t2⟩ := tkw_r (x := x) (L := L) (R := R) (s := rs r) (e := re r) hlL.1 hlR.1 hs0.1 hse (by omega)
  have hf1 : mfr mA0 (fun k => k = 26) M (zs M 48 26 (jn (jn (fa x 0 (rs r)) (fa x (rs r + ln L) (re r + ln L))) (fa x (re r + ln L + ln R) (ln x)))) := mfr.fld rfl
  generalize zs M 48 26 (jn (jn (fa x 0 (rs r)) (fa x (rs r + ln L) (re r + ln L))) (fa x (re r + ln L + ln R) (ln x))) = M1 at e26 hf1 ⊢
  have hM1 : gM M1 G := hM.fr hf1 ⟨fun q => q, fun q => q, fun q => q, fun q => q⟩ ⟨by omega, by omega, by omega⟩
  refine Ok.b1 (FX11_fit2 (A := mA0) (F := fun k => False) hcb t2 (hM1.2.2.2 (r / 100) L R pr hget).2.2 hcx.2.2) (fun M2 ⟨f1, f2⟩ => ?_)
  have hM2 : gM M2 G := hM1.fr f2 ⟨fun q => q, fun q => q, fun q => q, fun q => q⟩ ⟨fun q => q, fun q => q, fun q => q⟩
  refine Ok.b1 (FX11_isSelected f1 (by rw [hM2.2.1]; exact hG.2.1) hs0.1 hse (by omega)) (fun v hv => ?_)
  rw [hM2.2.1] at hv
  have hiff2 : redP G x r ↔ sel G.2.1 pr (tkw x L R (rs r) (re r)) (rs r) (re r) := ⟨fun h => (hiff.mp h).2.2.2.2, fun h => hiff.mpr ⟨by omega, by omega, q2, q3, h⟩⟩
  refine Ok.chk (tv_b hv) (Ok.ret ⟨?_, fun _ => ?_, hf1.trans (f2.mono (fun _ q => q) (fun _ q => q.elim))⟩)
  · dsimp only
    rcases hv with ⟨u1, u2⟩ | ⟨u1, u2⟩
    · exact Or.inl ⟨u1, hiff2.mpr u2⟩
    · exact Or.inr ⟨u1, fun h => u2 (hiff2.mp h)⟩
  · rw [eV]
    show M2 48 26 = _
    rw [f2.2 26 (fun q => q) (by decide) (by decide)]
    exact e26
def rdc (G : zGr) (x y : Int) : Prop := ∀ P : Int → Prop, P x → (∀ z r, P z → redP G z r → P (redV G z r)) → P y
theorem rdc.self {G : zGr} {x : Int} : rdc G x x := fun _ h _ => h
theorem rdc.step {G : zGr} {x y : Int} {r : Nat} (h : rdc G x y) (hp : redP G y r) : rdc G x (redV G y r) := fun P a b => b y r (h P a b) hp
theorem rdc.trans {G : zGr} {x y z : Int} (h : rdc G x y) (i : rdc G y z) : rdc G x z := i (fun u => rdc G x u) h (fun _ _ a hp => a.step hp)
theorem rdc.last {G : zGr} {x y : Int} (h : rdc G x y) : y = x ∨ ∃ z r, rdc G x z ∧ redP G z r ∧ redV G z r = y := h (fun u => u = x ∨ ∃ z r, rdc G x z ∧ redP G z r ∧ redV G z r = u) (Or.inl rfl) (fun z r a hp => Or.inr ⟨z, r, by
  rcases a with a | ⟨z2, r2, a1, a2, a3⟩
  · rw [a]; exact rdc.self
  · rw [← a3]; exact a1.step a2, hp, rfl⟩)
theorem rdc.first {G : zGr} {x y : Int} (h : rdc G x y) : y = x ∨ ∃ r, redP G x r ∧ rdc G (redV G x r) y := h (fun u => u = x ∨ ∃ r, redP G x r ∧ rdc G (redV G x r) u) (Or.inl rfl) (fun z r a hp => by
  rcases a with a | ⟨r2, a1, a2⟩
  · subst a; exact Or.inr ⟨r, hp, rdc.self⟩
  · exact Or.inr ⟨r2, a1, a2.step hp⟩)
theorem rdc.r {G : zGr} (hG : grok G) {x y : Int} (hx : wd x) (h : rdc G x y) : wd y ∧ ln y ≤ ln x := h (fun u => wd u ∧ ln u ≤ ln x) ⟨hx, Int.le_refl _⟩ (fun z r a hp => by have := redV_r hG hp; exact ⟨this.1, by omega⟩)
theorem rdc.le {G : zGr} (hG : grok G) {x y : Int} (hx : wd x) (h : rdc G x y) : y ≤ x := by
  rcases h.last with e | ⟨z, r, h1, h2, h3⟩
  · omega
  · have a := h1.r hG hx
    have b := redV_r hG h2
    rw [h3] at b
    exact Int.le_of_lt (ln_mono b.1 hx (by omega))
def nf (G : zGr) (y : Int) : Prop := ∀ r, ¬ redP G y r
def nfs (G : zGr) (x y : Int) : Prop := rdc G x y ∧ nf G y
theorem nfs_ex {G : zGr} (hG : grok G) : ∀ (n : Nat) (x : Int), wd x → ln x ≤ n → ∃ y, nfs G x y := by
  intro n
  induction n with
  | zero =>
    intro x hx hn
    refine ⟨x, rdc.self, fun r hp => ?_⟩
    have := redV_r hG hp
    have := ln_b (redV G x r)
    omega
  | succ n ih =>
    intro x hx hn
    by_cases h : nf G x
    · exact ⟨x, rdc.self, h⟩
    · obtain ⟨r, hp⟩ : ∃ r, redP G x r := by
        by_cases e : ∃ r, redP G x r
        · exact e
        · exact absurd (fun r hp => e ⟨r, hp⟩) h
      have hv := redV_r hG hp
      obtain ⟨y, h1, h2⟩ := ih _ hv.1 (by omega)
      exact ⟨y, (rdc.self.step hp).trans h1, h2⟩
theorem nfs.wd {G : zGr} (hG : grok G) {x y : Int} (hx : wd x) (h : nfs G x y) : wd y := (h.1.r hG hx).1
