/-! PURE 23: the reference: following, loops -/
def rch (G : zGr) (ax : List Int) (c : Nat) : Nat → Nat → Prop
  | 0, d => d = c
  | n + 1, d => ∃ e : Nat, e < 5 ∧ rch G ax c n e ∧ foll G ax e d
def lps (G : zGr) (ax : List Int) (c : Nat) (r : Int) : Prop := (1 ≤ r ∧ r ≤ 5) ∧ rch G ax c r.toNat c ∧ ∀ m : Nat, 1 ≤ m → (m : Int) < r → ¬ rch G ax c m c
def lpn (G : zGr) (ax : List Int) (c : Nat) : Prop := ∀ m : Nat, 1 ≤ m → m ≤ 5 → ¬ rch G ax c m c
theorem lps_u {G : zGr} {ax : List Int} {c : Nat} {a b : Int} (ha : lps G ax c a) (hb : lps G ax c b) : a = b := by
  obtain ⟨a1, a2, a3⟩ := ha
  obtain ⟨b1, b2, b3⟩ := hb
  rcases Int.lt_trichotomy a b with h | h | h
  · exact absurd a2 (b3 a.toNat (by omega) (by omega))
  · exact h
  · exact absurd b2 (a3 b.toNat (by omega) (by omega))
theorem lps_n {G : zGr} {ax : List Int} {c : Nat} {a : Int} (ha : lps G ax c a) : ¬ lpn G ax c := fun h => h a.toNat (by have := ha.1; omega) (by have := ha.1; omega) ha.2.1
theorem FX11_canFollow {M : zM} {G : zGr} {ax : List Int} {cur c d : Int} (h : mst M G ax cur) : Ok (F_X11_canFollow c d M) (fun r => mscr M r.2 ∧ (¬ ((0 ≤ c ∧ c < (G.2.2.length : Int)) ∧ (0 ≤ d ∧ d < (G.2.2.length : Int))) → r.2 48 0 = 1) ∧ ((0 ≤ c ∧ c < (G.2.2.length : Int)) ∧ (0 ≤ d ∧ d < (G.2.2.length : Int)) → (¬ fewA G ax → r.2 48 0 = 2) ∧ (fewA G ax → r.2 48 0 = 0 ∧ tv r.1 (foll G ax c.toNat d.toNat)))) := by
  obtain ⟨hG, hax, hw, _⟩ := id h
  have hG3 := hG.2.2.1
  have hn : ∀ {M1 : zM}, mst M1 G ax cur → M1 48 7 = (G.2.2.length : Int) := fun h => h.2.2.2.1.1
  unfold F_X11_canFollow
  have bad : ∀ M1 : zM, mscr M M1 → Ok (F_X11_canFollow_J21 M1) (fun r => mscr M r.2 ∧ r.2 48 0 = 1) := fun M1 h1 => by
    unfold F_X11_canFollow_J21
    rw [FX11_fail]
    simp only [zb2_some]
    exact Ok.neg (by decide) (Ok.ret ⟨mfr.trans h1 mscr.th, zs_at M1 48 0 1⟩)
  refine Ok.lett (Ok.b1 (FX11_isContext (hn (h.scr mscr.th)) (by omega)) (fun r hr => ?_))
  refine Ok.ite (fun q => (bad _ mscr.th).mono (fun r2 h2 => ⟨h2.1, fun _ => h2.2, fun q2 => absurd q2.1 (tv_0 hr q)⟩)) (fun q => ?_)
  have hc := tv_1 hr q
  refine Ok.b1 (FX11_isContext (hn (h.scr mscr.th)) (by omega)) (fun r hr => ?_)
  refine Ok.ite (fun q => (bad _ mscr.th).mono (fun r2 h2 => ⟨h2.1, fun _ => h2.2, fun q2 => absurd q2.2 (tv_0 hr q)⟩)) (fun q => ?_)
  have hd := tv_1 hr q
  refine Ok.b2 (mfind h) (fun r1 M1 ⟨h1, h2, h3, h4, h5⟩ => ?_)
  dsimp only at h1 h2 h3 h4 h5
  refine Ok.ite (fun c1 => ?_) (fun c1 => ?_)
  · rw [FX11_fail]
    simp only [zb2_some]
    exact Ok.neg (by decide) (Ok.ret ⟨mfr.trans h3 mscr.th, fun q2 => absurd ⟨hc, hd⟩ q2, fun _ => ⟨fun _ => zs_at M1 48 0 2, fun q2 => absurd q2 (tv_0 h1 c1)⟩⟩)
  have hm := h2 (tv_1 h1 c1)
  refine Ok.b1 (FX11_findFollows hG h5.2.2.2.1 hax hm) (fun M2 ⟨g1, g2⟩ => ?_)
  have ec : c = ((c.toNat : Nat) : Int) := by omega
  have ed : d = ((d.toNat : Nat) : Int) := by omega
  have hg := g2 c.toNat (by omega)
  rw [← ec] at hg
  have hbit := msk_bit hg (c := d.toNat) (by omega)
  rw [← ed] at hbit
  have hs2 : mscr M M2 := mfr.trans h3 (mscr.of g1 (fun b q => by omega) (fun k q => q.elim))
  have ht2 : M2 48 0 = 0 := by rw [g1.2 0 (fun q => q) (by decide) (by decide)]; exact h4
  exact Ok.chk ⟨hc.1, by omega⟩ (Ok.ite (fun q2 => Ok.ret ⟨hs2, fun q3 => absurd ⟨hc, hd⟩ q3, fun _ => ⟨fun q3 => absurd (tv_1 h1 c1) q3, fun _ => ⟨ht2, tv_t (hbit.mp q2)⟩⟩⟩) (fun q2 => Ok.ret ⟨hs2, fun q3 => absurd ⟨hc, hd⟩ q3, fun _ => ⟨fun q3 => absurd (tv_1 h1 c1) q3, fun _ => ⟨ht2, tv_f (fun q3 => q2 (hbit.mpr q3))⟩⟩⟩))
theorem FX11_shortestLoop {M : zM} {G : zGr} {ax : List Int} {cur c : Int} (h : mst M G ax cur) : Ok (F_X11_shortestLoop c M) (fun r => mscr M r.2 ∧ (¬ (0 ≤ c ∧ c < (G.2.2.length : Int)) → r.2 48 0 = 1) ∧ (0 ≤ c ∧ c < (G.2.2.length : Int) → (¬ fewA G ax → r.2 48 0 = 2) ∧ (fewA G ax → (r.2 48 0 = 0 ∧ lps G ax c.toNat r.1) ∨ (r.2 48 0 = 3 ∧ lpn G ax c.toNat)))) := by
  obtain ⟨hG, hax, hw, _⟩ := id h
  have hG3 := hG.2.2.1
  have hn : ∀ {M1 : zM}, mst M1 G ax cur → M1 48 7 = (G.2.2.length : Int) := fun h => h.2.2.2.1.1
  unfold F_X11_shortestLoop
  refine Ok.lett (Ok.b1 (FX11_isContext (hn (h.scr mscr.th)) (by omega)) (fun r hr => ?_))
  refine Ok.ite (fun q => ?_) (fun q => ?_)
  · rw [FX11_fail]
    simp only [zb2_some]
    exact Ok.ret ⟨mfr.trans mscr.th mscr.th, fun _ => zs_at (zs M 48 0 0) 48 0 1, fun q2 => absurd q2 (tv_0 hr q)⟩
  have hc := tv_1 hr q
  refine Ok.b2 (mfind h) (fun r1 M1 ⟨h1, h2, h3, h4, h5⟩ => ?_)
  dsimp only at h1 h2 h3 h4 h5
  refine Ok.ite (fun c1 => ?_) (fun c1 => ?_)
  · rw [FX11_fail]
    simp only [zb2_some]
    exact Ok.ret ⟨mfr.trans h3 mscr.th, fun q2 => absurd hc q2, fun _ => ⟨fun _ => zs_at M1 48 0 2, fun q2 => absurd q2 (tv_0 h1 c1)⟩⟩
  have hm := h2 (tv_1 h1 c1)
  refine Ok.b1 (FX11_findFollows hG h5.2.2.2.1 hax hm) (fun M2 ⟨g1, g2⟩ => ?_)
  have ec : c = ((c.toNat : Nat) : Int) := by omega
  have hs2 : mscr M M2 := mfr.trans h3 (mscr.of g1 (fun b q => by omega) (fun k q => q.elim))
  have ht2 : M2 48 0 = 0 := by rw [g1.2 0 (fun q => q) (by decide) (by decide)]; exact h4
  generalize hcn : c.toNat = cn at ec
  subst ec
  refine Ok.lett ?_
  unfold F_X11_shortestLoop_L42
  refine Ok.loop (fun z => ∃ n : Nat, z.2 = ((n + 1 : Nat) : Int) ∧ n ≤ 5 ∧ msk z.1 (rch G ax cn n) ∧ ∀ m : Nat, 1 ≤ m → m ≤ n → ¬ rch G ax cn m cn) (fun z => (20 - z.2).toNat) (fun e => match e with | .inl r => lps G ax cn r | .inr _ => lpn G ax cn) ⟨0, rfl, by omega, msk_1 (by omega), fun m a1 a2 => by omega⟩ (by show (20 - (1 : Int)).toNat < zN; decide) ?_ ?_
  · rintro ⟨v2, v3⟩ ⟨n, i1, i2, i3, i4⟩
    dsimp only at i1 i2 i3 i4 ⊢
    subst i1
    unfold F_X11_shortestLoop_B42
    refine Ok.ite (fun q1 => Ok.ret (fun m a1 a2 => i4 m a1 (by omega))) (fun q1 => ?_)
    unfold F_X11_shortestLoop_L53
    refine Ok.loop (fun z => ∃ e : Nat, z.2 = e ∧ e ≤ 5 ∧ msk z.1 (fun d => ∃ e2 : Nat, e2 < e ∧ rch G ax cn n e2 ∧ foll G ax e2 d)) (fun z => (20 - z.2).toNat) (fun e => msk e (rch G ax cn (n + 1))) ⟨0, rfl, by omega, msk_0 (fun d _ ⟨e2, a1, _⟩ => by omega)⟩ (by show (20 - (0 : Int)).toNat < zN; decide) ?_ ?_
    · rintro ⟨v4, v5⟩ ⟨e, j1, j2, j3⟩
      dsimp only at j1 j2 j3 ⊢
      subst j1
      have go : ∀ t : Int, msk (zor v4 t) (fun d => ∃ e2 : Nat, e2 < e + 1 ∧ rch G ax cn n e2 ∧ foll G ax e2 d) → e < 5 → Ok (F_X11_shortestLoop_J82 cn v2 ((n + 1 : Nat) : Int) e v4 t M2) (Turn (fun z : Int × Int => ∃ e : Nat, z.2 = e ∧ e ≤ 5 ∧ msk z.1 (fun d => ∃ e2 : Nat, e2 < e ∧ rch G ax cn n e2 ∧ foll G ax e2 d)) (fun z => (20 - z.2).toNat) (fun e => msk e (rch G ax cn (n + 1))) (v4, (e : Int))) := fun t a1 a2 => by
        unfold F_X11_shortestLoop_J82
        rw [w_id (a := (e : Int) + 1) (by omega)]
        exact Ok.lett (Ok.lett (Ok.ret ⟨⟨e + 1, by show (e : Int) + 1 = _; omega, by omega, a1⟩, by show (20 - ((e : Int) + 1)).toNat < (20 - (e : Int)).toNat; omega⟩))
      unfold F_X11_shortestLoop_B53
      refine Ok.ite (fun q2 => ?_) (fun q2 => Ok.ret (j3.congr (fun d _ => ⟨fun ⟨e2, a1, a2⟩ => ⟨e2, by omega, a2⟩, fun ⟨e2, a1, a2⟩ => ⟨e2, by omega, a2⟩⟩)))
      have he : e < 5 := by omega
      refine Ok.ite (fun q3 => Ok.chk ⟨by omega, q2⟩ (go _ ((msk_or j3 (g2 e he)).congr (fun d _ => ⟨fun a => ?_, fun ⟨e2, a1, a2⟩ => ?_⟩)) he)) (fun q3 => go _ ((msk_or j3 (msk_0 (P := fun _ => False) (fun _ _ a => a))).congr (fun d _ => ⟨fun a => ?_, fun ⟨e2, a1, a2⟩ => ?_⟩)) he)
      · rcases a with ⟨e2, a1, a2⟩ | a
        · exact ⟨e2, by omega, a2⟩
        · exact ⟨e, by omega, (msk_bit i3 he).mp q3, a⟩
      · by_cases h9 : e2 = e
        · right; rw [← h9]; exact a2.2
        · left; exact ⟨e2, by omega, a2⟩
      · rcases a with ⟨e2, a1, a2⟩ | a
        · exact ⟨e2, by omega, a2⟩
        · exact a.elim
      · by_cases h9 : e2 = e
        · rw [h9] at a2; exact absurd ((msk_bit i3 he).mpr a2.1) q3
        · left; exact ⟨e2, by omega, a2⟩
    · intro e he
      unfold F_X11_shortestLoop_J91
      have hb := msk_bit he (c := cn) (by omega)
      refine Ok.ite (fun q2 => Ok.ret ⟨⟨by omega, by omega⟩, by rw [Int.toNat_natCast]; exact hb.mp q2, fun m a1 a2 => i4 m a1 (by omega)⟩) (fun q2 => ?_)
      rw [w_id (a := ((n + 1 : Nat) : Int) + 1) (by omega)]
      refine Ok.lett (Ok.ret ⟨⟨n + 1, by show ((n + 1 : Nat) : Int) + 1 = _; omega, by omega, he, fun m a1 a2 => ?_⟩, by show (20 - (((n + 1 : Nat) : Int) + 1)).toNat < (20 - ((n + 1 : Nat) : Int)).toNat; omega⟩)
      by_cases h9 : m = n + 1
      · rw [h9]; exact fun h8 => q2 (hb.mpr h8)
      · exact i4 m a1 (by omega)
  · rintro (e | e) he
    · exact Ok.ret ⟨hs2, fun q2 => absurd hc q2, fun _ => ⟨fun q2 => absurd (tv_1 h1 c1) q2, fun _ => Or.inl ⟨ht2, he⟩⟩⟩
    · show Ok (F_X11_shortestLoop_J112 M2) _
      unfold F_X11_shortestLoop_J112
      rw [FX11_fail]
      simp only [zb2_some]
      exact Ok.ret ⟨mfr.trans hs2 mscr.th, fun q2 => absurd hc q2, fun _ => ⟨fun q2 => absurd (tv_1 h1 c1) q2, fun _ => Or.inr ⟨zs_at M2 48 0 3, he⟩⟩⟩
