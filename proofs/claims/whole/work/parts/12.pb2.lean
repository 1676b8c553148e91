/-! PURE 20: sets of contexts as masks; how contexts follow one another: the reference -/
def msk (z : Int) (P : Nat → Prop) : Prop := 0 ≤ z ∧ z < 32 ∧ ∀ c : Nat, c < 5 → (bs z c ↔ P c)
theorem msk.congr {z : Int} {P Q : Nat → Prop} (h : msk z P) (i : ∀ c, c < 5 → (P c ↔ Q c)) : msk z Q := ⟨h.1, h.2.1, fun c hc => (h.2.2 c hc).trans (i c hc)⟩
theorem msk_0 {P : Nat → Prop} (h : ∀ c, c < 5 → ¬ P c) : msk 0 P := by
  refine ⟨by decide, by decide, fun c hc => ⟨fun q => ?_, fun q => absurd q (h c hc)⟩⟩
  unfold bs at q
  rw [show (0 : Int).toNat = 0 from rfl, Nat.zero_testBit] at q
  exact absurd q (by decide)
theorem msk_or {a b : Int} {P Q : Nat → Prop} (ha : msk a P) (hb : msk b Q) : msk (zor a b) (fun c => P c ∨ Q c) := by
  obtain ⟨a0, a1, a2⟩ := ha
  obtain ⟨b0, b1, b2⟩ := hb
  have h := Nat.or_lt_two_pow (x := a.toNat) (y := b.toNat) (n := 5) (by omega) (by omega)
  rw [zor_nat a0 (by omega) b0 (by omega)]
  refine ⟨by omega, by omega, fun c hc => ?_⟩
  show _ ↔ P c ∨ Q c
  rw [← a2 c hc, ← b2 c hc]
  unfold bs
  rw [Int.toNat_natCast, Nat.testBit_or, Bool.or_eq_true]
theorem one_shl : ∀ c : Nat, c < 5 → 0 ≤ zshl 1 (c : Int) ∧ zshl 1 (c : Int) < 32 ∧ ∀ d : Nat, d < 5 → ((zshl 1 (c : Int)).toNat.testBit d = true ↔ d = c) := by decide +kernel
theorem msk_1 {c : Nat} (hc : c < 5) : msk (zshl 1 (c : Int)) (fun d => d = c) := one_shl c hc
theorem and_bit : ∀ z : Nat, z < 32 → ∀ c : Nat, c < 5 → (zand (z : Int) (zshl 1 (c : Int)) = 0 ↔ z.testBit c = false) := by decide +kernel
theorem msk_and {z : Int} {P : Nat → Prop} (h : msk z P) {c : Nat} (hc : c < 5) : zand z (zshl 1 (c : Int)) = 0 ↔ ¬ P c := by
  obtain ⟨h0, h1, h2⟩ := h
  have := and_bit z.toNat (by omega) c hc
  rw [show ((z.toNat : Nat) : Int) = z by omega] at this
  rw [this, ← h2 c hc]
  unfold bs
  cases z.toNat.testBit c <;> decide
theorem msk_bit {z : Int} {P : Nat → Prop} (h : msk z P) {c : Nat} (hc : c < 5) : zand (zshr z (c : Int)) 1 = 1 ↔ P c := (zbit_i ⟨h.1, h.2.1⟩ hc).trans (h.2.2 c hc)
theorem bit5 : ∀ a : Nat, a < 32 → ∀ b : Nat, b < 32 → (∀ c : Nat, c < 5 → (a.testBit c = b.testBit c)) → a = b := by decide +kernel
theorem msk_eq {a b : Int} {P : Nat → Prop} (ha : msk a P) (hb : msk b P) : a = b := by
  have := bit5 a.toNat (by have := ha.1; have := ha.2.1; omega) b.toNat (by have := hb.1; have := hb.2.1; omega) (fun c hc => by
    have h1 := (ha.2.2 c hc).trans (hb.2.2 c hc).symm
    unfold bs at h1
    cases h2 : a.toNat.testBit c <;> cases h3 : b.toNat.testBit c <;> simp_all)
  have := ha.1
  have := hb.1
  omega
/-- by which contexts a word is made; how they follow -/
def mdb (G : zGr) (ax : List Int) (y : Int) (c : Nat) : Prop := ∃ (x : Int) (r : Nat), lcA G ax x ∧ insP G x r ∧ insV G x r = y ∧ r / 100 = c
def foll (G : zGr) (ax : List Int) (c d : Nat) : Prop := ∃ (x : Int) (r : Nat), lcA G ax x ∧ insP G x r ∧ r / 100 = d ∧ mdb G ax x c
theorem insP_c {G : zGr} {x : Int} {r : Nat} (h : insP G x r) : r / 100 < G.2.2.length := by
  obtain ⟨L, R, pr, h1, _⟩ := h
  exact (List.getElem?_eq_some_iff.mp h1).1
theorem FX11_link {M : zM} {b : Int} {c : Nat} {P : Nat → Prop} {Q : Nat → Nat → Prop} (hb : msk b P) (hc : c < 5) (hQ : ∀ e : Nat, e < 5 → msk (M 60 e) (Q e)) : Ok (F_X11_link b c M) (fun M1 => (∀ e : Nat, e < 5 → msk (M1 60 e) (fun d => Q e d ∨ (P e ∧ d = c))) ∧ ∀ a, a ≠ 60 → M1 a = M a) := by
  unfold F_X11_link F_X11_link_L2
  refine Ok.loop (fun z => ∃ e : Nat, z.1 = e ∧ e ≤ 5 ∧ (∀ e2 : Nat, e2 < 5 → msk (z.2 60 e2) (fun d => Q e2 d ∨ (e2 < e ∧ P e2 ∧ d = c))) ∧ ∀ a, a ≠ 60 → z.2 a = M a) (fun z => (30 - z.1).toNat) _ ⟨0, rfl, by omega, fun e he => (hQ e he).congr (fun d _ => ⟨Or.inl, fun q => by rcases q with q | q; exact q; omega⟩), fun _ _ => rfl⟩ (by show (30 - (0 : Int)).toNat < zN; decide) ?_ (fun e he => Ok.ret he)
  rintro ⟨v3, M1⟩ ⟨e, i1, i2, i3, i4⟩
  dsimp only at i1 i2 i3 i4 ⊢
  subst i1
  unfold F_X11_link_B2
  refine Ok.ite (fun q => Ok.chk ⟨by omega, q⟩ ?_) (fun q => Ok.ret ⟨fun e2 he2 => (i3 e2 he2).congr (fun d _ => ⟨fun h => by rcases h with h | ⟨_, h⟩; exact Or.inl h; exact Or.inr h, fun h => by rcases h with h | h; exact Or.inl h; exact Or.inr ⟨by omega, h⟩⟩), i4⟩)
  have he : e < 5 := by omega
  have go : ∀ t : Int, msk (zor (M1 60 e) t) (fun d => Q e d ∨ (P e ∧ d = c)) → Ok (F_X11_link_J30 b c e e (M1 60 e) t M1) (Turn (fun z : Int × zM => ∃ e : Nat, z.1 = e ∧ e ≤ 5 ∧ (∀ e2 : Nat, e2 < 5 → msk (z.2 60 e2) (fun d => Q e2 d ∨ (e2 < e ∧ P e2 ∧ d = c))) ∧ ∀ a, a ≠ 60 → z.2 a = M a) (fun z => (30 - z.1).toNat) (fun M1 => (∀ e : Nat, e < 5 → msk (M1 60 e) (fun d => Q e d ∨ (P e ∧ d = c))) ∧ ∀ a, a ≠ 60 → M1 a = M a) ((e : Int), M1)) := fun t ht => by
    unfold F_X11_link_J30
    refine Ok.chk ⟨by omega, q⟩ (Ok.lett (Ok.lett (Ok.ret ?_)))
    rw [w_id (a := (e : Int) + 1) (by omega)]
    refine ⟨⟨e + 1, by show (e : Int) + 1 = _; omega, by omega, fun e2 he2 => ?_, fun a ha => ?_⟩, by show (30 - ((e : Int) + 1)).toNat < (30 - (e : Int)).toNat; omega⟩
    · show msk (zs M1 60 e _ 60 e2) _
      by_cases h : e2 = e
      · subst h; rw [zs_at]; exact ht.congr (fun d _ => ⟨fun h => by rcases h with h | h; exact Or.inl h; exact Or.inr ⟨by omega, h⟩, fun h => by rcases h with h | ⟨_, h⟩; exact Or.inl h; exact Or.inr h⟩)
      · rw [zs_off _ _ (Or.inr (by omega))]
        exact (i3 e2 he2).congr (fun d _ => ⟨fun h2 => by rcases h2 with h2 | ⟨h3, h2⟩; exact Or.inl h2; exact Or.inr ⟨by omega, h2⟩, fun h2 => by rcases h2 with h2 | ⟨h3, h2⟩; exact Or.inl h2; exact Or.inr ⟨by omega, h2⟩⟩)
    · show zs M1 60 e _ a = _
      rw [zs_ne _ _ _ ha]; exact i4 a ha
  have hm := i3 e he
  refine Ok.ite (fun q1 => go _ ((msk_or hm (msk_1 hc)).congr (fun d _ => ⟨fun h => ?_, fun h => ?_⟩))) (fun q1 => go _ ((msk_or hm (msk_0 (P := fun _ => False) (fun _ _ q => q))).congr (fun d _ => ⟨fun h => ?_, fun h => ?_⟩)))
  · have hP := (msk_bit hb he).mp q1
    rcases h with (h | ⟨h, _⟩) | h
    · exact Or.inl h
    · omega
    · exact Or.inr ⟨hP, h⟩
  · rcases h with h | ⟨_, h⟩
    · exact Or.inl (Or.inl h)
    · exact Or.inr h
  · rcases h with (h | ⟨h, _⟩) | h
    · exact Or.inl h
    · omega
    · exact h.elim
  · rcases h with h | ⟨h, _⟩
    · exact Or.inl (Or.inl h)
    · exact absurd ((msk_bit hb he).mpr h) q1
/-- what findFollows has seen: words before w, and of w the insertions before R -/
def seen (x : Int) (r : Nat) (w : Int) (R : Nat) : Prop := x < w ∨ (x = w ∧ r < R)
def ffI (G : zGr) (ax : List Int) (M M1 : zM) (w : Int) (R : Nat) : Prop := mfr (fun b => b = 59 ∨ b = 60) mF0 M M1 ∧ (∀ y, wd y → msk (M1 59 y) (fun c => ∃ (x : Int) (r : Nat), lcA G ax x ∧ insP G x r ∧ insV G x r = y ∧ r / 100 = c ∧ seen x r w R)) ∧ ∀ e : Nat, e < 5 → msk (M1 60 e) (fun d => ∃ (x : Int) (r : Nat), lcA G ax x ∧ insP G x r ∧ r / 100 = d ∧ mdb G ax x e ∧ seen x r w R)
theorem ffI.to {G : zGr} {ax : List Int} {M M1 : zM} {w w2 : Int} {R R2 : Nat} (h : ffI G ax M M1 w R) (i : ∀ x r, lcA G ax x → insP G x r → (seen x r w R ↔ seen x r w2 R2)) : ffI G ax M M1 w2 R2 := by
  obtain ⟨h1, h2, h3⟩ := h
  refine ⟨h1, fun y hy => (h2 y hy).congr (fun c _ => ⟨?_, ?_⟩), fun e he => (h3 e he).congr (fun d _ => ⟨?_, ?_⟩)⟩
  · rintro ⟨x, r, a, b, c, d, e⟩; exact ⟨x, r, a, b, c, d, (i x r a b).mp e⟩
  · rintro ⟨x, r, a, b, c, d, e⟩; exact ⟨x, r, a, b, c, d, (i x r a b).mpr e⟩
  · rintro ⟨x, r, a, b, c, d, e⟩; exact ⟨x, r, a, b, c, d, (i x r a b).mp e⟩
  · rintro ⟨x, r, a, b, c, d, e⟩; exact ⟨x, r, a, b, c, d, (i x r a b).mpr e⟩
theorem FX11_findFollows {M : zM} {G : zGr} {ax : List Int} (hG : grok G) (hM : gM M G) (hax : axok ax) (hm : mrk M (lcA G ax)) : Ok (F_X11_findFollows M) (fun M1 => mfr (fun b => b = 59 ∨ b = 60) mF0 M M1 ∧ ∀ e : Nat, e < 5 → msk (M1 60 e) (foll G ax e)) := by
  have hG3 := hG.2.2.1
  have hDw : ∀ {y}, lcA G ax y → wd y := fun h => (lc_wd hG hax h).1
  have hfr : ∀ {M3 : zM}, mfr (fun b => b = 59 ∨ b = 60) mF0 M M3 → gM M3 G ∧ mrk M3 (lcA G ax) := fun h => ⟨hM.fr h ⟨by omega, by omega, by omega, by omega⟩ ⟨fun q => q, fun q => q, fun q => q⟩, hm.fr h (by omega) (fun q => q)⟩
  unfold F_X11_findFollows F_X11_findFollows_L2
  refine Ok.loop (fun z => ∃ k : Nat, z.1 = k ∧ k ≤ 29524 ∧ mfr (fun b => b = 59 ∨ b = 60) mF0 M z.2 ∧ ∀ y, wd y → y < k → z.2 59 y = 0) (fun z => (30000 - z.1).toNat) (fun M3 => mfr (fun b => b = 59 ∨ b = 60) mF0 M M3 ∧ ∀ y, wd y → M3 59 y = 0) ⟨0, rfl, by omega, mfr.refl, fun y hy h => by have := hy.1; omega⟩ (by show (30000 - (0 : Int)).toNat < zN; decide) ?_ ?_
  · rintro ⟨v1, M1⟩ ⟨k, i1, i2, i3, i4⟩
    dsimp only at i1 i2 i3 i4 ⊢
    subst i1
    unfold F_X11_findFollows_B2
    refine Ok.ite (fun q => Ok.chk ⟨by omega, q⟩ (Ok.lett (Ok.lett (Ok.ret ?_)))) (fun q => Ok.ret ⟨i3, fun y hy => i4 y hy (by have := hy.2; omega)⟩)
    rw [w_id (a := (k : Int) + 1) (by omega)]
    refine ⟨⟨k + 1, by show (k : Int) + 1 = _; omega, by omega, i3.trans (mfr.cell (Or.inl rfl) (by decide)), fun y h1 h2 => ?_⟩, by show (30000 - ((k : Int) + 1)).toNat < (30000 - (k : Int)).toNat; omega⟩
    show zs M1 59 k 0 59 y = 0
    by_cases e : y = k
    · rw [e, zs_at]
    · rw [zs_off _ _ (Or.inr e)]; exact i4 y h1 (by omega)
  intro M1 ⟨hf1, hz1⟩
  unfold F_X11_findFollows_J22 F_X11_findFollows_L24
  refine Ok.loop (fun z => ∃ k : Nat, z.1 = k ∧ k ≤ 5 ∧ mfr (fun b => b = 59 ∨ b = 60) mF0 M z.2 ∧ (∀ y, wd y → z.2 59 y = 0) ∧ ∀ e : Nat, e < k → z.2 60 e = 0) (fun z => (30 - z.1).toNat) (fun M3 => mfr (fun b => b = 59 ∨ b = 60) mF0 M M3 ∧ (∀ y, wd y → M3 59 y = 0) ∧ ∀ e : Nat, e < 5 → M3 60 e = 0) ⟨0, rfl, by omega, hf1, hz1, fun e h => by omega⟩ (by show (30 - (0 : Int)).toNat < zN; decide) ?_ ?_
  · rintro ⟨v1, M2⟩ ⟨k, i1, i2, i3, i5, i4⟩
    dsimp only at i1 i2 i3 i4 i5 ⊢
    subst i1
    unfold F_X11_findFollows_B24
    refine Ok.ite (fun q => Ok.chk ⟨by omega, q⟩ (Ok.lett (Ok.lett (Ok.ret ?_)))) (fun q => Ok.ret ⟨i3, i5, fun e he => i4 e (by omega)⟩)
    rw [w_id (a := (k : Int) + 1) (by omega)]
    refine ⟨⟨k + 1, by show (k : Int) + 1 = _; omega, by omega, i3.trans (mfr.cell (Or.inr rfl) (by decide)), fun y h1 => ?_, fun e h1 => ?_⟩, by show (30 - ((k : Int) + 1)).toNat < (30 - (k : Int)).toNat; omega⟩
    · show zs M2 60 k 0 59 y = 0
      rw [zs_ne _ _ _ (by decide)]; exact i5 y h1
    · show zs M2 60 k 0 60 e = 0
      by_cases h : e = k
      · rw [h, zs_at]
      · rw [zs_off _ _ (Or.inr (by omega))]; exact i4 e (by omega)
  intro M2 ⟨hf2, hz2, hz3⟩
  have h0 : ffI G ax M M2 (0 : Nat) 0 := ⟨hf2, fun y hy => by
      rw [hz2 y hy]
      exact msk_0 (fun c _ ⟨x, r, h1, h2, h3, h4, h5⟩ => by
        have := (hDw h1).1
        rcases h5 with h5 | h5 <;> omega), fun e he => by
      rw [hz3 e he]
      exact msk_0 (fun c _ ⟨x, r, h1, h2, h3, h4, h5⟩ => by
        have := (hDw h1).1
        rcases h5 with h5 | h5 <;> omega)⟩
  unfold F_X11_findFollows_J42 F_X11_findFollows_L44
  refine Ok.loop (fun z => ∃ k : Nat, z.1 = k ∧ k ≤ 29524 ∧ ffI G ax M z.2 k 0) (fun z => (30000 - z.1).toNat) (fun M3 => ffI G ax M M3 29524 0) ⟨0, rfl, by omega, h0⟩ (by show (30000 - (0 : Int)).toNat < zN; decide) ?_ ?_
  · rintro ⟨v1, M3⟩ ⟨k, i1, i2, i3⟩
    dsimp only at i1 i2 i3 ⊢
    subst i1
    unfold F_X11_findFollows_B44
    refine Ok.ite (fun q => ?_) (fun q => Ok.ret (by rw [show (29524 : Int) = k by omega]; exact i3))
    have hk : wd (k : Int) := ⟨by omega, q⟩
    unfold F_X11_findFollows_L53
    refine Ok.loop (fun z => ∃ c : Nat, z.1 = c ∧ c ≤ G.2.2.length ∧ ffI G ax M z.2 k (100 * c)) (fun z => (30 - z.1).toNat) (fun M3 => ffI G ax M M3 ((k + 1 : Nat) : Int) 0) ⟨0, rfl, by omega, i3⟩ (by show (30 - (0 : Int)).toNat < zN; decide) ?_ ?_
    · rintro ⟨v2, M5⟩ ⟨c, j1, j2, j3⟩
      dsimp only at j1 j2 j3 ⊢
      subst j1
      obtain ⟨gg, gm⟩ := hfr j3.1
      unfold F_X11_findFollows_B53
      rw [gg.1]
      refine Ok.ite (fun q1 => Ok.chk ⟨by omega, q⟩ (Ok.ite (fun c1 => Ok.ret (j3.to (fun x r h1 h2 => ?_))) (fun c1 => ?_))) (fun q1 => Ok.ret (j3.to (fun x r h1 h2 => ?_)))
      · have hne : x ≠ k := fun e => tv_0 (gm.1 k hk) c1 (e ▸ h1)
        unfold seen; omega
      · have hdk := tv_1 (gm.1 k hk) c1
        have hc : c < G.2.2.length := by omega
        have hget : G.2.2[c]? = some G.2.2[c] := List.getElem?_eq_getElem hc
        obtain ⟨L, R, pr, hLR⟩ : ∃ L R pr, G.2.2[c] = (L, R, pr) := ⟨_, _, _, rfl⟩
        rw [hLR] at hget
        have hcx := hG.2.2.2 _ (List.mem_of_getElem? hget)
        refine Ok.b1 (FX11_fit2 (A := mA0) (F := mF0) ⟨by omega, by omega⟩ hk (gg.2.2.2 c L R pr hget).2.2 hcx.2.2) (fun M6 ⟨hfit, hfr6⟩ => ?_)
        have j6 : ffI G ax M M6 k (100 * c) := ⟨j3.1.trans (hfr6.mono (B := fun b => b = 59 ∨ b = 60) (E := mF0) (fun _ q => q.elim) (fun _ q => q)), by rw [hfr6.1 59 (fun q => q) (by decide) (by decide) (by decide)]; exact j3.2.1, by rw [hfr6.1 60 (fun q => q) (by decide) (by decide) (by decide)]; exact j3.2.2⟩
        unfold F_X11_findFollows_L78
        refine Ok.loop (fun z => ∃ g : Nat, z.1 = g ∧ g ≤ 100 ∧ fitd z.2 pr k ∧ ffI G ax M z.2 k (100 * c + g)) (fun z => (200 - z.1).toNat) (fun M7 => ffI G ax M M7 k (100 * (c + 1))) ⟨0, rfl, by omega, hfit, j6⟩ (by show (200 - (0 : Int)).toNat < zN; decide) ?_ ?_
        · rintro ⟨v3, M7⟩ ⟨g, k1, k2, k4, k3⟩
          dsimp only at k1 k2 k3 k4 ⊢
          subst k1
          have go : ∀ M8 : zM, fitd M8 pr k → ffI G ax M M8 k (100 * c + (g + 1)) → g < 100 → Ok (F_X11_findFollows_J150 k c g M8) (Turn (fun z : Int × zM => ∃ g : Nat, z.1 = g ∧ g ≤ 100 ∧ fitd z.2 pr k ∧ ffI G ax M z.2 k (100 * c + g)) (fun z => (200 - z.1).toNat) (fun M7 => ffI G ax M M7 k (100 * (c + 1))) ((g : Int), M7)) := fun M8 a1 a2 a4 => by
            unfold F_X11_findFollows_J150
            refine Ok.lett (Ok.ret ?_)
            rw [w_id (a := (g : Int) + 1) (by omega)]
            exact ⟨⟨g + 1, by show (g : Int) + 1 = _; omega, by omega, a1, a2⟩, by show (200 - ((g : Int) + 1)).toNat < (200 - (g : Int)).toNat; omega⟩
          unfold F_X11_findFollows_B78
          refine Ok.ite (fun q2 => ?_) (fun q2 => Ok.ret (by rw [show 100 * (c + 1) = 100 * c + g by omega]; exact k3))
          obtain ⟨gg7, gm7⟩ := hfr k3.1
          refine mturn hG gg7 hk hget k4 (by omega) (fun hn => Ok.ret (k3.to (fun x r h1 h2 => ?_))) (fun hn => go M7 k4 (k3.to (fun x r h1 h2 => ?_)) (by omega)) (fun hp => ?_)
          · by_cases e : x = k
            · subst e
              have := hn r
              unfold seen
              by_cases h3 : 100 * c ≤ r ∧ r < 100 * (c + 1)
              · exact absurd h2 (this h3.1 h3.2)
              · omega
            · unfold seen; omega
          · by_cases e : x = k
            · subst e
              unfold seen
              by_cases h3 : r = 100 * c + g
              · subst h3; exact absurd h2 hn
              · omega
            · unfold seen; omega
          · have hv := insV_r hG hk hp
            have hpc : (100 * c + g) / 100 = c := by omega
            generalize hY : insV G k (100 * c + g) = Y at hv
            obtain ⟨k5, k6, k7⟩ := k3
            obtain ⟨M8, hM8⟩ : ∃ M8, M8 = zs M7 59 Y (zor (M7 59 Y) (zshl 1 c)) := ⟨_, rfl⟩
            refine Ok.chk hv.1 (Ok.chk hv.1 (Ok.lett (Ok.chk ⟨by omega, q⟩ ?_)))
            rw [← hM8]
            have hne : (k : Int) ≠ Y := by have := hv.2.2.2.2; omega
            have e59 : M8 59 k = M7 59 k := by rw [hM8, zs_off _ _ (Or.inr hne)]
            have e60 : M8 60 = M7 60 := by rw [hM8, zs_ne _ _ _ (by decide)]
            have hmk : msk (M8 59 k) (mdb G ax k) := by
              rw [e59]
              refine (k6 k hk).congr (fun d _ => ⟨?_, ?_⟩)
              · rintro ⟨x, r, h1, h2, h3, h4, h5⟩; exact ⟨x, r, h1, h2, h3, h4⟩
              · rintro ⟨x, r, h1, h2, h3, h4⟩
                have := (insV_r hG (hDw h1) h2).2.2.2.2
                exact ⟨x, r, h1, h2, h3, h4, Or.inl (by omega)⟩
            refine Ok.b1 (FX11_link (Q := fun e d => ∃ (x : Int) (r : Nat), lcA G ax x ∧ insP G x r ∧ r / 100 = d ∧ mdb G ax x e ∧ seen x r k (100 * c + g)) hmk (by omega) (by rw [e60]; exact k7)) (fun M9 ⟨l1, l2⟩ => ?_)
            have hf9 : mfr (fun b => b = 59 ∨ b = 60) mF0 M7 M9 := (show mfr (fun b => b = 59 ∨ b = 60) mF0 M7 M8 by rw [hM8]; exact mfr.cell (Or.inl rfl) (by decide)).trans ⟨fun b hb _ _ _ => l2 b (fun e => hb (Or.inr e)), fun j _ _ _ => by rw [l2 48 (by decide)]⟩
            have e48 : M9 48 = M7 48 := by rw [l2 48 (by decide), hM8, zs_ne _ _ _ (by decide)]
            refine go M9 (k4.fr (by rw [e48]) (by rw [e48]) (by rw [l2 57 (by decide), hM8, zs_ne _ _ _ (by decide)])) ⟨k5.trans hf9, fun y hy => ?_, fun e he => (l1 e he).congr (fun d _ => ⟨?_, ?_⟩)⟩ (by omega)
            · rw [l2 59 (by decide), hM8]
              by_cases e : y = Y
              · subst e
                rw [zs_at]
                refine (msk_or (k6 y hy) (msk_1 (c := c) (by omega))).congr (fun d _ => ⟨?_, ?_⟩)
                · rintro (⟨x, r, h1, h2, h3, h4, h5⟩ | rfl)
                  · exact ⟨x, r, h1, h2, h3, h4, by unfold seen at h5 ⊢; omega⟩
                  · exact ⟨k, 100 * d + g, hdk, hp, hY, by omega, Or.inr ⟨rfl, by omega⟩⟩
                · rintro ⟨x, r, h1, h2, h3, h4, h5⟩
                  by_cases h6 : x = k ∧ r = 100 * c + g
                  · right; omega
                  · left; exact ⟨x, r, h1, h2, h3, h4, by unfold seen at h5 ⊢; omega⟩
              · rw [zs_off _ _ (Or.inr e)]
                refine (k6 y hy).congr (fun d _ => ⟨?_, ?_⟩)
                · rintro ⟨x, r, h1, h2, h3, h4, h5⟩
                  exact ⟨x, r, h1, h2, h3, h4, by unfold seen at h5 ⊢; omega⟩
                · rintro ⟨x, r, h1, h2, h3, h4, h5⟩
                  have h6 : ¬ (x = k ∧ r = 100 * c + g) := fun ⟨a, b⟩ => e (by rw [← h3, a, b, hY])
                  exact ⟨x, r, h1, h2, h3, h4, by unfold seen at h5 ⊢; omega⟩
            · rintro (⟨x, r, h1, h2, h3, h4, h5⟩ | ⟨h1, rfl⟩)
              · exact ⟨x, r, h1, h2, h3, h4, by unfold seen at h5 ⊢; omega⟩
              · exact ⟨k, 100 * d + g, hdk, hp, by omega, h1, Or.inr ⟨rfl, by omega⟩⟩
            · rintro ⟨x, r, h1, h2, h3, h4, h5⟩
              by_cases h6 : x = k ∧ r = 100 * c + g
              · right; exact ⟨by rw [← h6.1]; exact h4, by omega⟩
              · left; exact ⟨x, r, h1, h2, h3, h4, by unfold seen at h5 ⊢; omega⟩
        · intro M7 k1
          unfold F_X11_findFollows_J156
          rw [w_id (a := (c : Int) + 1) (by omega)]
          exact Ok.lett (Ok.ret ⟨⟨c + 1, by show (c : Int) + 1 = _; omega, by omega, k1⟩, by show (30 - ((c : Int) + 1)).toNat < (30 - (c : Int)).toNat; omega⟩)
      · have h3 := insP_c h2
        unfold seen; omega
    · intro M5 k1
      unfold F_X11_findFollows_J162
      rw [w_id (a := (k : Int) + 1) (by omega)]
      exact Ok.lett (Ok.ret ⟨⟨k + 1, by show (k : Int) + 1 = _; omega, by omega, k1⟩, by show (30000 - ((k : Int) + 1)).toNat < (30000 - (k : Int)).toNat; omega⟩)
  · intro M3 ⟨h1, h2, h3⟩
    unfold F_X11_findFollows_J168
    refine Ok.ret ⟨h1, fun e he => (h3 e he).congr (fun d _ => ⟨?_, ?_⟩)⟩
    · rintro ⟨x, r, a1, a2, a3, a4, a5⟩; exact ⟨x, r, a1, a2, a3, a4⟩
    · rintro ⟨x, r, a1, a2, a3, a4⟩; exact ⟨x, r, a1, a2, a3, a4, Or.inl (hDw a1).2⟩
