/-! PURE 22: the reference's answers about contexts -/
def usd (G : zGr) (ax : List Int) (c : Nat) : Prop := ∃ (x : Int) (r : Nat), lcA G ax x ∧ insP G x r ∧ r / 100 = c
def gen (G : zGr) (ax : List Int) (C : Nat → Prop) : Prop := ∀ y, lcA G ax y → lc G ax C y
theorem cnt_eq_sub {D E : Int → Prop} : ∀ {n : Nat}, (∀ k : Nat, k < n → D k → E k) → cnt D n = cnt E n → ∀ k : Nat, k < n → E k → D k
  | 0, _, _, k, hk, _ => by omega
  | n + 1, h, he, k, hk, hE => by
    have hle := cnt_le (D := D) (E := E) (n := n) (fun j hj => h j (by omega))
    by_cases hd : D n
    · have hen := h n (by omega) hd
      rw [cnt_t hd, cnt_t hen] at he
      by_cases e : k = n
      · rw [e]; exact hd
      · exact cnt_eq_sub (n := n) (fun j hj => h j (by omega)) (by omega) k (by omega) hE
    · rw [cnt_f hd] at he
      by_cases hen : E n
      · rw [cnt_t hen] at he; omega
      · rw [cnt_f hen] at he
        by_cases e : k = n
        · rw [e] at hE; exact absurd hE hen
        · exact cnt_eq_sub (n := n) (fun j hj => h j (by omega)) he k (by omega) hE
theorem gen_cnt {G : zGr} {ax : List Int} {C : Nat → Prop} (hG : grok G) (hax : axok ax) : gen G ax C ↔ cnt (lc G ax C) 29524 = cnt (lcA G ax) 29524 := by
  have hs : ∀ k : Nat, k < 29524 → lc G ax C k → lcA G ax k := fun k _ h => lc_mono h (fun _ _ => trivial)
  constructor
  · intro h
    exact cnt_congr (fun k hk => ⟨hs k hk, h k⟩)
  · intro h y hy
    have hw := (lc_wd hG hax hy).1
    have := cnt_eq_sub hs h y.toNat (by have := hw.1; have := hw.2; omega)
    rw [show ((y.toNat : Nat) : Int) = y by have := hw.1; omega] at this
    exact this hy
theorem FX11_canInsert {M : zM} {G : zGr} {x : Int} {c : Nat} (hG : grok G) (hM : gM M G) (hx : wd x) (hc : c < G.2.2.length) : Ok (F_X11_canInsert x c M) (fun r => tv r.1 (∃ r, insP G x r ∧ r / 100 = c) ∧ mfr mA0 mF0 M r.2) := by
  have hG3 := hG.2.2.1
  have hget : G.2.2[c]? = some G.2.2[c] := List.getElem?_eq_getElem hc
  obtain ⟨L, R, pr, hLR⟩ : ∃ L R pr, G.2.2[c] = (L, R, pr) := ⟨_, _, _, rfl⟩
  rw [hLR] at hget
  have hcx := hG.2.2.2 _ (List.mem_of_getElem? hget)
  unfold F_X11_canInsert
  refine Ok.b1 (FX11_fit2 (A := mA0) (F := mF0) ⟨by omega, by omega⟩ hx (hM.2.2.2 c L R pr hget).2.2 hcx.2.2) (fun M1 ⟨hfit, hfr⟩ => ?_)
  have hM1 := hM.fr hfr ⟨fun q => q, fun q => q, fun q => q, fun q => q⟩ ⟨fun q => q, fun q => q, fun q => q⟩
  unfold F_X11_canInsert_L8
  refine Ok.loop (fun z => ∃ g : Nat, z = g ∧ g ≤ 100 ∧ ∀ r, 100 * c ≤ r → r < 100 * c + g → ¬ insP G x r) (fun z => (200 - z).toNat) (fun e => match e with | .inl _ => ∃ r, insP G x r ∧ r / 100 = c | .inr _ => ¬ ∃ r, insP G x r ∧ r / 100 = c) ⟨0, rfl, by omega, fun r h1 h2 => by omega⟩ (by decide) ?_ ?_
  · rintro _ ⟨g, rfl, i2, i3⟩
    unfold F_X11_canInsert_B8
    refine Ok.ite (fun q => ?_) (fun q => Ok.ret (fun ⟨r, h1, h2⟩ => i3 r (by omega) (by omega) h1))
    refine Ok.b1 (FX11_hasRoom ⟨by omega, by omega⟩ (cxok_wd hcx).1 (cxok_wd hcx).2.1 (hM1.2.2.2 c L R pr hget).1 (hM1.2.2.2 c L R pr hget).2.1 hM1.2.2.1 hfit.2.1 (ln_b x)) (fun r hr => ?_)
    have hf : g < 100 := by omega
    have hin := mins (x := x) hget hf
    refine Ok.ite (fun q1 => Ok.ret (fun ⟨r2, h1, h2⟩ => ?_)) (fun q1 => ?_)
    · rw [show r2 = 100 * c + (r2 - 100 * c) by omega] at h1
      exact tv_0 hr q1 ((mins (x := x) hget (show r2 - 100 * c < 100 by omega)).mp h1).2.2.1
    have hroom := tv_1 hr q1
    have no : ¬ insP G x (100 * c + g) → Ok (F_X11_canInsert_J47 c g M1) (Turn (fun z : Int => ∃ g : Nat, z = g ∧ g ≤ 100 ∧ ∀ r, 100 * c ≤ r → r < 100 * c + g → ¬ insP G x r) (fun z => (200 - z).toNat) (fun e : Unit ⊕ Unit => match e with | .inl _ => ∃ r, insP G x r ∧ r / 100 = c | .inr _ => ¬ ∃ r, insP G x r ∧ r / 100 = c) (g : Int)) := fun hn => by
      unfold F_X11_canInsert_J47
      rw [w_id (a := (g : Int) + 1) (by omega)]
      refine Ok.lett (Ok.ret ⟨⟨g + 1, by omega, by omega, fun r h1 h2 hp => ?_⟩, by show (200 - ((g : Int) + 1)).toNat < (200 - (g : Int)).toNat; omega⟩)
      by_cases e : r = 100 * c + g
      · rw [e] at hp; exact hn hp
      · exact i3 r h1 (by omega) hp
    refine Ok.b1 (FX11_isFactor (by omega) (by omega) hfit.2.1) (fun r1 hr1 => ?_)
    refine Ok.ite (fun q2 => no (fun h => tv_0 hr1 q2 ⟨(hin.mp h).1, (hin.mp h).2.1⟩)) (fun q2 => ?_)
    have hfac := tv_1 hr1 q2
    rw [zdiv_e (by omega) (by omega) (by decide) (by decide), zrem_e (by omega) (by omega) (by decide) (by decide)]
    refine Ok.b1 (FX11_isSelected hfit (by rw [hM1.2.1]; exact hG.2.1) (by omega) hfac.1 hfac.2) (fun r2 hr2 => ?_)
    rw [hM1.2.1] at hr2
    refine Ok.ite (fun q3 => no (fun h => tv_0 hr2 q3 (hin.mp h).2.2.2)) (fun q3 => Ok.ret ?_)
    exact ⟨100 * c + g, hin.mpr ⟨hfac.1, hfac.2, hroom, tv_1 hr2 q3⟩, by omega⟩
  · rintro (e | e) he
    · exact Ok.ret ⟨tv_t he, hfr⟩
    · exact Ok.ret ⟨tv_f he, hfr⟩
theorem FX11_isUsed {M : zM} {G : zGr} {ax : List Int} {cur c : Int} (h : mst M G ax cur) : Ok (F_X11_isUsed c M) (fun r => mscr M r.2 ∧ (¬ (0 ≤ c ∧ c < (G.2.2.length : Int)) → r.2 48 0 = 1) ∧ (0 ≤ c ∧ c < (G.2.2.length : Int) → ¬ fewA G ax → r.2 48 0 = 2) ∧ (0 ≤ c ∧ c < (G.2.2.length : Int) → fewA G ax → r.2 48 0 = 0 ∧ tv r.1 (usd G ax c.toNat))) := by
  obtain ⟨hG, hax, hw, _⟩ := id h
  have hG3 := hG.2.2.1
  have hDw : ∀ {y}, lcA G ax y → wd y := fun h => (lc_wd hG hax h).1
  have hn : ∀ {M1 : zM}, mst M1 G ax cur → M1 48 7 = (G.2.2.length : Int) := fun h => h.2.2.2.1.1
  unfold F_X11_isUsed
  refine Ok.lett (Ok.b1 (FX11_isContext (hn (h.scr mscr.th)) (by omega)) (fun r hr => ?_))
  have bad : ∀ (M1 : zM) (t : Int), mscr M M1 → Ok (F_X11_isUsed_J34 t M1) (fun r => mscr M r.2 ∧ r.2 48 0 = t) := fun M1 t h1 => by
    unfold F_X11_isUsed_J34
    rw [FX11_fail]
    simp only [zb2_some]
    exact Ok.neg (by decide) (Ok.ret ⟨mfr.trans h1 mscr.th, zs_at M1 48 0 t⟩)
  have bad2 : ∀ M1 : zM, mscr M M1 → Ok (F_X11_isUsed_J20 c M1) (fun r => mscr M r.2 ∧ (¬ (0 ≤ c ∧ c < (G.2.2.length : Int)) → r.2 48 0 = 1) ∧ (0 ≤ c ∧ c < (G.2.2.length : Int) → r.2 48 0 = 2)) := fun M1 h1 => by
    unfold F_X11_isUsed_J20
    refine Ok.b1 (FX11_isContext (hn (h.scr h1)) (by omega)) (fun r hr => ?_)
    exact Ok.ite (fun q => (bad M1 1 h1).mono (fun r2 h2 => ⟨h2.1, fun _ => h2.2, fun q2 => absurd q2 (tv_0 hr q)⟩)) (fun q => (bad M1 2 h1).mono (fun r2 h2 => ⟨h2.1, fun q2 => absurd (tv_1 hr q) q2, fun _ => h2.2⟩))
  refine Ok.ite (fun q => (bad2 _ mscr.th).mono (fun r2 h2 => ⟨h2.1, h2.2.1, fun q2 => absurd q2 (tv_0 hr q), fun q2 => absurd q2 (tv_0 hr q)⟩)) (fun q => ?_)
  have hc := tv_1 hr q
  refine Ok.b2 (mfind h) (fun r1 M1 ⟨h1, h2, h3, h4, h5⟩ => ?_)
  dsimp only at h1 h2 h3 h4 h5
  refine Ok.ite (fun c1 => (bad2 _ h3).mono (fun r2 g2 => ⟨g2.1, g2.2.1, fun q2 _ => g2.2.2 q2, fun _ q2 => absurd q2 (tv_0 h1 c1)⟩)) (fun c1 => ?_)
  have hm := h2 (tv_1 h1 c1)
  have ec : c = ((c.toNat : Nat) : Int) := by omega
  refine Ok.b2 (Q := fun r => tv r.1 (usd G ax c.toNat) ∧ mfr mA0 mF0 M1 r.2) ?_ (fun r2 M2 ⟨g1, g2⟩ => ?_)
  · unfold F_X11_isUsedIn F_X11_isUsedIn_L2
    refine Ok.loop (fun z => ∃ k : Nat, z.1 = k ∧ k ≤ 29524 ∧ mfr mA0 mF0 M1 z.2 ∧ ∀ (x : Int) (r : Nat), lcA G ax x → x < k → insP G x r → r / 100 ≠ c.toNat) (fun z => (30000 - z.1).toNat) (fun e => match e with | .inl M2 => usd G ax c.toNat ∧ mfr mA0 mF0 M1 M2 | .inr M2 => ¬ usd G ax c.toNat ∧ mfr mA0 mF0 M1 M2) ⟨0, rfl, by omega, mfr.refl, fun x r h1 h2 => by have := (hDw h1).1; omega⟩ (by show (30000 - (0 : Int)).toNat < zN; decide) ?_ ?_
    · rintro ⟨v2, M2⟩ ⟨k, i1, i2, i3, i4⟩
      dsimp only at i1 i2 i3 i4 ⊢
      subst i1
      have hM2 := h5.2.2.2.1.fr i3 ⟨fun q => q, fun q => q, fun q => q, fun q => q⟩ ⟨fun q => q, fun q => q, fun q => q⟩
      have hm2 := hm.fr i3 (fun q => q) (fun q => q)
      unfold F_X11_isUsedIn_B2
      refine Ok.ite (fun q1 => Ok.chk ⟨by omega, q1⟩ ?_) (fun q1 => Ok.ret ⟨fun ⟨x, r, a1, a2, a3⟩ => i4 x r a1 (by have := (hDw a1).2; omega) a2 a3, i3⟩)
      have hk : wd (k : Int) := ⟨by omega, q1⟩
      have ht := hm2.1 k hk
      have go : ∀ M3 : zM, mfr mA0 mF0 M1 M3 → (lcA G ax k → ∀ r, insP G k r → r / 100 ≠ c.toNat) → Ok (F_X11_isUsedIn_J29 c k M3) (Turn (fun z : Int × zM => ∃ k : Nat, z.1 = k ∧ k ≤ 29524 ∧ mfr mA0 mF0 M1 z.2 ∧ ∀ (x : Int) (r : Nat), lcA G ax x → x < k → insP G x r → r / 100 ≠ c.toNat) (fun z => (30000 - z.1).toNat) (fun e : zM ⊕ zM => match e with | .inl M2 => usd G ax c.toNat ∧ mfr mA0 mF0 M1 M2 | .inr M2 => ¬ usd G ax c.toNat ∧ mfr mA0 mF0 M1 M2) ((k : Int), M2)) := fun M3 a1 a2 => by
        unfold F_X11_isUsedIn_J29
        rw [w_id (a := (k : Int) + 1) (by omega)]
        refine Ok.lett (Ok.ret ⟨⟨k + 1, by show (k : Int) + 1 = _; omega, by omega, a1, fun x r b1 b2 b3 => ?_⟩, by show (30000 - ((k : Int) + 1)).toNat < (30000 - (k : Int)).toNat; omega⟩)
        by_cases e : x = k
        · rw [e] at b1 b3; exact a2 b1 r b3
        · exact i4 x r b1 (by omega) b3
      refine Ok.ite (fun c2 => go M2 i3 (fun a1 => absurd a1 (tv_0 ht c2))) (fun c2 => ?_)
      refine Ok.b2 (Q := fun r => tv r.1 (∃ r, insP G k r ∧ r / 100 = c.toNat) ∧ mfr mA0 mF0 M2 r.2) ?_ (fun r3 M3 ⟨a1, a2⟩ => ?_)
      · rw [ec]; exact FX11_canInsert hG hM2 hk (by omega)
      · exact Ok.ite (fun c3 => go M3 (i3.trans a2) (fun _ r b1 b2 => tv_0 a1 c3 ⟨r, b1, b2⟩)) (fun c3 => Ok.ret (by
          obtain ⟨r, b1, b2⟩ := tv_1 a1 c3
          exact ⟨⟨k, r, tv_1 ht c2, b1, b2⟩, i3.trans a2⟩))
    · rintro (M2 | M2) ⟨a1, a2⟩
      · exact Ok.ret ⟨tv_t a1, a2⟩
      · exact Ok.ret ⟨tv_f a1, a2⟩
  · dsimp only at g1 g2
    exact Ok.chk (tv_b g1) (Ok.ret ⟨mfr.trans h3 (mscr.of g2 (fun b q => q.elim) (fun k q => q.elim)), fun q2 => absurd hc q2, fun _ q2 => absurd (tv_1 h1 c1) q2, fun _ _ => ⟨by show M2 48 0 = 0; rw [g2.2 0 (fun q => q) (by decide) (by decide)]; exact h4, g1⟩⟩)
theorem red_w : ∀ n : Nat, n ≤ 5 → ∀ c : Nat, c < n → 0 ≤ w (zshl 1 (n : Int) - 1 - zshl 1 (c : Int)) ∧ w (zshl 1 (n : Int) - 1 - zshl 1 (c : Int)) < 32 ∧ ∀ d : Nat, d < n → ((w (zshl 1 (n : Int) - 1 - zshl 1 (c : Int))).toNat.testBit d = true ↔ d ≠ c) := by decide +kernel
/-- what a search for some contexts gives, where the language isn't too large -/
theorem mgen {M : zM} {G : zGr} {ax : List Int} {cur v : Int} {C : Nat → Prop} (h : mst M G ax cur) (hv : 0 ≤ v ∧ v < 32) (hC : ∀ c, c < G.2.2.length → (bs v c ↔ C c)) (hf : fewA G ax) : Ok (F_X11_find v M) (fun r => mfr (fun b => b = 58) (fun k => k = 23) M r.2 ∧ (r.2 48 23 = (cnt (lcA G ax) 29524 : Int) ↔ gen G ax C)) := by
  have hlc : ∀ {y}, lc G ax (bs v) y ↔ lc G ax C y := ⟨lc_congr h.1 (fun c hc => (hC c hc).mp), lc_congr h.1 (fun c hc => (hC c hc).mpr)⟩
  refine (FX11_find h.1 h.2.2.2.1 h.2.2.2.2.1 h.2.1 hv).mono (fun r ⟨q1, q2, q3, q4⟩ => ⟨q4, ?_⟩)
  have hle : cnt (lc G ax (bs v)) 29524 ≤ cnt (lcA G ax) 29524 := cnt_le (fun k _ hk => lc_mono hk (fun _ _ => trivial))
  have hm := q2 (by unfold few; unfold fewA at hf; omega)
  rw [hm.2, gen_cnt h.1 h.2.1, cnt_congr (fun k _ => hlc (y := k))]
  omega
theorem FX11_isRedundant {M : zM} {G : zGr} {ax : List Int} {cur c : Int} (h : mst M G ax cur) : Ok (F_X11_isRedundant c M) (fun r => mscr M r.2 ∧ (¬ (0 ≤ c ∧ c < (G.2.2.length : Int)) → r.2 48 0 = 1) ∧ (0 ≤ c ∧ c < (G.2.2.length : Int) → ¬ fewA G ax → r.2 48 0 = 2) ∧ (0 ≤ c ∧ c < (G.2.2.length : Int) → fewA G ax → r.2 48 0 = 0 ∧ tv r.1 (gen G ax (fun d => d ≠ c.toNat)))) := by
  obtain ⟨hG, hax, hw, _⟩ := id h
  have hG3 := hG.2.2.1
  have hn : ∀ {M1 : zM}, mst M1 G ax cur → M1 48 7 = (G.2.2.length : Int) := fun h => h.2.2.2.1.1
  unfold F_X11_isRedundant
  refine Ok.lett (Ok.b1 (FX11_isContext (hn (h.scr mscr.th)) (by omega)) (fun r hr => ?_))
  have bad : ∀ (M1 : zM) (t : Int), mscr M M1 → Ok (F_X11_isRedundant_J34 t M1) (fun r => mscr M r.2 ∧ r.2 48 0 = t) := fun M1 t h1 => by
    unfold F_X11_isRedundant_J34
    rw [FX11_fail]
    simp only [zb2_some]
    exact Ok.neg (by decide) (Ok.ret ⟨mfr.trans h1 mscr.th, zs_at M1 48 0 t⟩)
  have bad2 : ∀ M1 : zM, mscr M M1 → Ok (F_X11_isRedundant_J20 c M1) (fun r => mscr M r.2 ∧ (¬ (0 ≤ c ∧ c < (G.2.2.length : Int)) → r.2 48 0 = 1) ∧ (0 ≤ c ∧ c < (G.2.2.length : Int) → r.2 48 0 = 2)) := fun M1 h1 => by
    unfold F_X11_isRedundant_J20
    refine Ok.b1 (FX11_isContext (hn (h.scr h1)) (by omega)) (fun r hr => ?_)
    exact Ok.ite (fun q => (bad M1 1 h1).mono (fun r2 h2 => ⟨h2.1, fun _ => h2.2, fun q2 => absurd q2 (tv_0 hr q)⟩)) (fun q => (bad M1 2 h1).mono (fun r2 h2 => ⟨h2.1, fun q2 => absurd (tv_1 hr q) q2, fun _ => h2.2⟩))
  refine Ok.ite (fun q => (bad2 _ mscr.th).mono (fun r2 h2 => ⟨h2.1, h2.2.1, fun q2 => absurd q2 (tv_0 hr q), fun q2 => absurd q2 (tv_0 hr q)⟩)) (fun q => ?_)
  have hc := tv_1 hr q
  refine Ok.b2 (mfind h) (fun r1 M1 ⟨h1, h2, h3, h4, h5⟩ => ?_)
  dsimp only at h1 h2 h3 h4 h5
  refine Ok.ite (fun c1 => (bad2 _ h3).mono (fun r2 g2 => ⟨g2.1, g2.2.1, fun q2 _ => g2.2.2 q2, fun _ q2 => absurd q2 (tv_0 h1 c1)⟩)) (fun c1 => ?_)
  have hm := h2 (tv_1 h1 c1)
  have ec : c = ((c.toNat : Nat) : Int) := by omega
  refine Ok.lett ?_
  rw [hn h5, hm.2]
  have hred := red_w G.2.2.length hG3 c.toNat (by omega)
  rw [← ec] at hred
  refine Ok.b2 (mgen (C := fun d => d ≠ c.toNat) h5 ⟨hred.1, hred.2.1⟩ hred.2.2 (tv_1 h1 c1)) (fun r2 M2 ⟨g1, g2⟩ => ?_)
  dsimp only at g1 g2
  have hs2 : mscr M M2 := mfr.trans h3 (mscr.of g1 (fun b q => by omega) (fun k q => by omega))
  have ht2 : M2 48 0 = 0 := by rw [g1.2 0 (by decide) (by decide) (by decide)]; exact h4
  exact Ok.ite (fun q2 => Ok.ret ⟨hs2, fun q3 => absurd hc q3, fun _ q3 => absurd (tv_1 h1 c1) q3, fun _ _ => ⟨ht2, tv_t (g2.mp q2)⟩⟩) (fun q2 => Ok.ret ⟨hs2, fun q3 => absurd hc q3, fun _ q3 => absurd (tv_1 h1 c1) q3, fun _ _ => ⟨ht2, tv_f (fun q3 => q2 (g2.mpr q3))⟩⟩)
/-- the number of bits, as the machine counts them -/
def bcf (z : Int) : Int := (F_J6_bitCount_0f7a4 z).getD 0
theorem bcf_n : ∀ z : Nat, z < 32 → F_J6_bitCount_0f7a4 (z : Int) = some (bcf (z : Int)) := by decide +kernel
theorem bcf_e {z : Int} (h : 0 ≤ z ∧ z < 32) : F_J6_bitCount_0f7a4 z = some (bcf z) := by
  have := bcf_n z.toNat (by omega)
  rw [show ((z.toNat : Nat) : Int) = z by omega] at this
  exact this
/-- the smallest set, the smallest mask of several -/
def minP (G : zGr) (ax : List Int) (m : Int) : Prop := (0 ≤ m ∧ m < (2 : Int) ^ G.2.2.length) ∧ gen G ax (bs m) ∧ ∀ m2 : Int, 0 ≤ m2 → m2 < (2 : Int) ^ G.2.2.length → gen G ax (bs m2) → bcf m < bcf m2 ∨ (bcf m = bcf m2 ∧ m ≤ m2)
theorem minP_u {G : zGr} {ax : List Int} {a b : Int} (ha : minP G ax a) (hb : minP G ax b) : a = b := by
  have h1 := ha.2.2 b hb.1.1 hb.1.2 hb.2.1
  have h2 := hb.2.2 a ha.1.1 ha.1.2 ha.2.1
  omega
theorem gen_all {G : zGr} {ax : List Int} (hG : grok G) : gen G ax (bs ((2 : Int) ^ G.2.2.length - 1)) := fun y hy => (lcA_all hG).mpr hy
theorem FX11_minimalContexts {M : zM} {G : zGr} {ax : List Int} {cur : Int} (h : mst M G ax cur) : Ok (F_X11_minimalContexts M) (fun r => mscr M r.2 ∧ (fewA G ax → r.2 48 0 = 0 ∧ minP G ax r.1) ∧ (¬ fewA G ax → r.2 48 0 = 1)) := by
  obtain ⟨hG, hax, hw, _⟩ := id h
  have hG3 := hG.2.2.1
  have hp5 := pow5 hG3
  unfold F_X11_minimalContexts
  refine Ok.lett (Ok.b2 (mfind h) (fun r M1 ⟨h1, h2, h3, h4, h5⟩ => ?_))
  dsimp only at h1 h2 h3 h4 h5
  refine Ok.ite (fun c => ?_) (fun c => ?_)
  · rw [FX11_fail]
    simp only [zb2_some]
    exact Ok.ret ⟨mfr.trans h3 mscr.th, fun q => absurd q (tv_0 h1 c), fun _ => zs_at M1 48 0 1⟩
  have hfew := tv_1 h1 c
  have hm := h2 hfew
  refine Ok.lett ?_
  rw [h5.2.2.2.1.1, all_w _ hG3, hm.2]
  refine Ok.lett (Ok.lett ?_)
  generalize hN : (2 : Int) ^ G.2.2.length = N at hp5
  rw [w_id (a := N - 1 - 1) (by omega)]
  unfold F_X11_minimalContexts_L36
  refine Ok.loop (fun z => -1 ≤ z.2.1 ∧ z.2.1 < z.1 ∧ z.1 < N ∧ gen G ax (bs z.1) ∧ (∀ m2 : Int, z.2.1 < m2 → m2 < N → gen G ax (bs m2) → bcf z.1 < bcf m2 ∨ (bcf z.1 = bcf m2 ∧ z.1 ≤ m2)) ∧ mfr (fun b => b = 58) (fun k => k = 23) M1 z.2.2) (fun z => (z.2.1 + 1).toNat) (fun e => minP G ax e.1 ∧ mfr (fun b => b = 58) (fun k => k = 23) M1 e.2) ⟨by show -1 ≤ N - 1 - 1; omega, by show N - 1 - 1 < N - 1; omega, by show N - 1 < N; omega, by show gen G ax (bs (N - 1)); rw [← hN]; exact gen_all hG, fun m2 q1 q2 q3 => ?_, mfr.refl⟩ (by show (N - 1 - 1 + 1).toNat < zN; rw [zN_v]; omega) ?_ ?_
  · change N - 1 - 1 < m2 at q1
    show bcf (N - 1) < bcf m2 ∨ _
    rw [show m2 = N - 1 by omega]
    exact Or.inr ⟨rfl, Int.le_refl _⟩
  · rintro ⟨v2, v3, M2⟩ ⟨i1, i2, i3, i4, i5, i6⟩
    dsimp only at i1 i2 i3 i4 i5 i6 ⊢
    unfold F_X11_minimalContexts_B36
    refine Ok.ite (fun q => Ok.ret ⟨⟨⟨by show 0 ≤ v2; omega, by show v2 < _; rw [hN]; omega⟩, i4, fun m2 q1 q2 q3 => i5 m2 (by omega) (by rw [hN] at q2; exact q2) q3⟩, i6⟩) (fun q => ?_)
    rw [bcf_e (z := v3) (by omega), bcf_e (z := v2) (by omega)]
    simp only [zb1_some]
    have go : ∀ (m : Int) (M3 : zM), v3 - 1 < m → m < N → gen G ax (bs m) → (∀ m2 : Int, v3 - 1 < m2 → m2 < N → gen G ax (bs m2) → bcf m < bcf m2 ∨ (bcf m = bcf m2 ∧ m ≤ m2)) → mfr (fun b => b = 58) (fun k => k = 23) M1 M3 → Ok (F_X11_minimalContexts_J71 (cnt (lcA G ax) 29524 : Int) m v3 M3) (Turn (fun z : Int × Int × zM => -1 ≤ z.2.1 ∧ z.2.1 < z.1 ∧ z.1 < N ∧ gen G ax (bs z.1) ∧ (∀ m2 : Int, z.2.1 < m2 → m2 < N → gen G ax (bs m2) → bcf z.1 < bcf m2 ∨ (bcf z.1 = bcf m2 ∧ z.1 ≤ m2)) ∧ mfr (fun b => b = 58) (fun k => k = 23) M1 z.2.2) (fun z => (z.2.1 + 1).toNat) (fun e : Int × zM => minP G ax e.1 ∧ mfr (fun b => b = 58) (fun k => k = 23) M1 e.2) (v2, v3, M2)) := fun m M3 a1 a2 a3 a4 a5 => by
      unfold F_X11_minimalContexts_J71
      rw [w_id (a := v3 + (-1)) (by omega)]
      exact Ok.lett (Ok.ret ⟨⟨by show -1 ≤ v3 + -1; omega, by show v3 + -1 < m; omega, a2, a3, fun m2 b1 b2 b3 => a4 m2 (by change v3 + -1 < m2 at b1; omega) b2 b3, a5⟩, by show (v3 + -1 + 1).toNat < (v3 + 1).toNat; omega⟩)
    refine Ok.ite (fun q1 => go v2 M2 (by omega) i3 i4 (fun m2 b1 b2 b3 => ?_) i6) (fun q1 => ?_)
    · by_cases e : m2 = v3
      · rw [e]; exact Or.inl q1
      · exact i5 m2 (by omega) b2 b3
    · have hst2 : mst M2 G ax cur := h5.scr (mscr.of i6 (fun b q => by omega) (fun k q => by omega))
      refine Ok.b2 (mgen (C := bs v3) hst2 (by omega) (fun _ _ => Iff.rfl) hfew) (fun r2 M3 ⟨g1, g2⟩ => ?_)
      dsimp only at g1 g2
      unfold F_X11_minimalContexts_J70
      refine Ok.ite (fun q2 => go v3 M3 (by omega) (by omega) (g2.mp q2) (fun m2 b1 b2 b3 => ?_) (i6.trans g1)) (fun q2 => go v2 M3 (by omega) i3 i4 (fun m2 b1 b2 b3 => ?_) (i6.trans g1))
      · by_cases e : m2 = v3
        · rw [e]; exact Or.inr ⟨rfl, Int.le_refl _⟩
        · have := i5 m2 (by omega) b2 b3
          omega
      · by_cases e : m2 = v3
        · rw [e] at b3; exact absurd (g2.mpr b3) q2
        · exact i5 m2 (by omega) b2 b3
  · rintro ⟨v2, M2⟩ ⟨g1, g2⟩
    unfold F_X11_minimalContexts_J77
    dsimp only at g1 g2
    exact Ok.ret ⟨mfr.trans h3 (mscr.of g2 (fun b q => by omega) (fun k q => by omega)), fun _ => ⟨by show M2 48 0 = 0; rw [g2.2 0 (by decide) (by decide) (by decide)]; exact h4, g1⟩, fun q => absurd hfew q⟩
