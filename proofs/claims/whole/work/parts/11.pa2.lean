/-! PURE 11: the reference finds a language -/
def bs (z : Int) (c : Nat) : Prop := z.toNat.testBit c = true
theorem zbit : ∀ z : Nat, z < 32 → ∀ c : Nat, c < 5 → (zand (zshr (z : Int) (c : Int)) 1 = 1 ↔ z.testBit c = true) := by decide +kernel
theorem zbit_i {v : Int} (hv : 0 ≤ v ∧ v < 32) {c : Nat} (hc : c < 5) : zand (zshr v c) 1 = 1 ↔ bs v c := by
  have h := zbit v.toNat (by omega) c hc
  rw [show ((v.toNat : Nat) : Int) = v by omega] at h
  exact h
/-- what find has reached before word w -/
def lngI (G : zGr) (ax : List Int) (v : Int) (M M1 : zM) (D : Int → Prop) (w : Int) : Prop := mfr (fun b => b = 58) (fun k => k = 23) M M1 ∧ mrk M1 D ∧ (∀ y, D y → lc G ax (bs v) y) ∧ (∀ a ∈ ax, ln a ≤ G.1 → D a) ∧ ∀ x, wd x → x < w → D x → ∀ r, insP G x r → bs v (r / 100) → D (insV G x r)
theorem FX11_find {M : zM} {G : zGr} {ax : List Int} {v : Int} (hG : grok G) (hM : gM M G) (hA : axM M ax) (hax : axok ax) (hv : 0 ≤ v ∧ v < 32) : Ok (F_X11_find v M) (fun r => tv r.1 (few G ax (bs v)) ∧ (few G ax (bs v) → mrk r.2 (lc G ax (bs v))) ∧ (¬ few G ax (bs v) → 300 < r.2 48 23) ∧ mfr (fun b => b = 58) (fun k => k = 23) M r.2) := by
  have hG1 := hG.1
  have hG3 := hG.2.2.1
  obtain ⟨hA1, hA2⟩ := hA
  unfold F_X11_find F_X11_find_L2
  refine Ok.loop (fun z => ∃ w : Nat, z.1 = w ∧ w ≤ 29524 ∧ mfr (fun b => b = 58) (fun k => k = 23) M z.2 ∧ ∀ y : Int, 0 ≤ y → y < w → z.2 58 y = 0) (fun z => (30000 - z.1).toNat) (fun M1 => mfr (fun b => b = 58) (fun k => k = 23) M M1 ∧ ∀ y, wd y → M1 58 y = 0) ⟨0, rfl, by omega, mfr.refl, fun y h1 h2 => by omega⟩ (by show (30000 - (0 : Int)).toNat < zN; decide) ?_ ?_
  · rintro ⟨v2, M1⟩ ⟨w1, i1, i2, i3, i4⟩
    dsimp only at i1 i2 i3 i4 ⊢
    subst i1
    unfold F_X11_find_B2
    refine Ok.ite (fun q => Ok.chk ⟨by omega, q⟩ (Ok.lett (Ok.lett (Ok.ret ?_)))) (fun q => Ok.ret ⟨i3, fun y hy => i4 y hy.1 (by have := hy.2; omega)⟩)
    rw [w_id (a := (w1 : Int) + 1) (by omega)]
    refine ⟨⟨w1 + 1, by show (w1 : Int) + 1 = _; omega, by omega, i3.trans (mfr.cell rfl (by decide)), fun y h1 h2 => ?_⟩, by show (30000 - ((w1 : Int) + 1)).toNat < (30000 - (w1 : Int)).toNat; omega⟩
    show zs M1 58 w1 0 58 y = 0
    by_cases e : y = w1
    · rw [e, zs_at]
    · rw [zs_off _ _ (Or.inr e)]; exact i4 y h1 (by omega)
  intro M1 ⟨hf1, hz1⟩
  unfold F_X11_find_J22
  refine Ok.lett ?_
  have hm2 : mrk (zs M1 48 23 0) (fun y => y ∈ ax.take 0 ∧ ln y ≤ G.1) := by
    refine ⟨fun y hy => ?_, ?_⟩
    · rw [zs_ne _ _ _ (by decide), hz1 y hy]
      exact tv_f (fun q => by simp at q)
    · rw [zs_at]
      have h0 : cnt (fun y => y ∈ ax.take 0 ∧ ln y ≤ G.1) 29524 ≤ 0 := by
        have := cnt_le (D := fun y => y ∈ ax.take 0 ∧ ln y ≤ G.1) (E := fun y => y < 0) (n := 29524) (fun k _ q => by simp at q)
        have h2 : cnt (fun y : Int => y < 0) 29524 = 0 := by
          have h3 : ∀ n : Nat, cnt (fun y : Int => y < 0) n = 0 := fun n => by
            induction n with
            | zero => rfl
            | succ n ih => rw [cnt_f (by omega)]; exact ih
          exact h3 _
        omega
      omega
  unfold F_X11_find_L29
  refine Ok.loop (fun z => ∃ i : Nat, z.1 = i ∧ i ≤ ax.length ∧ mfr (fun b => b = 58) (fun k => k = 23) M z.2 ∧ mrk z.2 (fun y => y ∈ ax.take i ∧ ln y ≤ G.1)) (fun z => (30 - z.1).toNat) (fun M1 => mfr (fun b => b = 58) (fun k => k = 23) M M1 ∧ mrk M1 (fun y => y ∈ ax ∧ ln y ≤ G.1)) ⟨0, rfl, by omega, hf1.trans (mfr.fld rfl), hm2⟩ (by show (30 - (0 : Int)).toNat < zN; decide) ?_ ?_
  · rintro ⟨v2, M3⟩ ⟨i, i1, i2, i3, i4⟩
    dsimp only at i1 i2 i3 i4 ⊢
    subst i1
    have hax6 := hax.1
    unfold F_X11_find_B29
    rw [i3.2 2 (by decide) (by decide) (by decide), hA1, i3.1 49 (by decide) (by decide) (by decide) (by decide), i3.2 9 (by decide) (by decide) (by decide), hM.2.2.1]
    refine Ok.ite (fun q => ?_) (fun q => Ok.ret ⟨i3, by have e : i = ax.length := by omega
                                                         subst e; rw [List.take_length] at i4; exact i4⟩)
    have hi : i < ax.length := by omega
    have hg := List.getElem?_eq_getElem hi
    have hmem := List.getElem_mem hi
    rw [hA2 i _ hg]
    have htk : ∀ y, y ∈ ax.take (i + 1) ↔ y ∈ ax.take i ∨ y = ax[i] := fun y => by rw [List.take_succ_eq_append_getElem hi, List.mem_append, List.mem_singleton]
    generalize ax[i] = a at hg hmem htk
    have hwa := axok_wd hax hmem
    rw [FX11_lengthOf hwa]
    simp only [zb1_some]
    have go : ∀ M4 : zM, mfr (fun b => b = 58) (fun k => k = 23) M M4 → mrk M4 (fun y => y ∈ ax.take (i + 1) ∧ ln y ≤ G.1) → Ok (F_X11_find_J63 v i M4) (Turn (fun z : Int × zM => ∃ i : Nat, z.1 = i ∧ i ≤ ax.length ∧ mfr (fun b => b = 58) (fun k => k = 23) M z.2 ∧ mrk z.2 (fun y => y ∈ ax.take i ∧ ln y ≤ G.1)) (fun z => (30 - z.1).toNat) (fun M1 => mfr (fun b => b = 58) (fun k => k = 23) M M1 ∧ mrk M1 (fun y => y ∈ ax ∧ ln y ≤ G.1)) ((i : Int), M3)) := fun M4 h1 h2 => by
      unfold F_X11_find_J63
      refine Ok.lett (Ok.ret ?_)
      rw [w_id (a := (i : Int) + 1) (by omega)]
      exact ⟨⟨i + 1, by show (i : Int) + 1 = _; omega, by omega, h1, h2⟩, by show (30 - ((i : Int) + 1)).toNat < (30 - (i : Int)).toNat; omega⟩
    refine Ok.chk (by omega) (Ok.ite (fun q1 => go M3 i3 (i4.congr (fun y _ => ⟨fun h => ⟨(htk y).mpr (Or.inl h.1), h.2⟩, fun h => ⟨?_, h.2⟩⟩))) (fun q1 => Ok.chk (by omega) (Ok.b1 (FX11_enter i4 hwa) (fun M4 ⟨k1, k2, k3⟩ => go M4 (i3.trans ⟨fun b h1 h2 _ _ => k2 b h2 h1, fun k h1 _ _ => k3 k h1⟩) (k1.congr (fun y _ => ⟨fun h => ?_, fun h => ?_⟩))))))
    · rcases (htk y).mp h.1 with h1 | h1
      · exact h1
      · rw [h1] at h; omega
    · rcases h with h | h
      · exact ⟨(htk y).mpr (Or.inl h.1), h.2⟩
      · rw [h]; exact ⟨(htk a).mpr (Or.inr rfl), by omega⟩
    · rcases (htk y).mp h.1 with h1 | h1
      · exact Or.inl ⟨h1, h.2⟩
      · exact Or.inr h1
  intro M3 ⟨hf3, hm3⟩
  unfold F_X11_find_J69 F_X11_find_L71
  refine Ok.loop (fun z => ∃ (w1 : Nat) (D : Int → Prop), z.1 = w1 ∧ w1 ≤ 29524 ∧ lngI G ax v M z.2 D w1) (fun z => (30000 - z.1).toNat) (fun M1 => ∃ D : Int → Prop, (300 < cnt D 29524 ∧ lngI G ax v M M1 D 0) ∨ lngI G ax v M M1 D 29524) ⟨0, _, rfl, by omega, hf3, hm3, fun y hy => lc_ax hy.1 hy.2, fun a ha hl => ⟨ha, hl⟩, fun x h1 h2 => by have := h1.1; omega⟩ (by show (30000 - (0 : Int)).toNat < zN; decide) ?_ ?_
  · rintro ⟨v2, M4⟩ ⟨w1, D, i1, i2, i3⟩
    dsimp only at i1 i2 i3 ⊢
    subst i1
    unfold F_X11_find_B71
    refine Ok.ite (fun q => ?_) (fun q => Ok.ret ⟨D, Or.inr (by rw [show (29524 : Int) = w1 by omega]; exact i3)⟩)
    refine Ok.ite (fun q1 => Ok.ret ⟨D, Or.inl ⟨by have := i3.2.1.2; omega, i3.1, i3.2.1, i3.2.2.1, i3.2.2.2.1, fun x h1 h2 => by have := h1.1; omega⟩⟩) (fun q1 => ?_)
    have hww : wd (w1 : Int) := ⟨by omega, q⟩
    unfold F_X11_find_L90
    refine Ok.loop (fun z => ∃ (c : Nat) (E : Int → Prop), z.1 = c ∧ c ≤ G.2.2.length ∧ lngI G ax v M z.2 E w1 ∧ (E w1 → ∀ r, r < 100 * c → insP G w1 r → bs v (r / 100) → E (insV G w1 r))) (fun z => (30 - z.1).toNat) (fun M1 => ∃ E : Int → Prop, lngI G ax v M M1 E ((w1 + 1 : Nat) : Int)) ⟨0, D, rfl, by omega, i3, fun _ r h => by omega⟩ (by show (30 - (0 : Int)).toNat < zN; decide) ?_ ?_
    · rintro ⟨v3, M5⟩ ⟨c, E, j1, j2, j3, j4⟩
      dsimp only at j1 j2 j3 j4 ⊢
      subst j1
      obtain ⟨k1, k2, k3, k4, k5⟩ := id j3
      have hM5 := hM.fr k1 ⟨by decide, by decide, by decide, by decide⟩ ⟨by decide, by decide, by decide⟩
      have htw := k2.1 w1 hww
      unfold F_X11_find_B90
      rw [hM5.1]
      -- below the next word
      have clo : (E w1 → ∀ r, insP G w1 r → bs v (r / 100) → E (insV G w1 r)) → lngI G ax v M M5 E ((w1 + 1 : Nat) : Int) := fun h => ⟨k1, k2, k3, k4, fun x hx hlt hE r hp hb => by
        by_cases e : x = w1
        · rw [e] at hE hp ⊢; exact h hE r hp hb
        · exact k5 x hx (by omega) hE r hp hb⟩
      refine Ok.ite (fun q2 => Ok.chk ⟨by omega, q⟩ (Ok.ite (fun q3 => Ok.ret ⟨E, clo (fun h => absurd h (tv_0 htw q3))⟩) (fun q3 => ?_))) (fun q2 => Ok.ret ⟨E, clo (fun h r hp hb => j4 h r (by have := (insV_r hG hww hp).2.2.2.1; omega) hp hb)⟩)
      have hEw := tv_1 htw q3
      have hc : c < G.2.2.length := by omega
      have go : ∀ (M6 : zM) (E2 : Int → Prop), lngI G ax v M M6 E2 w1 → (E2 w1 → ∀ r, r < 100 * (c + 1) → insP G w1 r → bs v (r / 100) → E2 (insV G w1 r)) → Ok (F_X11_find_J122 v w1 c M6) (Turn (fun z : Int × zM => ∃ (c : Nat) (E : Int → Prop), z.1 = c ∧ c ≤ G.2.2.length ∧ lngI G ax v M z.2 E w1 ∧ (E w1 → ∀ r, r < 100 * c → insP G w1 r → bs v (r / 100) → E (insV G w1 r))) (fun z => (30 - z.1).toNat) (fun M1 => ∃ E : Int → Prop, lngI G ax v M M1 E ((w1 + 1 : Nat) : Int)) ((c : Int), M5)) := fun M6 E2 h1 h2 => by
        unfold F_X11_find_J122
        refine Ok.lett (Ok.ret ?_)
        rw [w_id (a := (c : Int) + 1) (by omega)]
        exact ⟨⟨c + 1, E2, by show (c : Int) + 1 = _; omega, by omega, h1, h2⟩, by show (30 - ((c : Int) + 1)).toNat < (30 - (c : Int)).toNat; omega⟩
      refine Ok.ite (fun q4 => ?_) (fun q4 => go M5 E j3 (fun h r hr hp hb => ?_))
      · have hbit := (zbit_i hv (by omega)).mp q4
        refine Ok.b1 (FX11_grow hG hM5 hww hc k2) (fun M6 ⟨m1, m2⟩ => go M6 _ ⟨k1.trans m2, m1, ?_, fun a ha hl => Or.inl (k4 a ha hl), ?_⟩ ?_)
        · rintro y (h | ⟨r, h1, h2, h3, rfl⟩)
          · exact k3 y h
          · exact lc_ins (k3 _ hEw) h3 (by rw [show r / 100 = c by omega]; exact hbit)
        · rintro x hx hlt (h | ⟨r, h1, h2, h3, rfl⟩) r2 hp hb
          · exact Or.inl (k5 x hx hlt h r2 hp hb)
          · have := (insV_r hG hww h3).2.2.2.2; omega
        · intro h r hr hp hb
          by_cases e : r < 100 * c
          · exact Or.inl (j4 hEw r e hp hb)
          · exact Or.inr ⟨r, by omega, hr, hp, rfl⟩
      · by_cases e : r < 100 * c
        · exact j4 h r e hp hb
        · rw [show r / 100 = c by omega] at hb
          exact absurd ((zbit_i hv (by omega)).mpr hb) q4
    · intro M5 ⟨E, hE⟩
      unfold F_X11_find_J128
      refine Ok.lett (Ok.ret ?_)
      rw [w_id (a := (w1 : Int) + 1) (by omega)]
      exact ⟨⟨w1 + 1, E, by show (w1 : Int) + 1 = _; omega, by omega, hE⟩, by show (30000 - ((w1 : Int) + 1)).toNat < (30000 - (w1 : Int)).toNat; omega⟩
  · intro M4 ⟨D, hD⟩
    have fin : lngI G ax v M M4 D 29524 → mrk M4 (lc G ax (bs v)) := fun ⟨k1, k2, k3, k4, k5⟩ => k2.congr (fun y hy => ⟨k3 y, fun h => (h (fun y => wd y ∧ D y) (fun a ha hl => ⟨axok_wd hax ha, k4 a ha hl⟩) (fun x r hx hp hb => ⟨(insV_r hG hx.1 hp).1, k5 x hx.1 hx.1.2 hx.2 r hp hb⟩)).2⟩)
    have hle : lngI G ax v M M4 D 0 → cnt D 29524 ≤ cnt (lc G ax (bs v)) 29524 := fun ⟨k1, k2, k3, k4, k5⟩ => cnt_le (fun k _ => k3 k)
    unfold F_X11_find_J134
    rcases hD with ⟨h3, hD⟩ | hD
    · have hm := hD.2.1.2
      have hl := hle hD
      have hn : ¬ few G ax (bs v) := fun q => by unfold few at q; omega
      exact Ok.pos (by omega) (Ok.ret ⟨tv_f hn, fun q => absurd q hn, fun _ => by show 300 < M4 48 23; omega, hD.1⟩)
    · have hm := fin hD
      have hm2 := hm.2
      refine Ok.ite (fun q => Ok.ret ⟨tv_f (fun q2 => by unfold few at q2; omega), fun _ => hm, fun _ => q, hD.1⟩) (fun q => Ok.ret ⟨tv_t (by unfold few; omega), fun _ => hm, fun q2 => by unfold few at q2; omega, hD.1⟩)
