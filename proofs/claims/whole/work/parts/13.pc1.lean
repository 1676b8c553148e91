/-! PURE 28: the reference: how far a word is from the current one -/
def pth (G : zGr) : Nat → Int → Int → Prop
  | 0, y, z => y = z
  | n + 1, y, z => ∃ r : Nat, insP G y r ∧ pth G n (insV G y r) z
theorem pth_ln {G : zGr} (hG : grok G) : ∀ {n : Nat} {y z : Int}, wd y → pth G n y z → ln y + n ≤ ln z
  | 0, y, z, _, h => by have h : y = z := h; subst h; omega
  | n + 1, y, z, hy, ⟨r, hp, h⟩ => by
    have hv := insV_r hG hy hp
    have := pth_ln hG hv.1 h
    omega
theorem pth_9 {G : zGr} (hG : grok G) {n : Nat} {y z : Int} (hy : wd y) (h : pth G n y z) : n ≤ 9 := by
  have h1 := pth_ln hG hy h
  have := ln_b y
  have := ln_b z
  omega
theorem pth_le {G : zGr} (hG : grok G) : ∀ {n : Nat} {y z : Int}, wd y → pth G n y z → y ≤ z
  | 0, y, z, _, h => by have h : y = z := h; omega
  | n + 1, y, z, hy, ⟨r, hp, h⟩ => by
    have hv := insV_r hG hy hp
    have := pth_le hG hv.1 h
    omega
theorem pth_app {G : zGr} : ∀ {n : Nat} {y z : Int} {r : Nat}, pth G n y z → insP G z r → pth G (n + 1) y (insV G z r)
  | 0, y, z, r, h, hp => by
    have h : y = z := h
    subst h
    exact ⟨r, hp, rfl⟩
  | n + 1, y, z, r, ⟨r2, h1, h2⟩, hp => ⟨r2, h1, pth_app h2 hp⟩
/-- the number of insertions from y to cur, -1 if there is no way -/
def isFar (G : zGr) (cur y v : Int) : Prop := (v = -1 ∧ ∀ n : Nat, ¬ pth G n y cur) ∨ ∃ n : Nat, v = n ∧ pth G n y cur ∧ ∀ m : Nat, pth G m y cur → n ≤ m
theorem isFar_n {G : zGr} {cur y v : Int} {n : Nat} (h : isFar G cur y v) (hp : pth G n y cur) (hm : ∀ m : Nat, pth G m y cur → n ≤ m) : v = n := by
  rcases h with ⟨_, h⟩ | ⟨k, h1, h2, h3⟩
  · exact absurd hp (h n)
  · have := h3 n hp
    have := hm k h2
    omega
theorem mtr {M : zM} {G : zGr} {x L R : Int} {r : Nat} {pr : List Int} {β : Type} {A B : Option β} {k : Int → Option β} {P : β → Prop} (hG : grok G) (hM : gM M G) (hx : wd x) (hget : G.2.2[r / 100]? = some (L, R, pr)) (hfit : fitd M pr x) (h1 : ¬ insP G x r → Ok A P) (h2 : ¬ insP G x r → Ok B P) (h3 : insP G x r → Ok (k (insV G x r)) P) : Ok (zb1 (F_X11_hasRoom ((r / 100 : Nat) : Int) M) fun r3 => if r3 = 0 then A else zb1 (F_X11_isFactor ((r % 100 : Nat) : Int) M) fun r6 => if r6 = 0 then B else zb1 (F_X11_isSelected (rs r) (re r) M) fun r9 => if r9 = 0 then B else zb1 (F_X11_inserted ((r / 100 : Nat) : Int) (rs r) (re r) M) k) P := by
  have er : r = 100 * (r / 100) + r % 100 := by omega
  have hf : r % 100 < 100 := by omega
  have e1 : zdiv ((r % 100 : Nat) : Int) 10 = rs r := by rw [zdiv_e (by omega) (by omega) (by decide) (by decide)]; unfold rs; omega
  have e2 : zrem ((r % 100 : Nat) : Int) 10 = re r := by rw [zrem_e (by omega) (by omega) (by decide) (by decide)]; unfold re; omega
  have h := mturn (c := r / 100) (f := r % 100) (A := A) (B := B) (k := k) (P := P) hG hM hx hget hfit hf (fun hn => h1 (hn r (by omega) (by omega))) (fun hn => h2 (by rw [← er] at hn; exact hn)) (fun hp => by rw [← er] at hp ⊢; exact h3 hp)
  rw [e1, e2] at h
  exact h
def mfar (b : Nat) : Prop := b = 63
theorem FX11_findFar {M : zM} {G : zGr} {ax : List Int} {cur : Int} (h : mst M G ax cur) (hm : mrk M (lcA G ax)) (hD : lcA G ax cur) : Ok (F_X11_findFar M) (fun M1 => mfr mfar mF0 M M1 ∧ ∀ y, wd y → (lcA G ax y → isFar G cur y (M1 63 y)) ∧ (¬ lcA G ax y → M1 63 y = -1)) := by
  obtain ⟨hG, hax, hw, hM, hA, hcu⟩ := id h
  have hG3 := hG.2.2.1
  have hw0 := hw.1
  have hw1 := hw.2
  have hDw : ∀ {y}, lcA G ax y → wd y := fun h => (lc_wd hG hax h).1
  have hDi : ∀ {x r}, lcA G ax x → insP G x r → lcA G ax (insV G x r) := fun h hp => lc_ins h hp trivial
  have hfr : ∀ {M3 : zM}, mfr mfar mF0 M M3 → gM M3 G ∧ mrk M3 (lcA G ax) ∧ M3 48 29 = cur := fun h => ⟨hM.fr h ⟨by unfold mfar; omega, by unfold mfar; omega, by unfold mfar; omega, by unfold mfar; omega⟩ ⟨fun q => q, fun q => q, fun q => q⟩, hm.fr h (by unfold mfar; omega) (fun q => q), by rw [h.2 29 (fun q => q) (by decide) (by decide)]; exact hcu⟩
  have hself : isFar G cur cur 0 := Or.inr ⟨0, rfl, rfl, fun m _ => Nat.zero_le m⟩
  have hbig : ∀ y, wd y → cur < y → isFar G cur y (-1) := fun y hy hlt => Or.inl ⟨rfl, fun n hp => by have := pth_le hG hy hp; omega⟩
  unfold F_X11_findFar F_X11_findFar_L2
  refine Ok.loop (fun z => ∃ k : Nat, z.1 = k ∧ k ≤ 29524 ∧ mfr mfar mF0 M z.2 ∧ ∀ y, wd y → y < k → z.2 63 y = if y = cur then 0 else -1) (fun z => (30000 - z.1).toNat) (fun M3 => mfr mfar mF0 M M3 ∧ ∀ y, wd y → M3 63 y = if y = cur then 0 else -1) ⟨0, rfl, by omega, mfr.refl, fun y hy h => by have := hy.1; omega⟩ (by show (30000 - (0 : Int)).toNat < zN; decide) ?_ ?_
  · rintro ⟨v1, M1⟩ ⟨k, i1, i2, i3, i4⟩
    dsimp only at i1 i2 i3 i4 ⊢
    subst i1
    unfold F_X11_findFar_B2 F_X11_findFar_J27
    rw [(hfr i3).2.2]
    have go : ∀ v : Int, v = (if (k : Int) = cur then 0 else -1) → (k : Int) < 29524 → Turn (fun z : Int × zM => ∃ k : Nat, z.1 = k ∧ k ≤ 29524 ∧ mfr mfar mF0 M z.2 ∧ ∀ y, wd y → y < k → z.2 63 y = if y = cur then 0 else -1) (fun z => (30000 - z.1).toNat) (fun M3 => mfr mfar mF0 M M3 ∧ ∀ y, wd y → M3 63 y = if y = cur then 0 else -1) ((k : Int), M1) (.inl (w ((k : Int) + 1), zs M1 63 k v)) := fun v hv hlt => by
      rw [w_id (a := (k : Int) + 1) (by omega)]
      refine ⟨⟨k + 1, by show (k : Int) + 1 = _; omega, by omega, i3.trans (mfr.cell rfl (by decide)), fun y h1 h2 => ?_⟩, by show (30000 - ((k : Int) + 1)).toNat < (30000 - (k : Int)).toNat; omega⟩
      show zs M1 63 k v 63 y = _
      by_cases e : y = k
      · rw [e, zs_at]; exact hv
      · rw [zs_off _ _ (Or.inr e)]; exact i4 y h1 (by omega)
    refine Ok.ite (fun q => Ok.ite (fun q1 => Ok.chk ⟨by omega, q⟩ (Ok.lett (Ok.lett (Ok.ret (go 0 (by rw [if_pos q1]) q))))) (fun q1 => Ok.chk ⟨by omega, q⟩ (Ok.lett (Ok.lett (Ok.ret (go (-1) (by rw [if_neg q1]) q)))))) (fun q => Ok.ret ⟨i3, fun y hy => i4 y hy (by have := hy.2; omega)⟩)
  intro M1 ⟨hf1, hz1⟩
  unfold F_X11_findFar_J34
  rw [(hfr hf1).2.2, w_id (a := cur - 1) (by omega)]
  refine Ok.lett ?_
  unfold F_X11_findFar_L41
  refine Ok.loop (fun z => -1 ≤ z.1 ∧ z.1 < cur ∧ mfr mfar mF0 M z.2 ∧ ∀ y, wd y → (z.1 < y → (lcA G ax y → isFar G cur y (z.2 63 y)) ∧ (¬ lcA G ax y → z.2 63 y = -1)) ∧ (y ≤ z.1 → z.2 63 y = -1)) (fun z => (z.1 + 1).toNat) _ ⟨by show -1 ≤ cur - 1; omega, by show cur - 1 < cur; omega, hf1, fun y hy => ⟨fun hlt => ?_, fun hle => ?_⟩⟩ (by show (cur - 1 + 1).toNat < zN; rw [zN_v]; omega) ?_ (fun e he => Ok.ret he)
  · change cur - 1 < y at hlt
    show (lcA G ax y → isFar G cur y (M1 63 y)) ∧ (¬ lcA G ax y → M1 63 y = -1)
    rw [hz1 y hy]
    by_cases e : y = cur
    · rw [if_pos e, e]; exact ⟨fun _ => hself, fun a => absurd hD a⟩
    · rw [if_neg e]; exact ⟨fun _ => hbig y hy (by omega), fun _ => rfl⟩
  · change y ≤ cur - 1 at hle
    show M1 63 y = -1
    rw [hz1 y hy, if_neg (by omega)]
  rintro ⟨k, M2⟩ ⟨i1, i2, i3, i4⟩
  dsimp only at i1 i2 i3 i4 ⊢
  unfold F_X11_findFar_B41
  refine Ok.ite (fun q => Ok.ret ⟨i3, fun y hy => (i4 y hy).1 (by have := hy.1; omega)⟩) (fun q => ?_)
  have hk : wd k := ⟨by omega, by omega⟩
  unfold F_X11_findFar_L47
  -- after the insertions before R
  refine Ok.loop (fun z => ∃ c : Nat, z.1 = c ∧ c ≤ G.2.2.length ∧ mfr mfar mF0 M z.2 ∧ (lcA G ax k ∨ (c = 0 ∧ z.2 63 k = -1)) ∧ (∀ y, wd y → y ≠ k → z.2 63 y = M2 63 y) ∧ ((z.2 63 k = -1 ∧ ∀ r, r < 100 * c → insP G k r → ∀ n : Nat, ¬ pth G n (insV G k r) cur) ∨ ∃ n : Nat, z.2 63 k = ((n + 1 : Nat) : Int) ∧ (∃ r, insP G k r ∧ pth G n (insV G k r) cur) ∧ ∀ r, r < 100 * c → insP G k r → ∀ m : Nat, pth G m (insV G k r) cur → n ≤ m)) (fun z => (30 - z.1).toNat) (fun M3 => mfr mfar mF0 M M3 ∧ (∀ y, wd y → y ≠ k → M3 63 y = M2 63 y) ∧ (lcA G ax k → isFar G cur k (M3 63 k)) ∧ (¬ lcA G ax k → M3 63 k = -1)) ⟨0, rfl, by omega, i3, Or.inr ⟨rfl, (i4 k hk).2 (Int.le_refl _)⟩, fun _ _ _ => rfl, Or.inl ⟨(i4 k hk).2 (Int.le_refl _), fun r h => by omega⟩⟩ (by show (30 - (0 : Int)).toNat < zN; decide) ?_ ?_
  · rintro ⟨v2, M5⟩ ⟨c, j1, j2, j3, j4, j5, j6⟩
    dsimp only at j1 j2 j3 j4 j5 j6 ⊢
    subst j1
    obtain ⟨gg, gm, _⟩ := hfr j3
    have hend : (¬ lcA G ax k ∨ c = G.2.2.length) → (lcA G ax k → isFar G cur k (M5 63 k)) ∧ (¬ lcA G ax k → M5 63 k = -1) := fun h => by
      refine ⟨fun hdk => ?_, fun hdk => ?_⟩
      · have hcl : c = G.2.2.length := by rcases h with h | h; exact absurd hdk h; exact h
        have hall : ∀ r, insP G k r → r < 100 * c := fun r hp => by rw [hcl]; exact (insV_r hG hk hp).2.2.2.1
        rcases j6 with ⟨a1, a2⟩ | ⟨n, a1, ⟨r, a2, a3⟩, a4⟩
        · refine Or.inl ⟨a1, fun n hp => ?_⟩
          cases n with
          | zero => have hp : k = cur := hp; omega
          | succ n => obtain ⟨r, b1, b2⟩ := hp; exact a2 r (hall r b1) b1 n b2
        · refine Or.inr ⟨n + 1, a1, ⟨r, a2, a3⟩, fun m hp => ?_⟩
          cases m with
          | zero => have hp : k = cur := hp; omega
          | succ m => obtain ⟨r2, b1, b2⟩ := hp; have := a4 r2 (hall r2 b1) b1 m b2; omega
      · rcases j4 with h | h
        · exact absurd h hdk
        · exact h.2
    unfold F_X11_findFar_B47
    rw [gg.1]
    refine Ok.ite (fun q1 => Ok.chk hk (Ok.ite (fun c1 => Ok.ret ⟨j3, j5, hend (Or.inl (tv_0 (gm.1 k hk) c1))⟩) (fun c1 => ?_))) (fun q1 => Ok.ret ⟨j3, j5, hend (Or.inr (by omega))⟩)
    have hdk := tv_1 (gm.1 k hk) c1
    have hc : c < G.2.2.length := by omega
    have hget : G.2.2[c]? = some G.2.2[c] := List.getElem?_eq_getElem hc
    obtain ⟨L, R, pr, hLR⟩ : ∃ L R pr, G.2.2[c] = (L, R, pr) := ⟨_, _, _, rfl⟩
    rw [hLR] at hget
    have hcx := hG.2.2.2 _ (List.mem_of_getElem? hget)
    refine Ok.b1 (FX11_fit2 (A := mA0) (F := mF0) ⟨by omega, by omega⟩ hk (gg.2.2.2 c L R pr hget).2.2 hcx.2.2) (fun M6 ⟨hfit, hfr6⟩ => ?_)
    have e63 : M6 63 = M5 63 := hfr6.1 63 (fun q => q) (by decide) (by decide) (by decide)
    have j7 : mfr mfar mF0 M M6 := j3.trans (hfr6.mono (B := mfar) (E := mF0) (fun _ q => q.elim) (fun _ q => q))
    unfold F_X11_findFar_L72
    refine Ok.loop (fun z => ∃ g : Nat, z.1 = g ∧ g ≤ 100 ∧ mfr mfar mF0 M z.2 ∧ fitd z.2 pr k ∧ (∀ y, wd y → y ≠ k → z.2 63 y = M2 63 y) ∧ ((z.2 63 k = -1 ∧ ∀ r, r < 100 * c + g → insP G k r → ∀ n : Nat, ¬ pth G n (insV G k r) cur) ∨ ∃ n : Nat, z.2 63 k = ((n + 1 : Nat) : Int) ∧ (∃ r, insP G k r ∧ pth G n (insV G k r) cur) ∧ ∀ r, r < 100 * c + g → insP G k r → ∀ m : Nat, pth G m (insV G k r) cur → n ≤ m)) (fun z => (200 - z.1).toNat) (fun M7 => mfr mfar mF0 M M7 ∧ (∀ y, wd y → y ≠ k → M7 63 y = M2 63 y) ∧ ((M7 63 k = -1 ∧ ∀ r, r < 100 * (c + 1) → insP G k r → ∀ n : Nat, ¬ pth G n (insV G k r) cur) ∨ ∃ n : Nat, M7 63 k = ((n + 1 : Nat) : Int) ∧ (∃ r, insP G k r ∧ pth G n (insV G k r) cur) ∧ ∀ r, r < 100 * (c + 1) → insP G k r → ∀ m : Nat, pth G m (insV G k r) cur → n ≤ m)) ⟨0, rfl, by omega, j7, hfit, by show ∀ y, wd y → y ≠ k → M6 63 y = _; rw [e63]; exact j5, by dsimp only; rw [e63]; exact j6⟩ (by show (200 - (0 : Int)).toNat < zN; decide) ?_ ?_
    · rintro ⟨v3, M7⟩ ⟨g, k1, k2, k3, k4, k5, k6⟩
      dsimp only at k1 k2 k3 k4 k5 k6 ⊢
      subst k1
      have go : ∀ M8 : zM, mfr mfar mF0 M M8 → fitd M8 pr k → (∀ y, wd y → y ≠ k → M8 63 y = M2 63 y) → ((M8 63 k = -1 ∧ ∀ r, r < 100 * c + (g + 1) → insP G k r → ∀ n : Nat, ¬ pth G n (insV G k r) cur) ∨ ∃ n : Nat, M8 63 k = ((n + 1 : Nat) : Int) ∧ (∃ r, insP G k r ∧ pth G n (insV G k r) cur) ∧ ∀ r, r < 100 * c + (g + 1) → insP G k r → ∀ m : Nat, pth G m (insV G k r) cur → n ≤ m) → g < 100 → Ok (F_X11_findFar_J177 k c g M8) (Turn (fun z : Int × zM => ∃ g : Nat, z.1 = g ∧ g ≤ 100 ∧ mfr mfar mF0 M z.2 ∧ fitd z.2 pr k ∧ (∀ y, wd y → y ≠ k → z.2 63 y = M2 63 y) ∧ ((z.2 63 k = -1 ∧ ∀ r, r < 100 * c + g → insP G k r → ∀ n : Nat, ¬ pth G n (insV G k r) cur) ∨ ∃ n : Nat, z.2 63 k = ((n + 1 : Nat) : Int) ∧ (∃ r, insP G k r ∧ pth G n (insV G k r) cur) ∧ ∀ r, r < 100 * c + g → insP G k r → ∀ m : Nat, pth G m (insV G k r) cur → n ≤ m)) (fun z => (200 - z.1).toNat) (fun M7 => mfr mfar mF0 M M7 ∧ (∀ y, wd y → y ≠ k → M7 63 y = M2 63 y) ∧ ((M7 63 k = -1 ∧ ∀ r, r < 100 * (c + 1) → insP G k r → ∀ n : Nat, ¬ pth G n (insV G k r) cur) ∨ ∃ n : Nat, M7 63 k = ((n + 1 : Nat) : Int) ∧ (∃ r, insP G k r ∧ pth G n (insV G k r) cur) ∧ ∀ r, r < 100 * (c + 1) → insP G k r → ∀ m : Nat, pth G m (insV G k r) cur → n ≤ m)) ((g : Int), M7)) := fun M8 a1 a2 a3 a4 a5 => by
        unfold F_X11_findFar_J177
        rw [w_id (a := (g : Int) + 1) (by omega)]
        exact Ok.lett (Ok.ret ⟨⟨g + 1, by show (g : Int) + 1 = _; omega, by omega, a1, a2, a3, a4⟩, by show (200 - ((g : Int) + 1)).toNat < (200 - (g : Int)).toNat; omega⟩)
      unfold F_X11_findFar_B72
      refine Ok.ite (fun q2 => ?_) (fun q2 => Ok.ret ⟨k3, k5, by rw [show 100 * (c + 1) = 100 * c + g by omega]; exact k6⟩)
      refine mturn hG (hfr k3).1 hk hget k4 (by omega) (fun hn => Ok.ret ⟨k3, k5, ?_⟩) (fun hn => go M7 k3 k4 k5 ?_ (by omega)) (fun hp => ?_)
      · rcases k6 with ⟨a1, a2⟩ | ⟨n, a1, a2, a3⟩
        · exact Or.inl ⟨a1, fun r b1 b2 => by
            by_cases e : r < 100 * c + g
            · exact a2 r e b2
            · exact absurd b2 (hn r (by omega) b1)⟩
        · exact Or.inr ⟨n, a1, a2, fun r b1 b2 => by
            by_cases e : r < 100 * c + g
            · exact a3 r e b2
            · exact absurd b2 (hn r (by omega) b1)⟩
      · rcases k6 with ⟨a1, a2⟩ | ⟨n, a1, a2, a3⟩
        · exact Or.inl ⟨a1, fun r b1 b2 => by
            by_cases e : r < 100 * c + g
            · exact a2 r e b2
            · rw [show r = 100 * c + g by omega] at b2; exact absurd b2 hn⟩
        · exact Or.inr ⟨n, a1, a2, fun r b1 b2 => by
            by_cases e : r < 100 * c + g
            · exact a3 r e b2
            · rw [show r = 100 * c + g by omega] at b2; exact absurd b2 hn⟩
      · have hv := insV_r hG hk hp
        have hDv := hDi hdk hp
        have hfar : isFar G cur (insV G k (100 * c + g)) (M7 63 (insV G k (100 * c + g))) := by
          rw [k5 _ hv.1 (by have := hv.2.2.2.2; omega)]
          exact ((i4 _ hv.1).1 hv.2.2.2.2).1 hDv
        have hfar9 : M7 63 (insV G k (100 * c + g)) ≤ 9 := by
          rcases hfar with ⟨a, _⟩ | ⟨n, a, b, _⟩
          · omega
          · have := pth_9 hG hv.1 b; omega
        have hfar0 : -1 ≤ M7 63 (insV G k (100 * c + g)) := by
          rcases hfar with ⟨a, _⟩ | ⟨n, a, b, _⟩ <;> omega
        have sets : ∀ v : Int, ((v = -1 ∧ ∀ r, r < 100 * c + (g + 1) → insP G k r → ∀ n : Nat, ¬ pth G n (insV G k r) cur) ∨ ∃ n : Nat, v = ((n + 1 : Nat) : Int) ∧ (∃ r, insP G k r ∧ pth G n (insV G k r) cur) ∧ ∀ r, r < 100 * c + (g + 1) → insP G k r → ∀ m : Nat, pth G m (insV G k r) cur → n ≤ m) → Ok (F_X11_findFar_J176 k c g k v M7) (Turn (fun z : Int × zM => ∃ g : Nat, z.1 = g ∧ g ≤ 100 ∧ mfr mfar mF0 M z.2 ∧ fitd z.2 pr k ∧ (∀ y, wd y → y ≠ k → z.2 63 y = M2 63 y) ∧ ((z.2 63 k = -1 ∧ ∀ r, r < 100 * c + g → insP G k r → ∀ n : Nat, ¬ pth G n (insV G k r) cur) ∨ ∃ n : Nat, z.2 63 k = ((n + 1 : Nat) : Int) ∧ (∃ r, insP G k r ∧ pth G n (insV G k r) cur) ∧ ∀ r, r < 100 * c + g → insP G k r → ∀ m : Nat, pth G m (insV G k r) cur → n ≤ m)) (fun z => (200 - z.1).toNat) (fun M7 => mfr mfar mF0 M M7 ∧ (∀ y, wd y → y ≠ k → M7 63 y = M2 63 y) ∧ ((M7 63 k = -1 ∧ ∀ r, r < 100 * (c + 1) → insP G k r → ∀ n : Nat, ¬ pth G n (insV G k r) cur) ∨ ∃ n : Nat, M7 63 k = ((n + 1 : Nat) : Int) ∧ (∃ r, insP G k r ∧ pth G n (insV G k r) cur) ∧ ∀ r, r < 100 * (c + 1) → insP G k r → ∀ m : Nat, pth G m (insV G k r) cur → n ≤ m)) ((g : Int), M7)) := fun v hv2 => by
          unfold F_X11_findFar_J176
          refine Ok.chk hk (Ok.lett (go _ (k3.trans (mfr.cell rfl (by decide))) (k4.fr (by rw [zs_ne _ _ _ (by decide)]) (by rw [zs_ne _ _ _ (by decide)]) (zs_ne _ _ _ (by decide))) (fun y hy hne => by rw [zs_off _ _ (Or.inr hne)]; exact k5 y hy hne) ?_ (by omega)))
          rw [zs_at]
          exact hv2
        unfold F_X11_findFar_J170 F_X11_findFar_J163
        refine Ok.chk hv.1 (Ok.lett (Ok.ite (fun q3 => Ok.chk hk (sets _ ?_)) (fun q3 => Ok.chk hk (Ok.ite (fun q4 => ?_) (fun q4 => Ok.chk hk ?_)))))
        · have hno : ∀ n : Nat, ¬ pth G n (insV G k (100 * c + g)) cur := by
            rcases hfar with ⟨_, a⟩ | ⟨n, a, _⟩
            · exact a
            · omega
          rcases k6 with ⟨a1, a2⟩ | ⟨n, a1, a2, a3⟩
          · exact Or.inl ⟨a1, fun r b1 b2 n hp2 => by
              by_cases e : r < 100 * c + g
              · exact a2 r e b2 n hp2
              · rw [show r = 100 * c + g by omega] at hp2; exact hno n hp2⟩
          · exact Or.inr ⟨n, a1, a2, fun r b1 b2 m hp2 => by
              by_cases e : r < 100 * c + g
              · exact a3 r e b2 m hp2
              · rw [show r = 100 * c + g by omega] at hp2; exact absurd hp2 (hno m)⟩
        · rw [w_id (by omega)]
          refine sets _ ?_
          rcases hfar with ⟨a, _⟩ | ⟨n, a, b, b2⟩
          · exact absurd a q3
          rcases k6 with ⟨a1, a2⟩ | ⟨n2, a1, _⟩
          · exact Or.inr ⟨n, by omega, ⟨_, hp, b⟩, fun r c1 c2 m hp2 => by
              by_cases e : r < 100 * c + g
              · exact absurd hp2 (a2 r e c2 m)
              · rw [show r = 100 * c + g by omega] at hp2; exact b2 m hp2⟩
          · omega
        · rw [w_id (a := M7 63 (insV G k (100 * c + g)) + 1) (by omega)]
          rcases hfar with ⟨a, _⟩ | ⟨n, a, b, b2⟩
          · exact absurd a q3
          rcases k6 with ⟨a1, _⟩ | ⟨n2, a1, a2, a3⟩
          · exact absurd a1 q4
          refine Ok.ite (fun q5 => sets _ (Or.inr ⟨n, by omega, ⟨_, hp, b⟩, fun r c1 c2 m hp2 => ?_⟩)) (fun q5 => Ok.chk hk (sets _ (Or.inr ⟨n2, a1, a2, fun r c1 c2 m hp2 => ?_⟩)))
          · by_cases e : r < 100 * c + g
            · have := a3 r e c2 m hp2; omega
            · rw [show r = 100 * c + g by omega] at hp2; exact b2 m hp2
          · by_cases e : r < 100 * c + g
            · exact a3 r e c2 m hp2
            · rw [show r = 100 * c + g by omega] at hp2; have := b2 m hp2; omega
    · intro M7 ⟨k1, k2, k3⟩
      unfold F_X11_findFar_J183
      rw [w_id (a := (c : Int) + 1) (by omega)]
      exact Ok.lett (Ok.ret ⟨⟨c + 1, by show (c : Int) + 1 = _; omega, by omega, k1, Or.inl hdk, k2, k3⟩, by show (30 - ((c : Int) + 1)).toNat < (30 - (c : Int)).toNat; omega⟩)
  · intro M3 ⟨k1, k2, k3, k4⟩
    unfold F_X11_findFar_J189
    rw [w_id (a := k + (-1)) (by omega)]
    refine Ok.lett (Ok.ret ⟨⟨by show -1 ≤ k + -1; omega, by show k + -1 < cur; omega, k1, fun y hy => ⟨fun hlt => ?_, fun hle => ?_⟩⟩, by show (k + -1 + 1).toNat < (k + 1).toNat; omega⟩)
    · change k + -1 < y at hlt
      show (lcA G ax y → isFar G cur y (M3 63 y)) ∧ (¬ lcA G ax y → M3 63 y = -1)
      by_cases e : y = k
      · rw [e]; exact ⟨k3, k4⟩
      · rw [k2 y hy e]; exact (i4 y hy).1 (by omega)
    · change y ≤ k + -1 at hle
      show M3 63 y = -1
      rw [k2 y hy (by omega)]
      exact (i4 y hy).2 (by omega)
