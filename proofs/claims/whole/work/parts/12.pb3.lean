/-! PURE 21: the reference's answers about a language -/
def mst (M : zM) (G : zGr) (ax : List Int) (cur : Int) : Prop := grok G ∧ axok ax ∧ wd cur ∧ gM M G ∧ axM M ax ∧ M 48 29 = cur
theorem mst.scr {M M1 : zM} {G : zGr} {ax : List Int} {cur : Int} (h : mst M G ax cur) (hf : mscr M M1) : mst M1 G ax cur := ⟨h.1, h.2.1, h.2.2.1, h.2.2.2.1.scr hf, h.2.2.2.2.1.scr hf, by rw [hf.cur]; exact h.2.2.2.2.2⟩
/-- the beginning of a call that needs the language -/
theorem mfind {M : zM} {G : zGr} {ax : List Int} {cur : Int} (h : mst M G ax cur) : Ok (F_X11_findAll (zs M 48 0 0)) (fun r => tv r.1 (fewA G ax) ∧ (fewA G ax → mrk r.2 (lcA G ax)) ∧ mscr M r.2 ∧ r.2 48 0 = 0 ∧ mst r.2 G ax cur) := by
  have h1 := h.scr (M1 := zs M 48 0 0) mscr.th
  refine (FX11_findAll h.1 h1.2.2.2.1 h1.2.2.2.2.1 h.2.1).mono (fun r ⟨q1, q2, q3, q4⟩ => ?_)
  have hs : mscr M r.2 := mfr.trans mscr.th (mscr.of q4 (fun b q => by omega) (fun k q => by omega))
  exact ⟨q1, q2, hs, by rw [q4.2 0 (by decide) (by decide) (by decide)]; exact zs_at M 48 0 0, h.scr hs⟩
theorem FX11_isContext {M : zM} {n c : Int} (h : M 48 7 = n) (hn : 0 ≤ n ∧ n ≤ 5) : Ok (F_X11_isContext c M) (fun r => tv r (0 ≤ c ∧ c < n)) := by
  unfold F_X11_isContext
  rw [h, w_id (a := n - 1) (by omega), FX11_isIn]
  simp only [zb1_some]
  by_cases q : 0 ≤ c ∧ c ≤ n - 1
  · rw [if_pos q]
    exact Ok.chk (by decide) (Ok.ret (tv_t (by omega)))
  · rw [if_neg q]
    exact Ok.chk (by decide) (Ok.ret (tv_f (by omega)))
theorem FX11_size {M : zM} {G : zGr} {ax : List Int} {cur : Int} (h : mst M G ax cur) : Ok (F_X11_size M) (fun r => mscr M r.2 ∧ (fewA G ax → r.2 48 0 = 0 ∧ r.1 = (cnt (lcA G ax) 29524 : Int)) ∧ (¬ fewA G ax → r.2 48 0 = 1)) := by
  unfold F_X11_size
  refine Ok.lett (Ok.b2 (mfind h) (fun r M1 ⟨h1, h2, h3, h4, h5⟩ => ?_))
  dsimp only at h1 h2 h3 h4 h5
  refine Ok.ite (fun c => ?_) (fun c => Ok.ret ⟨h3, fun q => ⟨h4, (h2 q).2⟩, fun q => absurd (tv_1 h1 c) q⟩)
  rw [FX11_fail]
  simp only [zb2_some]
  exact Ok.ret ⟨mfr.trans h3 mscr.th, fun q => absurd q (tv_0 h1 c), fun _ => zs_at M1 48 0 1⟩
/-- how many words of a length -/
noncomputable def cln (G : zGr) (ax : List Int) (n : Int) : Int := (cnt (fun y => lcA G ax y ∧ ln y = n) 29524 : Nat)
theorem cnt_none {D : Int → Prop} {m n : Nat} (h : m ≤ n) (hD : ∀ k : Nat, m ≤ k → k < n → ¬ D k) : cnt D n = cnt D m := by
  unfold cnt
  rw [frl_skip h hD]
theorem FX11_countOf {M : zM} {G : zGr} {ax : List Int} {n : Int} (hm : mrk M (lcA G ax)) (hn : 0 ≤ n ∧ n ≤ 9) : F_X11_countOf n M = some (cln G ax n) := by
  have t := f3_10 (n := n + 1) (by omega) (by omega)
  have t0 := f3_nn n
  have t1 := f3_mono (show n ≤ n + 1 by omega) hn.1
  have t2 := f3_nn (n + 1)
  refine Ok.eqs ?_
  unfold F_X11_countOf
  rw [FX11_first hn.1 (by omega)]
  simp only [zb1_some]
  unfold F_X11_countOf_L7
  refine Ok.loop (fun z => ∃ k : Nat, z.2 = k ∧ f3 n ≤ k ∧ (k : Int) ≤ f3 (n + 1) ∧ z.1 = (cnt (fun y => lcA G ax y ∧ ln y = n) k : Nat)) (fun z => (f3 (n + 1) - z.2).toNat) (fun e => e = cln G ax n) ⟨(f3 n).toNat, by show f3 n = _; omega, by omega, by omega, ?_⟩ (by show (f3 (n + 1) - f3 n).toNat < zN; rw [zN_v]; omega) ?_ (fun e he => Ok.ret he)
  · show (0 : Int) = _
    rw [cnt_none (m := 0) (by omega) (fun k _ hk ⟨_, h2⟩ => by
      have hkw : wd (k : Int) := ⟨by omega, by omega⟩
      have := (ln_r hkw).1
      rw [h2] at this
      omega), cnt_0]
    rfl
  · rintro ⟨v2, v3⟩ ⟨k, i1, i2, i3, i4⟩
    dsimp only at i1 i2 i3 i4 ⊢
    subst i1 i4
    unfold F_X11_countOf_B7
    rw [w_id (a := n + 1) (by omega), FX11_first (by omega) (by omega)]
    simp only [zb1_some]
    have hcn := cnt_n (fun y => lcA G ax y ∧ ln y = n) k
    refine Ok.ite (fun q => Ok.chk ⟨by omega, by omega⟩ ?_) (fun q => Ok.ret ?_)
    · have hk : wd (k : Int) := ⟨by omega, by omega⟩
      have hl : ln (k : Int) = n := (ln_u hn.1 hn.2 i2 q).1
      have ht := hm.1 k hk
      unfold F_X11_countOf_J32
      refine Ok.ite (fun c => Ok.lett (Ok.lett (Ok.ret ?_))) (fun c => Ok.lett (Ok.lett (Ok.ret ?_)))
      · rw [w_id (a := (k : Int) + 1) (by omega), w_id (by omega)]
        refine ⟨⟨k + 1, by show (k : Int) + 1 = _; omega, by omega, by omega, ?_⟩, by show (f3 (n + 1) - ((k : Int) + 1)).toNat < (f3 (n + 1) - (k : Int)).toNat; omega⟩
        show ((cnt _ k : Nat) : Int) + 0 = _
        rw [cnt_f (fun h => tv_0 ht c h.1)]; omega
      · rw [w_id (a := (k : Int) + 1) (by omega), w_id (by omega)]
        refine ⟨⟨k + 1, by show (k : Int) + 1 = _; omega, by omega, by omega, ?_⟩, by show (f3 (n + 1) - ((k : Int) + 1)).toNat < (f3 (n + 1) - (k : Int)).toNat; omega⟩
        show ((cnt _ k : Nat) : Int) + 1 = _
        rw [cnt_t (D := fun y => lcA G ax y ∧ ln y = n) ⟨tv_1 ht c, hl⟩]; omega
    · show ((cnt _ k : Nat) : Int) = cln G ax n
      unfold cln
      rw [cnt_none (m := k) (n := 29524) (by omega) (fun j h1 h2 ⟨_, h3⟩ => by
        have hj : wd (j : Int) := ⟨by omega, by omega⟩
        have := (ln_r hj).2
        rw [h3] at this
        omega)]
theorem FX11_sizeOf {M : zM} {G : zGr} {ax : List Int} {cur n : Int} (h : mst M G ax cur) : Ok (F_X11_sizeOf n M) (fun r => mscr M r.2 ∧ (¬ (0 ≤ n ∧ n ≤ G.1) → r.2 48 0 = 1) ∧ (0 ≤ n ∧ n ≤ G.1 → ¬ fewA G ax → r.2 48 0 = 2) ∧ (0 ≤ n ∧ n ≤ G.1 → fewA G ax → r.2 48 0 = 0 ∧ r.1 = cln G ax n)) := by
  have hG1 := h.1.1
  have hlim : zs M 48 0 0 48 9 = G.1 := by rw [zs_off _ _ (Or.inr (by decide))]; exact h.2.2.2.1.2.2.1
  unfold F_X11_sizeOf
  refine Ok.lett ?_
  rw [hlim, FX11_isIn]
  simp only [zb1_some]
  by_cases q : 0 ≤ n ∧ n ≤ G.1
  · rw [if_pos q]
    refine Ok.neg (by decide) (Ok.b2 (mfind h) (fun r M1 ⟨h1, h2, h3, h4, h5⟩ => ?_))
    dsimp only at h1 h2 h3 h4 h5
    refine Ok.ite (fun c => ?_) (fun c => ?_)
    · rw [FX11_fail]
      simp only [zb2_some]
      exact Ok.ret ⟨mfr.trans h3 mscr.th, fun q2 => absurd q q2, fun _ _ => zs_at M1 48 0 2, fun _ q2 => absurd q2 (tv_0 h1 c)⟩
    · rw [FX11_countOf (h2 (tv_1 h1 c)) ⟨q.1, by omega⟩]
      simp only [zb1_some]
      exact Ok.ret ⟨h3, fun q2 => absurd q q2, fun _ q2 => absurd (tv_1 h1 c) q2, fun _ _ => ⟨h4, rfl⟩⟩
  · rw [if_neg q]
    refine Ok.pos rfl ?_
    rw [FX11_fail]
    simp only [zb2_some]
    exact Ok.ret ⟨mfr.trans mscr.th mscr.th, fun _ => zs_at (zs M 48 0 0) 48 0 1, fun q2 => absurd q2 q, fun q2 => absurd q2 q⟩
/-- the quotient that both sides compute -/
def dens (a n : Int) : UInt64 := FP.ddiv (FP.i2d (zi a)) (FP.i2d (zi (p3 n)))
theorem FX11_density {M : zM} {G : zGr} {ax : List Int} {cur n : Int} (h : mst M G ax cur) (hd : ∀ a n : Int, 0 ≤ a → a ≤ 300 → 0 ≤ n → n ≤ 9 → vf_n64 (dens a n)) : Ok (F_X11_density n M) (fun r => mscr M r.2 ∧ (¬ (0 ≤ n ∧ n ≤ G.1) → r.2 48 0 = 1) ∧ (0 ≤ n ∧ n ≤ G.1 → ¬ fewA G ax → r.2 48 0 = 2) ∧ (0 ≤ n ∧ n ≤ G.1 → fewA G ax → r.2 48 0 = 0 ∧ r.1 = dens (cln G ax n) n)) := by
  have hG1 := h.1.1
  unfold F_X11_density
  refine Ok.b2 (FX11_sizeOf h) (fun r M1 ⟨h1, h2, h3, h4⟩ => ?_)
  dsimp only at h1 h2 h3 h4
  refine Ok.ite (fun c => ?_) (fun c => Ok.ret ⟨h1, h2, h3, fun q1 q2 => absurd (h4 q1 q2).1 c⟩)
  by_cases q : 0 ≤ n ∧ n ≤ G.1
  · by_cases qf : fewA G ax
    · obtain ⟨g1, g2⟩ := h4 q qf
      subst g2
      rw [FX11_power q.1 (by omega)]
      simp only [zb1_some]
      have hc : cln G ax n ≤ 300 := by
        have := cnt_le (D := fun y => lcA G ax y ∧ ln y = n) (E := lcA G ax) (n := 29524) (fun k _ hk => hk.1)
        unfold cln
        unfold fewA at qf
        omega
      refine Ok.chkP (hd _ n (by unfold cln; omega) hc q.1 (by omega)) (Ok.ret ⟨h1, h2, h3, fun _ _ => ⟨g1, rfl⟩⟩)
    · have := h3 q qf; omega
  · have := h2 q; omega
theorem FX11_isGenerated {M : zM} {G : zGr} {ax : List Int} {cur : Int} (h : mst M G ax cur) : Ok (F_X11_isGenerated M) (fun r => mscr M r.2 ∧ (fewA G ax → r.2 48 0 = 0 ∧ tv r.1 (lcA G ax cur)) ∧ (¬ fewA G ax → r.2 48 0 = 1)) := by
  unfold F_X11_isGenerated
  refine Ok.lett (Ok.b2 (mfind h) (fun r M1 ⟨h1, h2, h3, h4, h5⟩ => ?_))
  dsimp only at h1 h2 h3 h4 h5
  refine Ok.ite (fun c => ?_) (fun c => ?_)
  · rw [FX11_fail]
    simp only [zb2_some]
    exact Ok.neg (by decide) (Ok.ret ⟨mfr.trans h3 mscr.th, fun q => absurd q (tv_0 h1 c), fun _ => zs_at M1 48 0 1⟩)
  · rw [h5.2.2.2.2.2]
    exact Ok.chk h.2.2.1 (Ok.ret ⟨h3, fun q => ⟨h4, (h2 q).1 cur h.2.2.1⟩, fun q => absurd (tv_1 h1 c) q⟩)
theorem FX11_rank {M : zM} {G : zGr} {ax : List Int} {cur : Int} (h : mst M G ax cur) : Ok (F_X11_rank M) (fun r => mscr M r.2 ∧ (fewA G ax → (lcA G ax cur → r.2 48 0 = 0 ∧ r.1 = pos (lcA G ax) cur) ∧ (¬ lcA G ax cur → r.2 48 0 = 2)) ∧ (¬ fewA G ax → r.2 48 0 = 1)) := by
  have hw := h.2.2.1
  have hw0 := hw.1
  have hw1 := hw.2
  unfold F_X11_rank
  refine Ok.lett (Ok.b2 (mfind h) (fun r M1 ⟨h1, h2, h3, h4, h5⟩ => ?_))
  dsimp only at h1 h2 h3 h4 h5
  refine Ok.ite (fun c => ?_) (fun c => ?_)
  · rw [FX11_fail]
    simp only [zb2_some]
    exact Ok.ret ⟨mfr.trans h3 mscr.th, fun q => absurd q (tv_0 h1 c), fun _ => zs_at M1 48 0 1⟩
  have hm := h2 (tv_1 h1 c)
  have hcu := h5.2.2.2.2.2
  rw [hcu]
  refine Ok.chk hw (Ok.ite (fun c1 => ?_) (fun c1 => ?_))
  · rw [FX11_fail]
    simp only [zb2_some]
    exact Ok.ret ⟨mfr.trans h3 mscr.th, fun _ => ⟨fun q => absurd q (tv_0 (hm.1 cur hw) c1), fun _ => zs_at M1 48 0 2⟩, fun q => absurd (tv_1 h1 c) q⟩
  · unfold F_X11_rank_L40
    refine Ok.loop (fun z => ∃ k : Nat, z.2 = k ∧ (k : Int) ≤ cur ∧ z.1 = (cnt (lcA G ax) k : Nat)) (fun z => (30000 - z.2).toNat) (fun e => e = pos (lcA G ax) cur) ⟨0, rfl, by omega, rfl⟩ (by show (30000 - (0 : Int)).toNat < zN; decide) ?_ ?_
    · rintro ⟨v1, v2⟩ ⟨k, i1, i2, i3⟩
      dsimp only at i1 i2 i3 ⊢
      subst i1 i3
      have hcn := cnt_n (lcA G ax) k
      unfold F_X11_rank_B40
      rw [hcu]
      refine Ok.ite (fun q => Ok.chk ⟨by omega, by omega⟩ ?_) (fun q => Ok.ret ?_)
      · have hk : wd (k : Int) := ⟨by omega, by omega⟩
        have ht := hm.1 k hk
        unfold F_X11_rank_J63
        refine Ok.ite (fun c2 => Ok.lett (Ok.lett (Ok.ret ?_))) (fun c2 => Ok.lett (Ok.lett (Ok.ret ?_)))
        · rw [w_id (a := (k : Int) + 1) (by omega), w_id (by omega)]
          exact ⟨⟨k + 1, by show (k : Int) + 1 = _; omega, by omega, by show ((cnt _ k : Nat) : Int) + 0 = _; rw [cnt_f (tv_0 ht c2)]; omega⟩, by show (30000 - ((k : Int) + 1)).toNat < (30000 - (k : Int)).toNat; omega⟩
        · rw [w_id (a := (k : Int) + 1) (by omega), w_id (by omega)]
          exact ⟨⟨k + 1, by show (k : Int) + 1 = _; omega, by omega, by show ((cnt _ k : Nat) : Int) + 1 = _; rw [cnt_t (tv_1 ht c2)]; omega⟩, by show (30000 - ((k : Int) + 1)).toNat < (30000 - (k : Int)).toNat; omega⟩
      · show ((cnt _ k : Nat) : Int) = _
        unfold pos
        rw [show cur.toNat = k by omega]
    · intro e he
      subst he
      unfold F_X11_rank_J71
      exact Ok.ret ⟨h3, fun _ => ⟨fun _ => ⟨h4, rfl⟩, fun q => absurd (tv_1 (hm.1 cur hw) c1) q⟩, fun q => absurd (tv_1 h1 c) q⟩
theorem FX11_takeWord {M : zM} {G : zGr} {ax : List Int} {cur i : Int} (h : mst M G ax cur) : Ok (F_X11_takeWord i M) (fun M1 => (¬ fewA G ax → mscr M M1 ∧ M1 48 0 = 1) ∧ (fewA G ax → ¬ (0 ≤ i ∧ i < ((wl_ (lcA G ax)).length : Int)) → mscr M M1 ∧ M1 48 0 = 2) ∧ (fewA G ax → 0 ≤ i ∧ i < ((wl_ (lcA G ax)).length : Int) → ∃ (M2 : zM) (y : Int), mscr M M2 ∧ M2 48 0 = 0 ∧ (wl_ (lcA G ax))[i.toNat]? = some y ∧ M1 = zs M2 48 29 y)) := by
  unfold F_X11_takeWord
  refine Ok.lett (Ok.b2 (mfind h) (fun r M1 ⟨h1, h2, h3, h4, h5⟩ => ?_))
  dsimp only at h1 h2 h3 h4 h5
  refine Ok.ite (fun c => Ok.lett (Ok.ret ⟨fun _ => ⟨mfr.trans h3 mscr.th, zs_at M1 48 0 1⟩, fun q => absurd q (tv_0 h1 c), fun q => absurd q (tv_0 h1 c)⟩)) (fun c => ?_)
  have hfew := tv_1 h1 c
  have hm := h2 hfew
  have hlen := len_wl (lcA G ax)
  have hfew2 := hfew
  unfold fewA at hfew2
  rw [hm.2, w_id (by omega), FX11_isIn]
  simp only [zb1_some]
  by_cases q : 0 ≤ i ∧ i ≤ (cnt (lcA G ax) 29524 : Int) - 1
  · rw [if_pos q]
    refine Ok.neg (by decide) ?_
    have hi : i.toNat < (wl_ (lcA G ax)).length := by omega
    have hg := List.getElem?_eq_getElem hi
    generalize (wl_ (lcA G ax))[i.toNat] = y at hg
    obtain ⟨x1, x2, x3⟩ := wl_idx hg
    have hy0 := x2.1
    have hy1 := x2.2
    unfold F_X11_takeWord_L42
    refine Ok.loop (fun z => ∃ k : Nat, z.2 = k ∧ (k : Int) ≤ y ∧ z.1 = i - (cnt (lcA G ax) k : Nat)) (fun z => (y + 1 - z.2).toNat) (fun e => e = y) ⟨0, rfl, by omega, by show i = i - ((0 : Nat) : Int); omega⟩ (by show (y + 1 - (0 : Int)).toNat < zN; rw [zN_v]; omega) ?_ ?_
    · rintro ⟨v2, v3⟩ ⟨k, i1, i2, i3⟩
      dsimp only at i1 i2 i3 ⊢
      subst i1 i3
      have hk : wd (k : Int) := ⟨by omega, by omega⟩
      have ht := hm.1 k hk
      have hcn := cnt_n (lcA G ax) k
      have hmo := cnt_mono (D := lcA G ax) (show k ≤ y.toNat by omega)
      have hstep : ∀ d : Int, (lcA G ax k → d = 1) → (¬ lcA G ax k → d = 0) → (k : Int) < y → Ok (F_X11_takeWord_J70 k (i - (cnt (lcA G ax) k : Nat)) d M1) (Turn (fun z : Int × Int => ∃ k : Nat, z.2 = k ∧ (k : Int) ≤ y ∧ z.1 = i - (cnt (lcA G ax) k : Nat)) (fun z => (y + 1 - z.2).toNat) (fun e => e = y) (i - (cnt (lcA G ax) k : Nat), (k : Int))) := fun d d1 d0 hlt => by
        unfold F_X11_takeWord_J70
        refine Ok.lett (Ok.lett (Ok.ret ?_))
        have hd : 0 ≤ d ∧ d ≤ 1 := by by_cases e : lcA G ax k; (have := d1 e; omega); (have := d0 e; omega)
        rw [w_id (a := (k : Int) + 1) (by omega), w_id (by omega)]
        refine ⟨⟨k + 1, by show (k : Int) + 1 = _; omega, by omega, ?_⟩, by show (y + 1 - ((k : Int) + 1)).toNat < (y + 1 - (k : Int)).toNat; omega⟩
        show i - (cnt (lcA G ax) k : Nat) - d = _
        by_cases e : lcA G ax k
        · rw [cnt_t e, d1 e]; omega
        · rw [cnt_f e, d0 e]; omega
      have hnot : (k : Int) < y → Ok (F_X11_takeWord_J55 (i - (cnt (lcA G ax) k : Nat)) k M1) (Turn (fun z : Int × Int => ∃ k : Nat, z.2 = k ∧ (k : Int) ≤ y ∧ z.1 = i - (cnt (lcA G ax) k : Nat)) (fun z => (y + 1 - z.2).toNat) (fun e => e = y) (i - (cnt (lcA G ax) k : Nat), (k : Int))) := fun hlt => by
        unfold F_X11_takeWord_J55
        exact Ok.chk hk (Ok.ite (fun c2 => hstep 0 (fun e => absurd e (tv_0 ht c2)) (fun _ => rfl) hlt) (fun c2 => hstep 1 (fun _ => rfl) (fun e => absurd (tv_1 ht c2) e) hlt))
      unfold F_X11_takeWord_B42
      refine Ok.ite (fun q2 => hnot ?_) (fun q2 => Ok.chk hk (Ok.ite (fun c2 => hnot ?_) (fun c2 => Ok.ret ?_)))
      · by_cases q3 : (k : Int) < y
        · exact q3
        · rw [show k = y.toNat by omega] at q2; omega
      · by_cases q3 : (k : Int) < y
        · exact q3
        · have : (k : Int) = y := by omega
          rw [this] at ht
          exact absurd x3 (tv_0 ht (by rw [← this]; exact c2))
      · show (k : Int) = y
        have hkD := tv_1 ht c2
        by_cases q3 : (k : Int) < y
        · have h9 := cnt_mono (D := lcA G ax) (show k + 1 ≤ y.toNat by omega)
          rw [cnt_t hkD] at h9
          omega
        · omega
    · intro e he
      subst he
      unfold F_X11_takeWord_J78
      exact Ok.lett (Ok.ret ⟨fun q2 => absurd hfew q2, fun _ q2 => absurd ⟨q.1, by omega⟩ q2, fun _ _ => ⟨M1, e, h3, h4, hg, rfl⟩⟩)
  · rw [if_neg q]
    exact Ok.pos rfl (Ok.lett (Ok.ret ⟨fun q2 => absurd hfew q2, fun _ _ => ⟨mfr.trans h3 mscr.th, zs_at M1 48 0 2⟩, fun _ q2 => absurd ⟨q2.1, by omega⟩ q⟩))
