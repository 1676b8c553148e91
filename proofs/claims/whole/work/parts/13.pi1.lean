/-! PURE 74: define: what is read is one thing -/
theorem srel_in {z a b : Int} (h : srel z a) (i : srel z b) : a = b := by
  have key : ∀ w h d w2 h2 d2 : Int, cok w h d → cok w2 h2 d2 → ((w * 3 + h) * 10 + d) * 8 + 4 = ((w2 * 3 + h2) * 10 + d2) * 8 + 4 → 1000 + 100 * w + 10 * h + d = 1000 + 100 * w2 + 10 * h2 + d2 := fun w h d w2 h2 d2 ⟨a1, a2, a3⟩ ⟨b1, b2, b3⟩ e => by
    have e1 : d = d2 := by omega
    have e2 : h = h2 := by omega
    omega
  rcases h with ⟨h1, h2⟩ | ⟨h1, h2⟩ | ⟨h1, h2⟩ | ⟨h1, h2⟩ | ⟨w, hw, d, hc, h1, h2⟩ | ⟨k, p, ⟨hk, hp⟩, h1, h2⟩ <;> rcases i with ⟨i1, i2⟩ | ⟨i1, i2⟩ | ⟨i1, i2⟩ | ⟨i1, i2⟩ | ⟨w2, hw2, d2, hc2, i1, i2⟩ | ⟨k2, p2, ⟨hk2, hp2⟩, i1, i2⟩
  all_goals first
    | omega
    | (rw [h1, i1]; exact key _ _ _ _ _ _ hc hc2 (by omega))
theorem oEq {T : List Int} {o o2 : zOut} {M : zM} {r : Int × zM} (h : vO T o) (h2 : vO T o2) (i : cRd o M r) (i2 : cRd o2 M r) : o = o2 := by
  obtain ⟨k, q, x, y, pr⟩ := o
  obtain ⟨k2, q2, x2, y2, pr2⟩ := o2
  obtain ⟨a1, _, a2, a3, a4, a5⟩ := i
  obtain ⟨b1, _, b2, b3, b4, b5⟩ := i2
  dsimp only [vO] at h h2
  dsimp only at a1 a2 a3 a4 a5 b1 b2 b3 b4 b5
  have ek : k = k2 := by rw [← a1, ← b1]
  subst ek
  rcases h with ⟨h1, _, e1⟩ | ⟨h1, e0, _, e1⟩ | ⟨h1, e0, e1⟩ | ⟨h1, e0, _, e1⟩ | ⟨h1, e0, _, e1⟩
  · rcases h2 with ⟨i1, _, f1⟩ | ⟨i1, f0, _, f1⟩ | ⟨i1, f0, f1⟩ | ⟨i1, f0, _, f1⟩ | ⟨i1, f0, _, f1⟩
    · have h := a2 h1
      rw [b2 i1] at h
      have hq : q = q2 := by omega
      rw [hq, e1, f1]
    all_goals exact absurd (h1.symm.trans i1) (by decide)
  · rcases h2 with ⟨i1, _, f1⟩ | ⟨i1, f0, _, f1⟩ | ⟨i1, f0, f1⟩ | ⟨i1, f0, _, f1⟩ | ⟨i1, f0, _, f1⟩
    · exact absurd (h1.symm.trans i1) (by decide)
    · have h := a3 h1
      rw [b3 i1] at h
      rw [e0, f0, h, e1, f1]
    all_goals exact absurd (h1.symm.trans i1) (by decide)
  · rcases h2 with ⟨i1, _, f1⟩ | ⟨i1, f0, _, f1⟩ | ⟨i1, f0, f1⟩ | ⟨i1, f0, _, f1⟩ | ⟨i1, f0, _, f1⟩
    · exact absurd (h1.symm.trans i1) (by decide)
    · exact absurd (h1.symm.trans i1) (by decide)
    · obtain ⟨c1, c2, c3, c4⟩ := a4 h1
      obtain ⟨d1, d2, d3, d4⟩ := b4 i1
      have hx : x = x2 := by rw [← c1, ← d1]
      have hy : y = y2 := by rw [← c2, ← d2]
      have hl : pr.length = pr2.length := by rw [c3] at d3; omega
      have hp : pr = pr2 := by
        refine List.ext_getElem? (fun i => ?_)
        rcases Nat.lt_or_ge i pr.length with z | z
        · have g1 : pr[i]? = some pr[i] := List.getElem?_eq_getElem z
          have g2 : pr2[i]? = some (pr2[i]'(by omega)) := List.getElem?_eq_getElem (by omega)
          rw [g1, g2, srel_in (c4 i _ g1) (d4 i _ g2)]
        · rw [List.getElem?_eq_none z, List.getElem?_eq_none (by omega)]
      rw [e0, f0, hx, hy, hp]
    all_goals exact absurd (h1.symm.trans i1) (by decide)
  · rcases h2 with ⟨i1, _, f1⟩ | ⟨i1, f0, _, f1⟩ | ⟨i1, f0, f1⟩ | ⟨i1, f0, _, f1⟩ | ⟨i1, f0, _, f1⟩
    · exact absurd (h1.symm.trans i1) (by decide)
    · exact absurd (h1.symm.trans i1) (by decide)
    · exact absurd (h1.symm.trans i1) (by decide)
    · have h := a5 (Or.inl h1)
      rw [b5 (Or.inl i1)] at h
      rw [e0, f0, h, e1, f1]
    · exact absurd (h1.symm.trans i1) (by decide)
  · rcases h2 with ⟨i1, _, f1⟩ | ⟨i1, f0, _, f1⟩ | ⟨i1, f0, f1⟩ | ⟨i1, f0, _, f1⟩ | ⟨i1, f0, _, f1⟩
    · exact absurd (h1.symm.trans i1) (by decide)
    · exact absurd (h1.symm.trans i1) (by decide)
    · exact absurd (h1.symm.trans i1) (by decide)
    · exact absurd (h1.symm.trans i1) (by decide)
    · have h := a5 (Or.inr h1)
      rw [b5 (Or.inr i1)] at h
      rw [e0, f0, h, e1, f1]
/-- the text is empty, the fault's position f -/
def rstD (R : zRst) (f : Int) : zRst := (R.1, [], f, R.2.2.2)
/-- what define does: code, value, state -/
def effD (a : zAbs) (o : zOut) : Int × Int × zAbs :=
  if o.1 = -1 then (1, 0, (a.1, a.2.1, a.2.2.1, rstD a.2.2.2 (o.2.1 : Int)))
  else if o.1 = 0 then (if a.2.1.length < 6 ∧ o.2.2.1 ∉ a.2.1 then (0, (a.2.1.length : Int), (a.1, a.2.1 ++ [o.2.2.1], a.2.2.1, rstD a.2.2.2 (-1))) else (2, 0, (a.1, a.2.1, a.2.2.1, rstD a.2.2.2 (-1))))
  else if o.1 = 1 then (if a.1.2.2.length < 5 then (0, (a.1.2.2.length : Int), ((a.1.1, a.1.2.1, a.1.2.2 ++ [o.2.2]), a.2.1, a.2.2.1, rstD a.2.2.2 (-1))) else (2, 0, (a.1, a.2.1, a.2.2.1, rstD a.2.2.2 (-1))))
  else if o.1 = 2 then (0, a.1.2.1, ((a.1.1, o.2.2.1, a.1.2.2), a.2.1, a.2.2.1, rstD a.2.2.2 (-1)))
  else (0, a.1.1, ((o.2.2.1, a.1.2.1, a.1.2.2), a.2.1, a.2.2.1, rstD a.2.2.2 (-1)))
def mnDf (a : zAbs) (o : zOut) (c v : Int) (k : zAbs) : Prop := c = (effD a o).1 ∧ (c = 0 → v = (effD a o).2.1) ∧ k = (effD a o).2.2
/-- the reference's part -/
def mDf (a : zAbs) (o : zOut) (M0 : zM) (r : Int × zM) : Prop := ∃ k, mdlA k r.2 ∧ keepC M0 r.2 ∧ r.2 76 = M0 76 ∧ mnDf a o (r.2 48 0) r.1 k
section
variable {G : zGr} {ax : List Int} {cur : Int} {R : zRst} {T : List Int} {o : zOut} {M0 M1 : zM}
/-- a state behind define, from its parts -/
theorem mdl_end {G1 : zGr} {ax1 : List Int} {f : Int} {M2 : zM} (h : mdlW G ax cur R M0) (hr : mfr (fun b => b = 55) (fun k => k = 0 ∨ (11 ≤ k ∧ k ≤ 17)) M0 M1) (hf : mfr (fun b => (49 ≤ b ∧ b ≤ 53) ∨ b = 55) (fun k => k = 0 ∨ k = 2 ∨ (7 ≤ k ∧ k ≤ 10)) M1 M2) (hg : gM M2 G1) (ha : axM M2 ax1) (h11 : M1 48 11 = 0) (h14 : M1 48 14 = f) : mdlW G1 ax1 cur (rstD R f) M2 ∧ keepC M0 M2 ∧ M2 76 = M0 76 := by
  have hf2 : mfr (fun b => (49 ≤ b ∧ b ≤ 53) ∨ b = 55) (fun k => k = 0 ∨ k = 2 ∨ (7 ≤ k ∧ k ≤ 17)) M0 M2 := ⟨fun b hb h1 h2 h3 => (hf.1 b hb h1 h2 h3).trans (hr.1 b (by omega) h1 h2 h3), fun k hk h1 h2 => (hf.2 k (by omega) h1 h2).trans (hr.2 k (by omega) h1 h2)⟩
  obtain ⟨a1, a2⟩ := h.grm (R1 := rstD R f) hf2 hg ha rfl ⟨by rw [hf.2 11 (by omega) (by decide) (by decide), h11]; rfl, fun i c hi => by have hi2 : ([] : List Int)[i]? = some c := hi; simp at hi2⟩ (by rw [hf.2 14 (by omega) (by decide) (by decide)]; exact h14) rfl
  exact ⟨a1, a2, hf2.1 76 (by omega) (by decide) (by decide) (by decide)⟩
theorem gM.rd (h : gM M0 G) (hr : mfr (fun b => b = 55) (fun k => k = 0 ∨ (11 ≤ k ∧ k ≤ 17)) M0 M1) : gM M1 G := h.fr hr ⟨by omega, by omega, by omega, by omega⟩ ⟨by omega, by omega, by omega⟩
theorem axM.rd (h : axM M0 ax) (hr : mfr (fun b => b = 55) (fun k => k = 0 ∨ (11 ≤ k ∧ k ≤ 17)) M0 M1) : axM M1 ax := h.fr hr (by omega) (by omega)
theorem MD_fail {c : Int} {f : Int} (h : mdlW G ax cur R M0) (hr : mfr (fun b => b = 55) (fun k => k = 0 ∨ (11 ≤ k ∧ k ≤ 17)) M0 M1) (h11 : M1 48 11 = 0) (h14 : M1 48 14 = f) (he : (effD (G, ax, cur, R) o).1 = c ∧ (effD (G, ax, cur, R) o).2.2 = (G, ax, cur, rstD R f)) (hc : c ≠ 0) : Ok (mFail c M1) (mDf (G, ax, cur, R) o M0) := by
  unfold mFail
  rw [zb2_id]
  unfold F_X11_fail
  have hf : mfr (fun b => (49 ≤ b ∧ b ≤ 53) ∨ b = 55) (fun k => k = 0 ∨ k = 2 ∨ (7 ≤ k ∧ k ≤ 10)) M1 (zs M1 48 0 c) := mfr.fld (Or.inl rfl)
  have hf0 : mfr (fun b => b = 55) (fun k => k = 0) M1 (zs M1 48 0 c) := mfr.fld rfl
  obtain ⟨a1, a2, a3⟩ := mdl_end (M2 := zs M1 48 0 c) h hr hf ((h.1.rd hr).fr hf0 ⟨by omega, by omega, by omega, by omega⟩ ⟨by omega, by omega, by omega⟩) ((h.2.1.rd hr).fr hf0 (by omega) (by omega)) h11 h14
  refine Ok.lett (Ok.ret ⟨(G, ax, cur, rstD R f), a1, a2, a3, ?_, fun e => ?_, he.2.symm⟩)
  · show zs M1 48 0 c 48 0 = _
    rw [zs_at]; exact he.1.symm
  · have e2 : zs M1 48 0 c 48 0 = 0 := e
    rw [zs_at] at e2; exact absurd e2 hc
theorem MD_axiom {x : Int} (h : mdlW G ax cur R M0) (hr : mfr (fun b => b = 55) (fun k => k = 0 ∨ (11 ≤ k ∧ k ≤ 17)) M0 M1) (h0 : M1 48 0 = 0) (h11 : M1 48 11 = 0) (h14 : M1 48 14 = -1) (hax : ax.length ≤ 6) (ho : o.1 = 0) (hx : o.2.2.1 = x) : Ok (F_X11_defineAxiom_L29 x 0 0 M1) (mDf (G, ax, cur, R) o M0) := by
  obtain ⟨x1, x2⟩ := h.2.1.rd hr
  have heff : effD (G, ax, cur, R) o = if ax.length < 6 ∧ x ∉ ax then (0, (ax.length : Int), (G, ax ++ [x], cur, rstD R (-1))) else (2, 0, (G, ax, cur, rstD R (-1))) := by
    unfold effD
    rw [if_neg (by omega), if_pos ho, hx]
    rfl
  have hfail : ¬ (ax.length < 6 ∧ x ∉ ax) → Ok (F_X11_defineAxiom_J76 M1) (mDf (G, ax, cur, R) o M0) := fun hn => by
    rw [if_neg hn] at heff
    exact MD_fail (c := 2) (f := -1) h hr h11 h14 (by rw [heff]; exact ⟨rfl, rfl⟩) (by decide)
  unfold F_X11_defineAxiom_L29
  refine Ok.loop (fun z => ∃ k : Nat, z.2 = k ∧ k ≤ ax.length ∧ ((z.1 = 0 ∧ ∀ j : Nat, j < k → ax[j]? ≠ some x) ∨ (z.1 = 1 ∧ ∃ j : Nat, ax[j]? = some x))) (fun z => (100 - z.2).toNat) (fun e => (e = 0 ∧ x ∉ ax) ∨ (e = 1 ∧ x ∈ ax)) ⟨0, rfl, Nat.zero_le _, Or.inl ⟨rfl, fun j hj => absurd hj (Nat.not_lt_zero j)⟩⟩ (by show (100 - (0 : Int)).toNat < zN; decide) ?_ ?_
  · rintro ⟨v2, v3⟩ ⟨k, i1, i2, i3⟩
    dsimp only at i1 i2 i3 ⊢
    subst i1
    unfold F_X11_defineAxiom_B29 F_X11_defineAxiom_J51 F_X11_defineAxiom_J56
    rw [x1, w_id (a := (k : Int) + 1) (by omega)]
    refine Ok.ite (fun c => ?_) (fun c => Ok.ret ?_)
    · have hk : ax[k]? = some ax[k] := List.getElem?_eq_getElem (by omega)
      rcases i3 with ⟨j1, j2⟩ | ⟨j1, j2⟩
      · refine Ok.pos j1 (Ok.chk ⟨by omega, by omega⟩ ?_)
        rw [x2 k _ hk]
        refine Ok.ite (fun e => Ok.lett (Ok.ret ⟨⟨k + 1, by show (k : Int) + 1 = _; omega, by omega, Or.inr ⟨rfl, k, by rw [hk, e]⟩⟩, by show (100 - ((k : Int) + 1)).toNat < (100 - (k : Int)).toNat; omega⟩)) (fun e => Ok.lett (Ok.ret ⟨⟨k + 1, by show (k : Int) + 1 = _; omega, by omega, Or.inl ⟨rfl, fun j hj => ?_⟩⟩, by show (100 - ((k : Int) + 1)).toNat < (100 - (k : Int)).toNat; omega⟩))
        by_cases q : j = k
        · rw [q, hk]
          intro z
          exact e (Option.some.inj z)
        · exact j2 j (by omega)
      · exact Ok.neg (by omega) (Ok.lett (Ok.ret ⟨⟨k + 1, by show (k : Int) + 1 = _; omega, by omega, Or.inr ⟨rfl, j2⟩⟩, by show (100 - ((k : Int) + 1)).toNat < (100 - (k : Int)).toNat; omega⟩))
    · rcases i3 with ⟨j1, j2⟩ | ⟨j1, j2⟩
      · refine Or.inl ⟨j1, fun hm => ?_⟩
        obtain ⟨j, hj⟩ := List.mem_iff_getElem?.mp hm
        have hl := (List.getElem?_eq_some_iff.mp hj).1
        exact j2 j (by omega) hj
      · obtain ⟨j, hj⟩ := j2
        exact Or.inr ⟨j1, List.mem_of_getElem? hj⟩
  · intro e he
    unfold F_X11_defineAxiom_J63
    rw [x1]
    refine Ok.ite (fun c => hfail (fun q => by omega)) (fun c => ?_)
    rcases he with ⟨e1, e2⟩ | ⟨e1, e2⟩
    · rw [if_pos ⟨by omega, e2⟩] at heff
      refine Ok.pos e1 (Ok.chk ⟨by omega, by omega⟩ ?_)
      have e48 : zs M1 49 (ax.length : Int) x 48 = M1 48 := zs_ne _ _ _ (by decide)
      simp only [zlet_eq]
      rw [e48, x1, w_id (a := (ax.length : Int) + 1) (by omega), zs_at, w_id (a := (ax.length : Int) + 1 - 1) (by omega)]
      have hf1 : mfr (fun b => b = 49) (fun k => k = 2) M1 (zs (zs M1 49 (ax.length : Int) x) 48 2 ((ax.length : Int) + 1)) := mfr.trans (M1 := zs M1 49 (ax.length : Int) x) (mfr.cell rfl (by decide)) (mfr.fld rfl)
      have hf : mfr (fun b => (49 ≤ b ∧ b ≤ 53) ∨ b = 55) (fun k => k = 0 ∨ k = 2 ∨ (7 ≤ k ∧ k ≤ 10)) M1 (zs (zs M1 49 (ax.length : Int) x) 48 2 ((ax.length : Int) + 1)) := mfr.trans (M1 := zs M1 49 (ax.length : Int) x) (mfr.cell (by omega) (by decide)) (mfr.fld (by omega))
      have k2 : zs (zs M1 49 (ax.length : Int) x) 48 2 ((ax.length : Int) + 1) 48 2 = (ax.length : Int) + 1 := zs_at _ 48 2 _
      have k49 : zs (zs M1 49 (ax.length : Int) x) 48 2 ((ax.length : Int) + 1) 49 = zs M1 49 (ax.length : Int) x 49 := zs_ne _ _ _ (by decide)
      have k0 : zs (zs M1 49 (ax.length : Int) x) 48 2 ((ax.length : Int) + 1) 48 0 = 0 := by rw [zs_off _ _ (Or.inr (by decide)), e48]; exact h0
      generalize zs (zs M1 49 (ax.length : Int) x) 48 2 ((ax.length : Int) + 1) = M2 at hf1 hf k2 k49 k0 ⊢
      obtain ⟨a1, a2, a3⟩ := mdl_end (M2 := M2) (ax1 := ax ++ [x]) h hr hf ((h.1.rd hr).fr hf1 ⟨by omega, by omega, by omega, by omega⟩ ⟨by omega, by omega, by omega⟩) ⟨by rw [k2, List.length_append]; rfl, by
        rw [k49, zs_eq]
        exact rowl_push x2 rfl⟩ h11 h14
      exact Ok.ret ⟨(G, ax ++ [x], cur, rstD R (-1)), a1, a2, a3, by rw [heff]; exact k0, fun _ => by rw [heff]; show (ax.length : Int) + 1 - 1 = (ax.length : Int); omega, by rw [heff]⟩
    · exact Ok.neg (by omega) (hfail (fun q => q.2 e2))
theorem MD_num {k : Int} {v : Int} {G1 : zGr} (h : mdlW G ax cur R M0) (hr : mfr (fun b => b = 55) (fun k => k = 0 ∨ (11 ≤ k ∧ k ≤ 17)) M0 M1) (h0 : M1 48 0 = 0) (h11 : M1 48 11 = 0) (h14 : M1 48 14 = -1) (hk : k = 8 ∨ k = 9) (hg : gM (zs M1 48 k v) G1) (he : effD (G, ax, cur, R) o = (0, M1 48 k, (G1, ax, cur, rstD R (-1)))) : mDf (G, ax, cur, R) o M0 (M1 48 k, zs M1 48 k v) := by
  have hf1 : mfr (fun b => b = 55) (fun j => j = k) M1 (zs M1 48 k v) := mfr.fld rfl
  have hf : mfr (fun b => (49 ≤ b ∧ b ≤ 53) ∨ b = 55) (fun k => k = 0 ∨ k = 2 ∨ (7 ≤ k ∧ k ≤ 10)) M1 (zs M1 48 k v) := mfr.fld (by omega)
  obtain ⟨a1, a2, a3⟩ := mdl_end (M2 := zs M1 48 k v) h hr hf hg ((h.2.1.rd hr).fr hf1 (by omega) (by omega)) h11 h14
  exact ⟨(G1, ax, cur, rstD R (-1)), a1, a2, a3, by rw [he]; show zs M1 48 k v 48 0 = 0; rw [zs_off _ _ (Or.inr (by omega))]; exact h0, fun _ => by rw [he], by rw [he]⟩
theorem MD_ctx {L Q : Int} {pr : List Int} (h : mdlW G ax cur R M0) (hG : grok G) (hr : mfr (fun b => b = 55) (fun k => k = 0 ∨ (11 ≤ k ∧ k ≤ 17)) M0 M1) (h0 : M1 48 0 = 0) (h11 : M1 48 11 = 0) (h14 : M1 48 14 = -1) (h17 : M1 48 17 = (pr.length : Int) ∧ rowl (M1 55) pr) (hpr : pr.length ≤ 60) (ho : o.1 = 1) (hx : o.2.2 = (L, Q, pr)) : Ok (mCtx L Q M1) (mDf (G, ax, cur, R) o M0) := by
  obtain ⟨g1, g2, g3, g4⟩ := h.1.rd hr
  have h5 := hG.2.2.1
  have heff : effD (G, ax, cur, R) o = if G.2.2.length < 5 then (0, (G.2.2.length : Int), ((G.1, G.2.1, G.2.2 ++ [(L, Q, pr)]), ax, cur, rstD R (-1))) else (2, 0, (G, ax, cur, rstD R (-1))) := by
    unfold effD
    rw [if_neg (by omega), if_neg (by omega), if_pos ho, hx]
    rfl
  unfold mCtx
  rw [g1]
  refine Ok.ite (fun c => ?_) (fun c => ?_)
  · rw [if_neg (by omega)] at heff
    exact MD_fail (c := 2) (f := -1) h hr h11 h14 (by rw [heff]; exact ⟨rfl, rfl⟩) (by decide)
  rw [if_pos (by omega)] at heff
  have n : ∀ (M : zM) (a b : Nat) (k v : Int), b ≠ a → zs M a k v b = M b := fun M a b k v hb => zs_ne M k v hb
  simp only [zlet_eq]
  rw [n M1 50 48 _ _ (by decide), g1, n _ 51 48 _ _ (by decide), n M1 50 48 _ _ (by decide), g1, h17.1]
  have c0 : (0 : Int) ≤ (G.2.2.length : Int) ∧ (G.2.2.length : Int) < 5 := by omega
  refine Ok.chk c0 (Ok.chk c0 (Ok.chk c0 ?_))
  obtain ⟨M4, hM4⟩ : ∃ M4, M4 = zs (zs (zs M1 50 (G.2.2.length : Int) L) 51 (G.2.2.length : Int) Q) 53 (G.2.2.length : Int) (pr.length : Int) := ⟨_, rfl⟩
  rw [← hM4]
  have f50 : ∀ j : Int, M4 50 j = if j = (G.2.2.length : Int) then L else M1 50 j := fun j => by
    rw [hM4, n _ 53 50 _ _ (by decide), n _ 51 50 _ _ (by decide)]
    by_cases e : j = (G.2.2.length : Int)
    · rw [e, zs_at, if_pos rfl]
    · rw [zs_off _ _ (Or.inr e), if_neg e]
  have f51 : ∀ j : Int, M4 51 j = if j = (G.2.2.length : Int) then Q else M1 51 j := fun j => by
    rw [hM4, n _ 53 51 _ _ (by decide)]
    by_cases e : j = (G.2.2.length : Int)
    · rw [e, zs_at, if_pos rfl]
    · rw [zs_off _ _ (Or.inr e), if_neg e, n _ 50 51 _ _ (by decide)]
  have f53 : ∀ j : Int, M4 53 j = if j = (G.2.2.length : Int) then (pr.length : Int) else M1 53 j := fun j => by
    rw [hM4]
    by_cases e : j = (G.2.2.length : Int)
    · rw [e, zs_at, if_pos rfl]
    · rw [zs_off _ _ (Or.inr e), if_neg e, n _ 51 53 _ _ (by decide), n _ 50 53 _ _ (by decide)]
  have fb : ∀ b, b ≠ 50 → b ≠ 51 → b ≠ 53 → M4 b = M1 b := fun b b1 b2 b3 => by rw [hM4, n _ 53 b _ _ b3, n _ 51 b _ _ b2, n _ 50 b _ _ b1]
  clear hM4
  have f48 : M4 48 = M1 48 := fb 48 (by decide) (by decide) (by decide)
  have f55 : M4 55 = M1 55 := fb 55 (by decide) (by decide) (by decide)
  unfold F_X11_defineContext_L96
  refine Ok.loop (fun z => ∃ k : Nat, z.1 = k ∧ k ≤ pr.length ∧ (∀ b, b ≠ 52 → z.2 b = M4 b) ∧ ∀ j : Int, z.2 52 j = if 60 * (G.2.2.length : Int) ≤ j ∧ j < 60 * (G.2.2.length : Int) + k then M1 55 (j - 60 * (G.2.2.length : Int)) else M1 52 j) (fun z => (100 - z.1).toNat) (fun M5 => (∀ b, b ≠ 52 → M5 b = M4 b) ∧ ∀ j : Int, M5 52 j = if 60 * (G.2.2.length : Int) ≤ j ∧ j < 60 * (G.2.2.length : Int) + pr.length then M1 55 (j - 60 * (G.2.2.length : Int)) else M1 52 j) ⟨0, rfl, Nat.zero_le _, fun _ _ => rfl, fun j => by rw [if_neg (by omega)]; show M4 52 j = _; rw [fb 52 (by decide) (by decide) (by decide)]⟩ (by show (100 - (0 : Int)).toNat < zN; decide) ?_ ?_
  · rintro ⟨v3, M5⟩ ⟨k, i1, i2, i3, i4⟩
    dsimp only at i1 i2 i3 i4 ⊢
    subst i1
    unfold F_X11_defineContext_B96
    rw [i3 48 (by decide), f48, g1, h17.1, i3 55 (by decide), f55]
    refine Ok.ite (fun c => ?_) (fun c => Ok.ret ⟨i3, fun j => by rw [i4 j, show pr.length = k by omega]⟩)
    rw [w_id (a := 60 * (G.2.2.length : Int) + k) (by omega), w_id (a := (k : Int) + 1) (by omega)]
    refine Ok.chk ⟨by omega, by omega⟩ (Ok.chk ⟨by omega, by omega⟩ (Ok.lett (Ok.lett (Ok.ret ⟨⟨k + 1, by show (k : Int) + 1 = _; omega, by omega, fun b hb => by show zs M5 52 _ _ b = _; rw [zs_ne _ _ _ hb]; exact i3 b hb, fun j => ?_⟩, by show (100 - ((k : Int) + 1)).toNat < (100 - (k : Int)).toNat; omega⟩))))
    show zs M5 52 (60 * (G.2.2.length : Int) + k) (M1 55 k) 52 j = _
    by_cases e : j = 60 * (G.2.2.length : Int) + k
    · rw [e, zs_at, if_pos (by omega)]
      congr 1
      omega
    · rw [zs_off _ _ (Or.inr e), i4 j]
      by_cases e2 : 60 * (G.2.2.length : Int) ≤ j ∧ j < 60 * (G.2.2.length : Int) + k
      · rw [if_pos e2, if_pos (by omega)]
      · rw [if_neg e2, if_neg (by omega)]
  · intro M5 ⟨c1, c2⟩
    unfold F_X11_defineContext_J130
    rw [c1 48 (by decide), f48, g1, w_id (a := (G.2.2.length : Int) + 1) (by omega)]
    refine Ok.lett ?_
    rw [zs_at, w_id (a := (G.2.2.length : Int) + 1 - 1) (by omega)]
    obtain ⟨M6, hM6⟩ : ∃ M6, M6 = zs M5 48 7 ((G.2.2.length : Int) + 1) := ⟨_, rfl⟩
    rw [← hM6]
    have m7 : M6 48 7 = (G.2.2.length : Int) + 1 := by rw [hM6, zs_at]
    have mk : ∀ k : Int, k ≠ 7 → M6 48 k = M1 48 k := fun k hk => by rw [hM6, zs_off _ _ (Or.inr hk), c1 48 (by decide), f48]
    have mb : ∀ b, b ≠ 48 → M6 b = M5 b := fun b hb => by rw [hM6, zs_ne _ _ _ hb]
    clear hM6
    have hf : mfr (fun b => (49 ≤ b ∧ b ≤ 53) ∨ b = 55) (fun k => k = 0 ∨ k = 2 ∨ (7 ≤ k ∧ k ≤ 10)) M1 M6 := ⟨fun b hb h48 _ _ => by rw [mb b h48, c1 b (by omega), fb b (by omega) (by omega) (by omega)], fun k hk _ _ => mk k (by omega)⟩
    have hg : gM M6 (G.1, G.2.1, G.2.2 ++ [(L, Q, pr)]) := by
      refine ⟨by show M6 48 7 = ((G.2.2 ++ [(L, Q, pr)]).length : Int); rw [m7, List.length_append]; rfl, by rw [mk 8 (by decide)]; exact g2, by rw [mk 9 (by decide)]; exact g3, fun j L2 Q2 pr2 q => ?_⟩
      have q2 : (G.2.2 ++ [(L, Q, pr)])[j]? = some (L2, Q2, pr2) := q
      unfold prgM
      rw [mb 50 (by decide), mb 51 (by decide), mb 52 (by decide), mb 53 (by decide), c1 50 (by decide), c1 51 (by decide), c1 53 (by decide), f50, f51, f53]
      by_cases e : j < G.2.2.length
      · rw [List.getElem?_append_left e] at q2
        obtain ⟨p1, p2, p3, p4⟩ := g4 j L2 Q2 pr2 q2
        have hpw := (hG.2.2.2 _ (List.mem_of_getElem? q2)).2.2.2.1
        dsimp only at hpw
        have en : ¬ ((j : Int) = (G.2.2.length : Int)) := by omega
        rw [if_neg en, if_neg en, if_neg en]
        refine ⟨p1, p2, p3, fun u v hu => ?_⟩
        have hl := (List.getElem?_eq_some_iff.mp hu).1
        rw [c2, if_neg (by omega)]
        exact p4 u v hu
      · have hj := (List.getElem?_eq_some_iff.mp q2).1
        rw [List.length_append] at hj
        have hj2 : j < G.2.2.length + 1 := hj
        have ej : j = G.2.2.length := by omega
        rw [ej, List.getElem?_append_right (Nat.le_refl _), Nat.sub_self] at q2
        have q3 : (L, Q, pr) = (L2, Q2, pr2) := by simpa using q2
        obtain ⟨q4, q5, q6⟩ := zpr3 q3
        rw [ej, if_pos rfl, if_pos rfl, if_pos rfl, ← q4, ← q5, ← q6]
        refine ⟨rfl, rfl, rfl, fun u v hu => ?_⟩
        have hl := (List.getElem?_eq_some_iff.mp hu).1
        rw [c2, if_pos (by omega), show 60 * (G.2.2.length : Int) + u - 60 * (G.2.2.length : Int) = u by omega]
        exact h17.2 u v hu
    obtain ⟨x1, x2⟩ := h.2.1.rd hr
    obtain ⟨a1, a2, a3⟩ := mdl_end (M2 := M6) (ax1 := ax) h hr hf hg ⟨by rw [mk 2 (by decide)]; exact x1, by rw [mb 49 (by decide), c1 49 (by decide), fb 49 (by decide) (by decide) (by decide)]; exact x2⟩ h11 h14
    exact Ok.ret ⟨((G.1, G.2.1, G.2.2 ++ [(L, Q, pr)]), ax, cur, rstD R (-1)), a1, a2, a3, by rw [heff]; show M6 48 0 = 0; rw [mk 0 (by decide)]; exact h0, fun _ => by rw [heff]; show (G.2.2.length : Int) + 1 - 1 = (G.2.2.length : Int); omega, by rw [heff]⟩
/-- the reference's define, behind the reading -/
theorem MD_act (h : mdlW G ax cur R M0) (hG : grok G) (hax : ax.length ≤ 6) (hv : vO T o) (hF : rdF o M0 M1) : Ok (mAct o M1) (mDf (G, ax, cur, R) o M0) := by
  obtain ⟨hr, h0, h11, h14, h17⟩ := hF
  unfold mAct
  refine Ok.ite (fun c => ?_) (fun c => Ok.ite (fun c0 => ?_) (fun c0 => Ok.ite (fun c1 => ?_) (fun c1 => Ok.ite (fun c2 => ?_) (fun c2 => ?_))))
  · rw [if_pos c] at h14
    exact MD_fail (c := 1) h hr h11 h14 (by unfold effD; rw [if_pos c]; exact ⟨rfl, rfl⟩) (by decide)
  · rw [if_neg c] at h14
    exact MD_axiom h hr h0 h11 h14 hax c0 rfl
  · rw [if_neg c] at h14
    obtain ⟨k, q, x, y, pr⟩ := o
    dsimp only at *
    rcases hv with ⟨h1, _⟩ | ⟨h1, _⟩ | ⟨h1, _, h2⟩ | ⟨h1, _⟩ | ⟨h1, _⟩
    · exact absurd (h1.symm.trans c1) (by decide)
    · exact absurd (h1.symm.trans c1) (by decide)
    · exact MD_ctx h hG hr h0 h11 h14 (h17 c1) (Nat.le_of_lt h2.2) c1 rfl
    · exact absurd (h1.symm.trans c1) (by decide)
    · exact absurd (h1.symm.trans c1) (by decide)
  · rw [if_neg c] at h14
    obtain ⟨g1, g2, g3, g4⟩ := h.1.rd hr
    refine Ok.lett (Ok.lett (Ok.ret (MD_num h hr h0 h11 h14 (Or.inl rfl) (G1 := (G.1, o.2.2.1, G.2.2)) ⟨?_, zs_at M1 48 8 _, ?_, fun j L Q pr q => ?_⟩ ?_)))
    · rw [zs_off _ _ (Or.inr (by decide))]; exact g1
    · rw [zs_off _ _ (Or.inr (by decide))]; exact g3
    · unfold prgM
      rw [zs_ne _ _ _ (by decide), zs_ne _ _ _ (by decide), zs_ne _ _ _ (by decide), zs_ne _ _ _ (by decide)]
      exact g4 j L Q pr q
    · unfold effD
      rw [if_neg c, if_neg c0, if_neg c1, if_pos c2, g2]
      rfl
  · rw [if_neg c] at h14
    obtain ⟨g1, g2, g3, g4⟩ := h.1.rd hr
    refine Ok.lett (Ok.lett (Ok.ret (MD_num h hr h0 h11 h14 (Or.inr rfl) (G1 := (o.2.2.1, G.2.1, G.2.2)) ⟨?_, ?_, zs_at M1 48 9 _, fun j L Q pr q => ?_⟩ ?_)))
    · rw [zs_off _ _ (Or.inr (by decide))]; exact g1
    · rw [zs_off _ _ (Or.inr (by decide))]; exact g2
    · unfold prgM
      rw [zs_ne _ _ _ (by decide), zs_ne _ _ _ (by decide), zs_ne _ _ _ (by decide), zs_ne _ _ _ (by decide)]
      exact g4 j L Q pr q
    · unfold effD
      rw [if_neg c, if_neg c0, if_neg c1, if_neg c2, g3]
      rfl
end
