/-! PURE 29: the best derivation, and how the class finds it -/
def bestA (G : zGr) (ax : List Int) (cur : Int) (k : Nat) (b : Int) : Prop := lcA G ax b ∧ b ∈ ax ∧ pth G k b cur ∧ ∀ y, lcA G ax y → y ∈ ax → ∀ m : Nat, pth G m y cur → k < m ∨ (k = m ∧ b ≤ y)
theorem bestA.eq {G : zGr} {ax : List Int} {cur : Int} {k j : Nat} {b c : Int} (h : bestA G ax cur k b) (i : bestA G ax cur j c) : k = j ∧ b = c := by
  have h1 := h.2.2.2 c i.1 i.2.1 j i.2.2.1
  have h2 := i.2.2.2 b h.1 h.2.1 k h.2.2.1
  omega
/-- the next insertion of the best derivation, from a word y that is j + 1 insertions away -/
def nxt (G : zGr) (cur : Int) (j : Nat) (y : Int) (r : Nat) : Prop := insP G y r ∧ pth G j (insV G y r) cur ∧ (∀ m : Nat, pth G m y cur → j + 1 ≤ m) ∧ ∀ r2, r2 < r → insP G y r2 → ¬ pth G j (insV G y r2) cur
theorem nxt.eq {G : zGr} {cur : Int} {j : Nat} {y : Int} {r t : Nat} (h : nxt G cur j y r) (i : nxt G cur j y t) : r = t := by
  rcases Nat.lt_trichotomy r t with q | q | q
  · exact absurd h.2.1 (i.2.2.2 r q h.1)
  · exact q
  · exact absurd i.2.1 (h.2.2.2 t q i.1)
/-- step s of the best derivation from y, k insertions away -/
def drv (G : zGr) (cur : Int) : Nat → Int → Nat → Nat → Prop
  | 0, _, _, _ => False
  | k + 1, y, 0, r => nxt G cur k y r
  | k + 1, y, s + 1, r => ∃ r0, nxt G cur k y r0 ∧ drv G cur k (insV G y r0) s r
theorem drv.eq {G : zGr} {cur : Int} : ∀ {k : Nat} {y : Int} {s r t : Nat}, drv G cur k y s r → drv G cur k y s t → r = t
  | 0, _, _, _, _, h, _ => False.elim h
  | k + 1, y, 0, r, t, h, i => nxt.eq (j := k) (y := y) h i
  | k + 1, y, s + 1, r, t, ⟨r0, h1, h2⟩, ⟨r1, i1, i2⟩ => by
    have e := h1.eq i1
    subst e
    exact drv.eq h2 i2
def itr (M : zM) (p : Int) : Nat → Int
  | 0 => p
  | n + 1 => M 22 (itr M p n)
theorem bfs_le {G : zGr} {ax : List Int} {M : zM} (h : ∀ (x : Int) (r : Nat), lcA G ax x → insP G x r → M 20 (pos (lcA G ax) (insV G x r)) ≤ M 20 (pos (lcA G ax) x) + 1) : ∀ {m : Nat} {y z : Int}, lcA G ax y → pth G m y z → M 20 (pos (lcA G ax) z) ≤ M 20 (pos (lcA G ax) y) + m
  | 0, y, z, _, e => by have e : y = z := e; subst e; omega
  | m + 1, y, z, hy, ⟨r, h1, h2⟩ => by
    have a := h y r hy h1
    have b := bfs_le h (lc_ins hy h1 trivial) h2
    omega
theorem bfs_chain {G : zGr} {ax : List Int} {M : zM} {Q : List Int} {cur : Int} {k : Nat} (hB : bfs G ax M Q) (hcur : lcA G ax cur) (hQ : ∀ y, lcA G ax y → y ∈ Q) (hk : M 20 (pos (lcA G ax) cur) = k) (hle : ∀ (x : Int) (r : Nat), lcA G ax x → insP G x r → M 20 (pos (lcA G ax) (insV G x r)) ≤ M 20 (pos (lcA G ax) x) + 1) : ∀ j : Nat, j ≤ k → ∃ (q : Nat) (c : Int), Q[q]? = some c ∧ lcA G ax c ∧ itr M (pos (lcA G ax) cur) j = pos (lcA G ax) c ∧ M 20 (pos (lcA G ax) c) = ((k - j : Nat) : Int) ∧ pth G j c cur ∧ (∀ (iz : Nat) (z : Int), iz < q → Q[iz]? = some z → ¬ pth G j z cur) ∧ ∀ s, s < j → ∃ r, (∃ x, insP G x r ∧ lcA G ax x) ∧ drv G cur j c s r ∧ M 21 (itr M (pos (lcA G ax) cur) (j - 1 - s)) = mvc (itr M (pos (lcA G ax) cur) (j - 1 - s)) r := by
  intro j
  induction j with
  | zero =>
    intro _
    obtain ⟨q, hq⟩ := List.mem_iff_getElem?.mp (hQ cur hcur)
    refine ⟨q, cur, hq, hcur, rfl, hk, rfl, fun iz z h1 h2 h3 => ?_, fun s hs => absurd hs (Nat.not_lt_zero s)⟩
    have h3 : z = cur := h3
    rw [h3] at h2
    have := hB.1 iz q cur h2 hq
    omega
  | succ j ih =>
    intro hj
    obtain ⟨q, c, c1, c2, c3, c4, c5, c6, c7⟩ := ih (by omega)
    have hna : c ∉ ax := fun hc => by
      have := (hB.2.2.2.1 q c c1 hc).1
      omega
    obtain ⟨ip, p, r, f1, f2, f3, f4, f5, f6, f7, f8⟩ := hB.2.2.2.2 q c c1 hna
    have hp : lcA G ax p := hB.2.1 p (List.mem_of_getElem? f1)
    have hst : M 20 (pos (lcA G ax) p) = ((k - (j + 1) : Nat) : Int) := by omega
    have hpc : pth G j (insV G p r) cur := by rw [f4]; exact c5
    have hnx : nxt G cur j p r := ⟨f3, hpc, fun m hm => by
      have := bfs_le hle hp hm
      omega, fun r2 h1 h2 h3 => by
      obtain ⟨iz, g1, g2⟩ := f8 ip p r2 f1 h2 (Or.inr ⟨rfl, h1⟩)
      exact c6 iz _ g1 g2 h3⟩
    refine ⟨ip, p, f1, hp, by show M 22 (itr M _ j) = _; rw [c3]; exact f5, hst, ⟨r, f3, hpc⟩, fun iz z h1 h2 ⟨r2, h3, h4⟩ => ?_, fun s hs => ?_⟩
    · obtain ⟨iw, g1, g2⟩ := f8 iz z r2 h2 h3 (Or.inl h1)
      exact c6 iw _ g1 g2 h4
    · cases s with
      | zero =>
        refine ⟨r, ⟨p, f3, hp⟩, hnx, ?_⟩
        rw [show j + 1 - 1 - 0 = j by omega, c3]
        exact f6
      | succ s =>
        obtain ⟨r2, g1, g2, g3⟩ := c7 s (by omega)
        refine ⟨r2, g1, ⟨r, hnx, by rw [f4]; exact g2⟩, ?_⟩
        rw [show j + 1 - 1 - (s + 1) = j - 1 - s by omega]
        exact g3
theorem bfs_best {G : zGr} {ax : List Int} {M : zM} {cur : Int} (h : bfsF G ax M) (hcur : lcA G ax cur) : ∃ (k : Nat) (b : Int), M 20 (pos (lcA G ax) cur) = k ∧ bestA G ax cur k b ∧ (∀ j, j ≤ k → ∃ c, lcA G ax c ∧ itr M (pos (lcA G ax) cur) j = pos (lcA G ax) c) ∧ ∀ s, s < k → ∃ r, (∃ x, insP G x r ∧ lcA G ax x) ∧ drv G cur k b s r ∧ M 21 (itr M (pos (lcA G ax) cur) (k - 1 - s)) = mvc (itr M (pos (lcA G ax) cur) (k - 1 - s)) r := by
  obtain ⟨Q, hB, hQ, h0, hle⟩ := h
  have hk : M 20 (pos (lcA G ax) cur) = ((M 20 (pos (lcA G ax) cur)).toNat : Int) := by have := h0 cur hcur; omega
  have hch := bfs_chain hB hcur hQ hk hle
  generalize (M 20 (pos (lcA G ax) cur)).toNat = k at hk hch
  obtain ⟨q, b, c1, c2, c3, c4, c5, c6, c7⟩ := hch k (Nat.le_refl k)
  have hb : b ∈ ax := by
    by_cases hb : b ∈ ax
    · exact hb
    · obtain ⟨ip, p, r, f1, f2, f3, f4, f5, f6, f7, f8⟩ := hB.2.2.2.2 q b c1 hb
      have := h0 p (hB.2.1 p (List.mem_of_getElem? f1))
      omega
  refine ⟨k, b, hk, ⟨c2, hb, c5, fun y hy hya m hm => ?_⟩, fun j hj => ?_, c7⟩
  · obtain ⟨iy, g1⟩ := List.mem_iff_getElem?.mp (hQ y hy)
    obtain ⟨g2, g3⟩ := hB.2.2.2.1 iy y g1 hya
    have g4 := bfs_le hle hy hm
    by_cases e : k = m
    · refine Or.inr ⟨e, ?_⟩
      by_cases hl : b ≤ y
      · exact hl
      · exact absurd (e ▸ hm) (c6 iy y (g3 q b c1 (Or.inr (by omega))) g1)
    · exact Or.inl (by omega)
  · obtain ⟨_, c, _, d1, d2, _⟩ := hch j hj
    exact ⟨c, d1, d2⟩
theorem FX3_derivationSteps {M : zM} {S : zS} {p : Int} (hF : zFx S) (h0 : 0 ≤ p ∧ p < 300) : F_X3_derivationSteps p M S = some (M 20 p) := by
  unfold F_X3_derivationSteps
  rw [xat hF 20 300 rfl h0.1 (by omega)]
  rfl
theorem FX3_derivationMove {M : zM} {S : zS} {p : Int} {k s : Nat} (hF : zFx S) (hk : M 20 p = k) (hs : s < k) (hk9 : k ≤ 300) (hp : ∀ j, j ≤ k → 0 ≤ itr M p j ∧ itr M p j < 300) : F_X3_derivationMove p s M S = some (M 21 (itr M p (k - 1 - s))) := by
  have hp0 : 0 ≤ p ∧ p < 300 := hp 0 (by omega)
  unfold F_X3_derivationMove
  rw [FX3_derivationSteps hF hp0]
  simp only [zb1_some]
  rw [hk, w_id (a := (k : Int) - 1) (by omega)]
  refine Ok.eqs (Ok.lett ?_)
  unfold F_X3_derivationMove_L11
  have hmz : ((k : Int) - 1 + 1).toNat < zN := by
    have : (1000 : Nat) ≤ zN := by decide
    omega
  refine Ok.loop (fun z => ∃ n : Nat, n ≤ k - 1 - s ∧ z.1 = itr M p n ∧ z.2 = (k : Int) - 1 - n) (fun z => (z.2 + 1).toNat) (fun v => v = itr M p (k - 1 - s)) ⟨0, by omega, rfl, by show (k : Int) - 1 = _; omega⟩ hmz ?_ ?_
  · rintro ⟨v3, v4⟩ ⟨n, i1, i2, i3⟩
    dsimp only at i2 i3 ⊢
    subst i2 i3
    unfold F_X3_derivationMove_B11
    refine Ok.ite (fun c => ?_) (fun c => Ok.ret ?_)
    · have hn := hp n (by omega)
      rw [xat hF 22 300 rfl hn.1 (by omega), w_id (a := (k : Int) - 1 - n + (-1)) (by omega)]
      simp only [zb1_some]
      exact Ok.lett (Ok.ret ⟨⟨n + 1, by omega, rfl, by show (k : Int) - 1 - n + -1 = (k : Int) - 1 - ((n + 1 : Nat) : Int); omega⟩, by show ((k : Int) - 1 - n + -1 + 1).toNat < ((k : Int) - 1 - n + 1).toNat; omega⟩)
    · show itr M p n = itr M p (k - 1 - s)
      rw [show n = k - 1 - s by omega]
  · rintro v rfl
    unfold F_X3_derivationMove_J32
    have hn := hp (k - 1 - s) (by omega)
    rw [xat hF 21 300 rfl hn.1 (by omega)]
    exact Ok.ret rfl
theorem FX4_start {v : Int} {r : Nat} (hv : 0 ≤ v ∧ v < 29524) (hr : r < 500) : F_X4_start (mvc v r) = some (rs r) := by
  have hm := mvc_d hv hr
  unfold F_X4_start
  rw [zshr_4 hm.2.1 hm.2.2, zand_15 (by omega) (by omega)]
  congr 1
  unfold mvc rs re
  omega
theorem FX4_end {v : Int} {r : Nat} (hv : 0 ≤ v ∧ v < 29524) (hr : r < 500) : F_X4_end (mvc v r) = some (re r) := by
  have hm := mvc_d hv hr
  unfold F_X4_end
  rw [zand_15 hm.2.1 hm.2.2]
  congr 1
  unfold mvc rs re
  omega
