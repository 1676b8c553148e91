/-! PURE 80: the class's calls as the law of its own uses them: what stands aside -/
theorem ctxok.tr {A : Nat → Prop} {M M1 : zM} {S S1 : zS} {p : Nat} {L Q : Int} {pr : List Int} (h : ctxok M S p L Q pr) (hp : p + 4 ≤ S.1) (hk : ∀ b, b ≤ S.1 → S1.2.1 b = S.2.1 b) (hr : ∀ b, b ≤ S.1 → ¬ A b → S1.2.2 b = S.2.2 b) (hM : ∀ b, b ≤ S.1 → ¬ A b → M1 b = M b) (hA : ∀ b, A b → 89 < b ∧ ∀ p, ctxS S p → b ≠ p ∧ b ≠ p + 1 ∧ b ≠ p + 2 ∧ b ≠ p + 3 ∧ b ≠ p + 4) : ctxok M1 S1 p L Q pr := by
  have n0 : ¬ A p := fun a => ((hA _ a).2 p h.1).1 rfl
  have n1 : ¬ A (p + 1) := fun a => ((hA _ a).2 p h.1).2.1 rfl
  have n2 : ¬ A (p + 2) := fun a => ((hA _ a).2 p h.1).2.2.1 rfl
  have n3 : ¬ A (p + 3) := fun a => ((hA _ a).2 p h.1).2.2.2.1 rfl
  have n4 : ¬ A (p + 4) := fun a => ((hA _ a).2 p h.1).2.2.2.2 rfl
  have h := h.same (hM p (by omega) n0) (hM (p + 2) (by omega) n2) (hM (p + 3) (by omega) n3) (hM (p + 4) (by omega) n4)
  have ek : ∀ a : Nat, a ≤ S.1 → zkd S1 a = zkd S a ∧ zlen S1 a = zlen S a := fun a ha => by unfold zkd zlen; rw [hk a ha]; exact ⟨rfl, rfl⟩
  have er : ∀ (a : Nat) (k : Int), a ≤ S.1 → ¬ A a → zrf S1 a k = zrf S a k := fun a k ha hn => by unfold zrf; rw [hr a ha hn]
  obtain ⟨⟨h1, h2, h3, h4, h5, h6, h7, h8, h9, h10, h11, h12⟩, ⟨a1, a2, a3⟩, r⟩ := h
  exact ⟨⟨h1, by rw [(ek _ (by omega)).1]; exact h2, by rw [(ek _ (by omega)).1]; exact h3, by rw [(ek _ (by omega)).1]; exact h4, by rw [(ek _ (by omega)).1]; exact h5, by rw [(ek _ (by omega)).1]; exact h6, by rw [(ek _ (by omega)).2]; exact h7, by rw [(ek _ (by omega)).2]; exact h8, by rw [er _ _ (by omega) n0]; exact h9, by rw [er _ _ (by omega) n1]; exact h10, by rw [er _ _ (by omega) n1]; exact h11, by rw [er _ _ (by omega) n1]; exact h12⟩, ⟨by rw [(ek _ (by omega)).1]; exact a1, by rw [(ek _ (by omega)).2]; exact a2, a3⟩, r⟩
/-- cells made or written aside don't touch the class -/
theorem clsW.tr {A : Nat → Prop} {B : Int} {G : zGr} {ax : List Int} {cur : Int} {R : zRst} {M M1 : zM} {S S1 : zS} (h : clsW B G ax cur R M S) (hn : S.1 ≤ S1.1) (hk : ∀ b, b ≤ S.1 → S1.2.1 b = S.2.1 b) (hr : ∀ b, b ≤ S.1 → ¬ A b → S1.2.2 b = S.2.2 b) (hM : ∀ b, b ≤ S.1 → ¬ A b → M1 b = M b) (hA : ∀ b, A b → 89 < b ∧ ∀ p, ctxS S p → b ≠ p ∧ b ≠ p + 1 ∧ b ≠ p + 2 ∧ b ≠ p + 3 ∧ b ≠ p + 4) : clsW B G ax cur R M1 S1 := by
  obtain ⟨h1, h2, ⟨g1, g2, g3, g4⟩, ⟨f1, f2⟩, h5, h6, h7, h8, r1, r2, r3, r4⟩ := h
  have n89 := h1.1
  have e : ∀ b, b ≤ 89 → M1 b = M b := fun b hb => hM b (by omega) (fun a => by have := (hA b a).1; omega)
  have er : ∀ b, b ≤ 89 → S1.2.2 b = S.2.2 b := fun b hb => hr b (by omega) (fun a => by have := (hA b a).1; omega)
  have ef : ∀ (b : Nat) (k : Int), b ≤ 89 → zrf S1 b k = zrf S b k := fun b k hb => by unfold zrf; rw [er b hb]
  have hl : ∀ {G : zGr} {i : Nat} {c : Int × Int × List Int}, grok G → G.2.2[i]? = some c → i < 5 := fun hG q => by have := (List.getElem?_eq_some_iff.mp q).1; have := hG.2.2.1; omega
  have hrf : ∀ q, q ≤ 89 → refS S q → refS S1 q := fun q hq f i hi => by
    rw [ef q _ hq]
    rcases f i hi with a | ⟨a, b⟩
    · exact Or.inl a
    · exact Or.inr ⟨by unfold zkd at *; rw [hk _ (by omega)]; exact a, by omega⟩
  refine ⟨⟨by omega, fun q h0 h9 => (hk q (by omega)).trans (h1.2.1 q h0 h9), fun a k hne => ?_⟩, h2, ⟨by rw [e 5 (by decide)]; exact g1, by rw [e 5 (by decide)]; exact g2, by rw [e 5 (by decide)]; exact g3, fun j L Q pr q => ?_⟩, ⟨hrf 7 (by decide) f1, hrf 10 (by decide) f2⟩, ?_, by rw [e 1 (by decide)]; exact h6, h7.fr (by rw [e 1 (by decide)]) (fun b hb => e b (by have := hb.2; omega)), h8.fr (e 25 (by decide)) (e 26 (by decide)) (e 27 (by decide)), ?_, ?_, ?_, fun k hk3 => ?_⟩
  · have ha : a ≤ 89 := by
      by_cases q : 89 < a
      · rw [zRT_big q] at hne; exact absurd rfl hne
      · omega
    rw [er a ha]; exact h1.2.2 a k hne
  · rw [ef 7 _ (by decide)]
    exact (g4 j L Q pr q).tr (ctx_ref f1 (hl h2.1 q) (g4 j L Q pr q)) hk hr hM hA
  · unfold axC; rw [e 5 (by decide), e 6 (by decide)]; exact h5
  · unfold savC gS axS at *
    rw [e 1 (by decide), e 8 (by decide), e 9 (by decide)]
    rcases r1 with b | ⟨c1, G1, ax1, cur1, c2, c3, ⟨c4, c5, c6, c7⟩, c8⟩
    · exact Or.inl b
    · refine Or.inr ⟨c1, G1, ax1, cur1, c2, c3, ⟨c4, c5, c6, fun j L Q pr q => ?_⟩, c8⟩
      rw [ef 10 _ (by decide)]
      exact (c7 j L Q pr q).tr (ctx_ref f2 (hl c3.1 q) (c7 j L Q pr q)) hk hr hM hA
  · rw [e 2 (by decide), e 3 (by decide)]; exact r2
  · rw [e 1 (by decide)]; exact r3
  · rw [e (42 + 2 * k) (by omega), e (43 + 2 * k) (by omega)]; exact r4 k hk3
/-- a cell of such a kind is none of a context's -/
theorem ctx_not {S : zS} {b : Nat} (h : zkd S b = 8 ∨ zkd S b = 9 ∨ zkd S b = 22 ∨ zkd S b = 24 ∨ (zkd S b = 20 ∧ zkd S (b + 1) = 22)) : ∀ p, ctxS S p → b ≠ p ∧ b ≠ p + 1 ∧ b ≠ p + 2 ∧ b ≠ p + 3 ∧ b ≠ p + 4 := by
  rintro p ⟨-, h2, h3, h4, h5, h6, -⟩
  refine ⟨fun e => ?_, fun e => ?_, fun e => ?_, fun e => ?_, fun e => ?_⟩ <;> subst e
  · omega
  · omega
  · have : zkd S (p + 2 + 1) = 21 := h5
    omega
  · omega
  · omega
/-- a call that answers a and changes nothing but the class's own -/
noncomputable def qX {α : Type} (B : Int) (G : zGr) (ax : List Int) (cur : Int) (R : zRst) (S : zS) (M : zM) (v : α → Prop) (r : (Nat ⊕ α) × zM × zS) : Prop := ∃ a, r.1 = .inr a ∧ r.2.2 = S ∧ clsW B G ax cur R r.2.1 S ∧ keepM S M r.2.1 ∧ v a
theorem Ok.q {α β : Type} {B : Int} {G : zGr} {ax : List Int} {cur : Int} {R : zRst} {S : zS} {M : zM} {v : α → Prop} {x : Option ((Nat ⊕ α) × zM × zS)} {kx : Nat → zM → zS → Option β} {k : α → zM → zS → Option β} {P : β → Prop} (h : Ok x (qX B G ax cur R S M v)) (i : ∀ a M1, clsW B G ax cur R M1 S → keepM S M M1 → v a → Ok (k a M1 S) P) : Ok (zbx x kx k) P := by
  obtain ⟨⟨r, M1, S1⟩, h1, a, h2, h3, h4, h5, h6⟩ := h
  dsimp only at h2 h3 h4 h5
  subst h2 h3
  rw [h1, zbx_inr]
  exact i a M1 h4 h5 h6
section
variable {β : Type} {B : Int} {G : zGr} {ax : List Int} {cur : Int} {R : zRst} {M : zM} {S : zS} {P : β → Prop}
theorem QL {kx : Nat → zM → zS → Option β} {k : Unit → zM → zS → Option β} (h : clsW B G ax cur R M S) (hf : fewA G ax) (hy : ∀ M1, clsW B G ax cur R M1 S → langD G ax M1 → M1 1 11 = 0 → keepM S M M1 → Ok (k () M1 S) P) : Ok (zbx (F_X10_requireLanguage M S) kx k) P := by
  refine Ok.bx (CX_lang h) (fun e M1 S1 ⟨a1, a2, a3⟩ => ?_) (fun u M1 S1 ⟨a1, a2, a3⟩ => ?_)
  · dsimp only at a1 a2 a3
    rcases a3 with a3 | ⟨b1, b2, b3⟩
    · exact absurd a3.2.2.2.1 (by intro q; cases q)
    · exact absurd hf b1
  · dsimp only at a1 a2 a3
    rcases a3 with ⟨b1, b2, b3, b4, b5⟩ | a3
    · subst b5
      exact hy M1 a1 b2 b3 a2
    · exact absurd a3.2.1 (by intro q; cases q)
theorem QI {kx : Nat → zM → zS → Option β} {k : Unit → zM → zS → Option β} {i n : Int} (h0 : 0 ≤ i) (h1 : i < n) (hy : Ok (k () M S) P) : Ok (zbx (F_X10_requireIndex i n M S) kx k) P := by
  unfold F_X10_requireIndex
  rw [if_neg (by omega), if_pos h1, zbx_inr]
  exact hy
theorem QC {kx : Nat → zM → zS → Option β} {k : Unit → zM → zS → Option β} {i : Int} (h : clsW B G ax cur R M S) (h0 : 0 ≤ i) (h1 : i < (G.2.2.length : Int)) (hy : Ok (k () M S) P) : Ok (zbx (F_X10_requireContext i M S) kx k) P := by
  unfold F_X10_requireContext F_X10_requireIndex
  rw [h.2.2.1.1, if_neg (by omega), if_pos h1, zbx_inr, zbx_inr]
  exact hy
theorem QN {kx : Nat → zM → zS → Option β} {k : Unit → zM → zS → Option β} {n : Int} (h : clsW B G ax cur R M S) (h0 : 0 ≤ n) (h1 : n ≤ G.1) (hy : Ok (k () M S) P) : Ok (zbx (F_X10_requireLength n M S) kx k) P := by
  unfold F_X10_requireLength
  rw [h.2.2.1.2.2.1, if_neg (by omega), if_neg (by omega), zbx_inr]
  exact hy
end
section
variable {B : Int} {G : zGr} {ax : List Int} {cur : Int} {R : zRst} {M : zM} {S : zS}
theorem Q_size0 (hC : clsW B G ax cur R M S) : Ok (F_X10_size M S) (fun r => clsW B G ax cur R r.2.1 r.2.2 ∧ keepM S M r.2.1 ∧ ((fewA G ax ∧ r.1 = .inr (cnt (lcA G ax) 29524 : Int) ∧ r.2.2 = S) ∨ (¬ fewA G ax ∧ r.1 = .inl 3 ∧ r.2.2 = zer S))) := by
  unfold F_X10_size
  refine Ok.bx (CX_lang hC) (fun e M1 S1 ⟨a1, a2, a3⟩ => ?_) (fun u M1 S1 ⟨a1, a2, a3⟩ => ?_)
  · dsimp only at a1 a2 a3
    rcases a3 with a3 | ⟨b1, b2, b3⟩
    · exact absurd a3.2.2.2.1 (by intro q; cases q)
    · cases b2
      exact Ok.ret ⟨a1, a2, Or.inr ⟨b1, rfl, b3⟩⟩
  · dsimp only at a1 a2 a3
    rcases a3 with ⟨b1, b2, b3, b4, b5⟩ | a3
    · exact Ok.ret ⟨a1, a2, Or.inl ⟨b1, by dsimp only; rw [b2.1.1, wl_cnt], b5⟩⟩
    · exact absurd a3.2.1 (by intro q; cases q)
theorem Q_size (hC : clsW B G ax cur R M S) (hf : fewA G ax) : Ok (F_X10_size M S) (qX B G ax cur R S M (fun v => v = (cnt (lcA G ax) 29524 : Int))) := by
  unfold F_X10_size
  refine QL hC hf (fun M1 b2 b3 b4 b5 => Ok.ret ⟨_, rfl, rfl, b2, b5, ?_⟩)
  rw [b3.1.1, wl_cnt]
theorem Q_sizeOf {n : Int} (hC : clsW B G ax cur R M S) (hf : fewA G ax) (h0 : 0 ≤ n) (h1 : n ≤ G.1) : Ok (F_X10_sizeOf n M S) (qX B G ax cur R S M (fun v => v = cln G ax n)) := by
  unfold F_X10_sizeOf
  refine QN hC h0 h1 (QL hC hf (fun M1 b2 b3 b4 b5 => ?_))
  rw [FX3_wordsOfLength b2.1 b3.1]
  exact Ok.ret ⟨_, rfl, rfl, b2, b5, rfl⟩
theorem Q_density {n : Int} (hC : clsW B G ax cur R M S) (hf : fewA G ax) (h0 : 0 ≤ n) (h1 : n ≤ G.1) : Ok (F_X10_density n M S) (qX B G ax cur R S M (fun v => v = dens (cln G ax n) n)) := by
  have hG1 := hC.2.1.1.1
  unfold F_X10_density
  refine QN hC h0 h1 (QL hC hf (fun M1 b2 b3 b4 b5 => ?_))
  rw [FX3_wordsOfLength b2.1 b3.1, FX9_power h0 (by omega)]
  simp only [zb1_some]
  have hcb := cln_b (n := n) hf
  exact Ok.chkP (dens_ok _ _ hcb.1 hcb.2 h0 (by omega)) (Ok.ret ⟨_, rfl, rfl, b2, b5, rfl⟩)
theorem Q_isUsed {n : Nat} (hC : clsW B G ax cur R M S) (hf : fewA G ax) (h1 : n < G.2.2.length) : Ok (F_X10_isUsed (n : Int) M S) (qX B G ax cur R S M (fun v => tv v (usd G ax n))) := by
  unfold F_X10_isUsed
  refine QC hC (by omega) (by omega) (QL hC hf (fun M1 b2 b3 b4 b5 => ?_))
  have h5 := hC.2.1.1.2.2.1
  have hz := msk_and b3.2.2.1 (c := n) (by omega)
  refine Ok.ite (fun c => Ok.ret ⟨_, rfl, rfl, b2, b5, tv_f (hz.mp c)⟩) (fun c => Ok.ret ⟨_, rfl, rfl, b2, b5, tv_t ?_⟩)
  by_cases u : usd G ax n
  · exact u
  · exact absurd (hz.mpr u) c
theorem Q_canFollow {n m : Nat} (hC : clsW B G ax cur R M S) (hf : fewA G ax) (h1 : n < G.2.2.length) (h2 : m < G.2.2.length) : Ok (F_X10_canFollow (n : Int) (m : Int) M S) (qX B G ax cur R S M (fun v => tv v (foll G ax n m))) := by
  unfold F_X10_canFollow
  refine QC hC (by omega) (by omega) (QC hC (by omega) (by omega) (QL hC hf (fun M1 b2 b3 b4 b5 => ?_)))
  have h5 := hC.2.1.1.2.2.1
  have hz := msk_and (b3.2.2.2.1 n (by omega)) (c := m) (by omega)
  rw [FX3_followersOf b2.1 ⟨by omega, by omega⟩]
  simp only [zb1_some]
  refine Ok.ite (fun c => Ok.ret ⟨_, rfl, rfl, b2, b5, tv_f (hz.mp c)⟩) (fun c => Ok.ret ⟨_, rfl, rfl, b2, b5, tv_t ?_⟩)
  by_cases u : foll G ax n m
  · exact u
  · exact absurd (hz.mpr u) c
theorem Q_isGenerated (hC : clsW B G ax cur R M S) (hf : fewA G ax) : Ok (F_X10_isGenerated M S) (qX B G ax cur R S M (fun v => tv v (lcA G ax cur))) := by
  unfold F_X10_isGenerated
  refine QL hC hf (fun M1 b2 b3 b4 b5 => ?_)
  obtain ⟨p1, p2, p3⟩ := pos_place b2 b3.1
  rw [p1]
  simp only [zb1_some]
  refine Ok.ite (fun c => Ok.ret ⟨_, rfl, rfl, b2, b5, tv_f (fun q => ?_)⟩) (fun c => Ok.ret ⟨_, rfl, rfl, b2, b5, tv_t ?_⟩)
  · have := p2 q; omega
  · by_cases u : lcA G ax cur
    · exact u
    · have := p3 u; omega
theorem Q_rank (hC : clsW B G ax cur R M S) (hf : fewA G ax) (u : lcA G ax cur) : Ok (F_X10_rank M S) (qX B G ax cur R S M (fun v => v = pos (lcA G ax) cur)) := by
  unfold F_X10_rank
  refine QL hC hf (fun M1 b2 b3 b4 b5 => ?_)
  obtain ⟨p1, p2, p3⟩ := pos_place b2 b3.1
  unfold F_X10_requirePlace
  rw [p1]
  simp only [zb1_some]
  have hp := p2 u
  rw [if_neg (by omega), zbx_inr, hp.1]
  exact Ok.ret ⟨_, rfl, rfl, b2, b5, rfl⟩
theorem Q_rankN (hC : clsW B G ax cur R M S) (hf : fewA G ax) (u : ¬ lcA G ax cur) : Ok (F_X10_rank M S) (fun r => r.1 = .inl 4 ∧ clsW B G ax cur R r.2.1 r.2.2 ∧ keepM S M r.2.1 ∧ r.2.2 = zer S) := by
  unfold F_X10_rank
  refine QL hC hf (fun M1 b2 b3 b4 b5 => ?_)
  obtain ⟨p1, p2, p3⟩ := pos_place b2 b3.1
  unfold F_X10_requirePlace
  rw [p1]
  simp only [zb1_some]
  rw [if_pos (by have := p3 u; omega), zbx_inl]
  exact Ok.ret ⟨rfl, b2.zer _, b5, rfl⟩
theorem Q_minimal (hC : clsW B G ax cur R M S) (hf : fewA G ax) : Ok (F_X10_minimalContexts M S) (qX B G ax cur R S M (fun v => minP G ax v)) := by
  unfold F_X10_minimalContexts
  refine QL hC hf (fun M1 b2 b3 b4 b5 => ?_)
  rw [cls_all b2]
  simp only [zb1_some]
  refine Ok.b2 (FX3_smallestContextSet b2.1 b2.2.1.1 b2.2.1.2.1 b3.1 b3.2.2.2.2.2) (fun v M2 ⟨a1, a2, a3⟩ => Ok.ret ?_)
  dsimp only at a1 a2 a3
  obtain ⟨c1, c2⟩ := b2.lf b4 hf b3 a3 (Or.inr a2)
  exact ⟨_, rfl, rfl, c1, b5.trans c2, a1⟩
theorem Q_isRedundant {n : Nat} (hC : clsW B G ax cur R M S) (hf : fewA G ax) (h1 : n < G.2.2.length) : Ok (F_X10_isRedundant (n : Int) M S) (qX B G ax cur R S M (fun v => tv v (gen G ax (fun d => d ≠ n)))) := by
  unfold F_X10_isRedundant
  refine QC hC (by omega) (by omega) (QL hC hf (fun M1 b2 b3 b4 b5 => ?_))
  have h5 := hC.2.1.1.2.2.1
  obtain ⟨r1, r2, r3⟩ := red_v G.2.2.length h5 n (by omega)
  rw [cls_all b2]
  simp only [zb1_some]
  refine Ok.b2 (FX3_isGeneratedBy b2.1 b2.2.1.1 b2.2.1.2.1 b3.1 (C := fun d => d ≠ n) ⟨r1, r2⟩ r3) (fun v M2 ⟨a1, a2⟩ => ?_)
  dsimp only at a1 a2
  obtain ⟨c1, c2⟩ := b2.lf b4 hf b3 (a2.mono (fun _ q => q) (fun _ q => q.elim)) (by rw [a2.2 17 (fun q => q)]; exact b3.2.2.2.2.2)
  exact Ok.chk (tv_b a1) (Ok.ret ⟨_, rfl, rfl, c1, b5.trans c2, a1⟩)
theorem Q_isConfluent (hC : clsW B G ax cur R M S) (hf : fewA G ax) : Ok (F_X10_isConfluent M S) (qX B G ax cur R S M (fun v => tv v (conf G ax))) := by
  unfold F_X10_isConfluent
  refine QL hC hf (fun M1 b2 b3 b4 b5 => ?_)
  obtain ⟨a1, a2, a3, a4, a5, a6, a7, a8, a9⟩ := id b2
  refine Ok.b2 (FX5_areSingle a1 a2.1 a2.2.1 a3 b3.1 a8) (fun v M2 ⟨c1, c2, c3⟩ => ?_)
  dsimp only at c1 c2 c3
  have e1 : M2 1 = M1 1 := c3.1 1 (by unfold nfC; omega) (Or.inl (by decide))
  have hq : clsW B G ax cur R M2 S := b2.qry (c3.mono (fun b q => by unfold nfC at q; unfold qA; omega)) (fun k _ _ => by rw [e1]) (a7.fr (by rw [e1]) (fun b hb => c3.1 b (by unfold nfC; have := hb.1; have := hb.2; omega) (Or.inl (by have := hb.2; omega)))) c1 (by rw [e1]; exact a6) a2.2.2
  exact Ok.chk (tv_b c2) (Ok.ret ⟨_, rfl, rfl, hq, b5.trans (keepM.of c3 (fun b q => by unfold nfC at q; omega)), c2⟩)
theorem Q_takeWord {t : Nat} {y : Int} (hC : clsW B G ax cur R M S) (hf : fewA G ax) (hg : (wl_ (lcA G ax))[t]? = some y) : Ok (F_X10_takeWord (t : Int) M S) (qX B G ax y R S M (fun _ => True)) := by
  have hil := (List.getElem?_eq_some_iff.mp hg).1
  unfold F_X10_takeWord
  refine QL hC hf (fun M1 b2 b3 b4 b5 => ?_)
  rw [b3.1.1]
  refine QI (by omega) (by omega) ?_
  have hy := (wl_idx hg).2.1
  rw [FX3_wordAt b2.1 b3.1 hg]
  simp only [zb1_some]
  obtain ⟨c1, c2⟩ := cls_cur b2 hy
  exact Ok.lett (Ok.ret ⟨_, rfl, rfl, c1, b5.trans c2, trivial⟩)
theorem Q_takeN {t : Int} (hC : clsW B G ax cur R M S) (hf : fewA G ax) (hg : ¬ (0 ≤ t ∧ t < ((wl_ (lcA G ax)).length : Int))) : Ok (F_X10_takeWord t M S) (fun r => r.1 = .inl 2 ∧ clsW B G ax cur R r.2.1 r.2.2 ∧ keepM S M r.2.1 ∧ r.2.2 = zer S) := by
  unfold F_X10_takeWord
  refine QL hC hf (fun M1 b2 b3 b4 b5 => ?_)
  rw [b3.1.1]
  unfold F_X10_requireIndex F_X10_requireIndex_J9
  by_cases q : t < 0
  · rw [if_pos q, zbx_inl]
    exact Ok.ret ⟨rfl, b2.zer _, b5, rfl⟩
  · rw [if_neg q, if_neg (by omega), zbx_inl]
    exact Ok.ret ⟨rfl, b2.zer _, b5, rfl⟩
theorem Q_insertions (hC : clsW B G ax cur R M S) : Ok (F_X10_insertions M S) (fun r => r.1 = ((insL G cur).length : Int) ∧ clsW B G ax cur R r.2 S ∧ keepM S M r.2) := by
  unfold F_X10_insertions
  exact Ok.b2 (CX_findIns hC) (fun v M1 ⟨a1, a2, a3, a4⟩ => Ok.ret ⟨a1, a3, a4⟩)
theorem Q_insert {i r : Nat} (hC : clsW B G ax cur R M S) (hg : (insL G cur)[i]? = some r) : Ok (F_X10_insert (i : Int) M S) (qX B G ax (insV G cur r) R S M (fun v => v = ((r / 100 : Nat) : Int))) := by
  have hil := (List.getElem?_eq_some_iff.mp hg).1
  unfold F_X10_insert
  refine Ok.b2 (CX_findIns hC) (fun v M1 ⟨a1, a2, a3, a4⟩ => ?_)
  dsimp only at a1 a2 a3 a4
  subst a1
  refine QI (by omega) (by omega) ?_
  have hlen := len_insL hC.2.1.1 (x := cur)
  have hp := (mem_insL hC.2.1.1 hC.2.1.2.2).mp (List.mem_of_getElem? hg)
  have hat : M1 40 i = mvc (insV G cur r) r := a2 i _ (by rw [List.getElem?_map, hg]; rfl)
  rw [xat a3.1 40 225 rfl (by omega) (by omega), hat]
  simp only [zb1_some]
  refine Ok.b2 (CX_move a3 (insV_r hC.2.1.1 hC.2.1.2.2 hp).1 (insP_500 hC.2.1.1 hC.2.1.2.2 hp)) (fun v2 M2 ⟨b1, b2, b3⟩ => Ok.ret ⟨_, rfl, rfl, b2, a4.trans b3, b1⟩)
theorem Q_cnt0 (hC : clsW B G ax cur R M S) : F_X10_count 0 M S = some (.inr (ax.length : Int), M, S) := by
  unfold F_X10_count
  rw [if_pos (by omega), hC.2.2.2.2.1.1]
theorem Q_cnt1 (hC : clsW B G ax cur R M S) : F_X10_count 1 M S = some (.inr (G.2.2.length : Int), M, S) := by
  unfold F_X10_count
  rw [if_neg (by omega), if_pos (by omega), hC.2.2.1.1]
theorem Q_cnt2 (hC : clsW B G ax cur R M S) : F_X10_count 2 M S = some (.inr G.2.1, M, S) := by
  unfold F_X10_count
  rw [if_neg (by omega), if_neg (by omega), if_pos (by omega), hC.2.2.1.2.1]
theorem Q_cnt3 (hC : clsW B G ax cur R M S) : F_X10_count 3 M S = some (.inr G.1, M, S) := by
  unfold F_X10_count
  rw [if_neg (by omega), if_neg (by omega), if_neg (by omega), if_pos (by omega), hC.2.2.1.2.2.1]
theorem Q_wordLength (hC : clsW B G ax cur R M S) : F_X10_wordLength M = some (ln cur) := by
  unfold F_X10_wordLength
  rw [hC.2.2.2.2.2.1, FX9_length hC.2.1.2.2]
  simp only [zb1_some]
theorem let_r {t : Int} (hw : wd cur) (h0 : 0 ≤ t) (h1 : t < ln cur) : 1 ≤ fa cur t (t + 1) ∧ fa cur t (t + 1) ≤ 3 := by
  have hlb := ln_b cur
  have h1 := fa_r (x := cur) (s := t) (e := t + 1) h0 (by omega) (by omega)
  have h2 := ln_r h1.2
  rw [h1.1, show t + 1 - t = 1 by omega] at h2
  have h3 := f3_t
  rw [show (1 : Int) + 1 = 2 from rfl, h3.2.1, h3.2.2.1] at h2
  omega
theorem Q_letterAt {t : Int} (hC : clsW B G ax cur R M S) (h0 : 0 ≤ t) (h1 : t < ln cur) : F_X10_letterAt t M S = some (.inr (96 + fa cur t (t + 1)), M, S) := by
  have hw := hC.2.1.2.2
  have hlb := ln_b cur
  have hd := let_r hw h0 h1
  unfold F_X10_letterAt
  rw [hC.2.2.2.2.2.1, FX9_length hw]
  simp only [zb1_some]
  unfold F_X10_requireIndex
  rw [if_neg (by omega), if_pos h1, zbx_inr, hC.2.2.2.2.2.1, w_id (a := t + 1) ⟨by omega, by omega⟩, FX9_factor hw h0 (by omega) (by omega)]
  simp only [zb1_some]
  have h7 := zi2c_3 (fa cur t (t + 1) - 1).toNat (by omega)
  rw [show (((fa cur t (t + 1) - 1).toNat : Nat) : Int) = fa cur t (t + 1) - 1 by omega] at h7
  rw [show 97 + fa cur t (t + 1) - 1 = 97 + (fa cur t (t + 1) - 1) by omega, h7, zchk_pos ⟨by omega, by omega⟩]
  rw [show 97 + (fa cur t (t + 1) - 1) = 96 + fa cur t (t + 1) by omega]
theorem Q_removeContext {t : Nat} (hC : clsW B G ax cur R M S) (ht : t < G.2.2.length) : Ok (F_X10_removeContext (t : Int) M S) (fun r => r.1 = .inr () ∧ clsW B (G.1, G.2.1, G.2.2.eraseIdx t) ax cur R r.2.1 r.2.2 ∧ keepM S M r.2.1 ∧ sRef 7 S r.2.2) := by
  unfold F_X10_removeContext
  exact QC hC (by omega) (by omega) (CX_removeContext hC ht)
theorem Q_removeAxiom {i : Nat} (hC : clsW B G ax cur R M S) (hi : i < ax.length) : Ok (F_X10_removeAxiom (i : Int) M S) (qX B G (ax.eraseIdx i) cur R S M (fun _ => True)) := by
  unfold F_X10_removeAxiom F_X10_requireAxiom F_X10_requireIndex
  rw [hC.2.2.2.2.1.1, if_neg (by omega), if_pos (by omega), zbx_inr, zbx_inr]
  refine Ok.b1 (CX_drop hC (by omega)) (fun M1 ⟨d1, d2, d3⟩ => ?_)
  obtain ⟨a1, a2, ⟨g1, g2, g3, g4⟩, a4, a5, a6, a7, ⟨n1, n2, n3⟩, r1, r2, r3, r4⟩ := id hC
  have eb : ∀ b : Nat, b ≤ 89 → b ≠ 5 → b ≠ 6 → M1 b = M b := fun b h h1 h2 => d3.1 b (by omega) (Or.inl h)
  refine Ok.b1 (chg (B := B) (G := G) (ax := ax.eraseIdx i) (cur := cur) (R := R) a1 ⟨a2.1, axok_er a2.2.1, a2.2.2⟩ ⟨by rw [d2 3 (by decide)]; exact g1, by rw [d2 4 (by decide)]; exact g2, by rw [d2 5 (by decide)]; exact g3, fun j L R pr q => d3.2 _ _ _ _ (g4 j L R pr q)⟩ a4 d1 (by rw [eb 1 (by decide) (by decide) (by decide)]; exact a6) (a7.1.fr (by rw [eb 11 (by decide) (by decide) (by decide)]) (eb 12 (by decide) (by decide) (by decide)) (eb 13 (by decide) (by decide) (by decide)) (eb 15 (by decide) (by decide) (by decide))) ⟨by rw [eb 25 (by decide) (by decide) (by decide)]; exact n1, by rw [eb 25 (by decide) (by decide) (by decide), eb 27 (by decide) (by decide) (by decide)]; exact n2⟩ ⟨?_, ?_, ?_, ?_⟩) (fun M2 ⟨e1, e2⟩ => Ok.ret ⟨_, rfl, rfl, e1, (keepM.of d3 (fun b q => by omega)).trans e2, trivial⟩)
  · unfold savC gS axS at *
    rw [eb 1 (by decide) (by decide) (by decide), eb 8 (by decide) (by decide) (by decide), eb 9 (by decide) (by decide) (by decide)]
    rcases r1 with b | ⟨b1, G1, ax1, cur1, b2, b3, ⟨c1, c2, c3, c4⟩, b5⟩
    · exact Or.inl b
    · exact Or.inr ⟨b1, G1, ax1, cur1, b2, b3, ⟨c1, c2, c3, fun j L R pr q => d3.2 _ _ _ _ (c4 j L R pr q)⟩, b5⟩
  · rw [eb 2 (by decide) (by decide) (by decide), eb 3 (by decide) (by decide) (by decide)]; exact r2
  · rw [eb 1 (by decide) (by decide) (by decide)]; exact r3
  · intro k hk
    rw [eb (42 + 2 * k) (by omega) (by omega) (by omega), eb (43 + 2 * k) (by omega) (by omega) (by omega)]
    exact r4 k hk
end
