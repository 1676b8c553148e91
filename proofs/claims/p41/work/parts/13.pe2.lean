/-! PURE 44: a step of the law: the class's call, the reference's, the comparison -/
theorem Ok.bx {α β : Type} {x : Option ((Nat ⊕ α) × zM × zS)} {kx : Nat → zM → zS → Option β} {k : α → zM → zS → Option β} {P : β → Prop} {Q : (Nat ⊕ α) × zM × zS → Prop} (h : Ok x Q) (i : ∀ e M S, Q (.inl e, M, S) → Ok (kx e M S) P) (j : ∀ a M S, Q (.inr a, M, S) → Ok (k a M S) P) : Ok (zbx x kx k) P := by
  obtain ⟨⟨a, M, S⟩, h1, h2⟩ := h
  rw [h1]
  cases a with
  | inl e => rw [zbx_inl]; exact i e M S h2
  | inr a => rw [zbx_inr]; exact j a M S h2
/-- the class's call with the word after it -/
noncomputable def clsX {α : Type} (B : Int) (G : zGr) (ax : List Int) (R : zRst) (S : zS) (M : zM) (V : (Nat ⊕ α) → Int → Prop) (r : (Nat ⊕ α) × zM × zS) : Prop := ∃ k, clsW B G ax k R r.2.1 r.2.2 ∧ keepM S M r.2.1 ∧ V r.1 k
theorem keepM.refl {S : zS} {M : zM} : keepM S M M := fun _ _ _ => rfl
/-- the class's language at hand -/
theorem CX_lang {B : Int} {G : zGr} {ax : List Int} {cur : Int} {R : zRst} {M : zM} {S : zS} (h : clsW B G ax cur R M S) : Ok (F_X10_requireLanguage M S) (fun r => clsW B G ax cur R r.2.1 r.2.2 ∧ keepM S M r.2.1 ∧ ((fewA G ax ∧ langD G ax r.2.1 ∧ r.2.1 1 11 = 0 ∧ r.1 = .inr () ∧ r.2.2 = S) ∨ (¬ fewA G ax ∧ r.1 = .inl 3 ∧ r.2.2 = zer S))) := by
  obtain ⟨a1, a2, a3, a4, a5, a6, a7, a8, a9⟩ := id h
  refine (FX10_requireLanguage a1 a2.1 a3 a5 a2.2.1 a7).mono (fun r ⟨b1, b2, b3, b4, b5⟩ => ?_)
  have hq : clsW B G ax cur R r.2.1 S := h.qry (b4.mono (fun b q => by unfold lgA at q; unfold qA; omega)) (fun k k1 _ => b3 k k1) b1 (a8.fr (b4.1 25 (by unfold lgA; omega) (Or.inl (by decide))) (b4.1 26 (by unfold lgA; omega) (Or.inl (by decide))) (b4.1 27 (by unfold lgA; omega) (Or.inl (by decide)))) (by rw [b3 8 (by decide)]; exact a6) a2.2.2
  have hk : keepM S M r.2.1 := keepM.of b4 (fun b q => by unfold lgA at q; omega)
  rcases b5 with ⟨c1, c2, c3, c4⟩ | ⟨c1, c3, c4⟩
  · exact ⟨by rw [c4]; exact hq, hk, Or.inl ⟨c1, c2, b2, c3, c4⟩⟩
  · exact ⟨by rw [c4]; exact hq.zer _, hk, Or.inr ⟨c1, c3, c4⟩⟩
/-- a query that needs the language, on the class's side -/
theorem CX_q {α : Type} {B : Int} {G : zGr} {ax : List Int} {cur : Int} {R : zRst} {M : zM} {S : zS} {V : (Nat ⊕ α) → Int → Prop} {k : Unit → zM → zS → Option ((Nat ⊕ α) × zM × zS)} (h : clsW B G ax cur R M S) (hn : ¬ fewA G ax → V (.inl 3) cur) (hy : ∀ M1, fewA G ax → clsW B G ax cur R M1 S → langD G ax M1 → M1 1 11 = 0 → keepM S M M1 → Ok (k () M1 S) (clsX B G ax R S M V)) : Ok (zbx (F_X10_requireLanguage M S) (fun e M S => some (.inl e, M, S)) k) (clsX B G ax R S M V) := by
  refine Ok.bx (CX_lang h) (fun e M1 S1 ⟨a1, a2, a3⟩ => ?_) (fun u M1 S1 ⟨a1, a2, a3⟩ => ?_)
  · dsimp only at a1 a2 a3
    rcases a3 with a3 | ⟨b1, b2, b3⟩
    · exact absurd a3.2.2.2.1 (by intro q; cases q)
    · cases b2
      exact Ok.ret ⟨cur, a1, a2, hn b1⟩
  · dsimp only at a1 a2 a3
    rcases a3 with ⟨b1, b2, b3, b4, b5⟩ | a3
    · subst b5
      exact hy M1 b1 a1 b2 b3 a2
    · exact absurd a3.2.1 (by intro q; cases q)
/-- an index required -/
theorem CX_i {α : Type} {B : Int} {G : zGr} {ax : List Int} {cur : Int} {R : zRst} {M M0 : zM} {S : zS} {V : (Nat ⊕ α) → Int → Prop} {k : Unit → zM → zS → Option ((Nat ⊕ α) × zM × zS)} {i n : Int} (h : clsW B G ax cur R M S) (hk : keepM S M0 M) (hn : ¬ (0 ≤ i ∧ i < n) → V (.inl 2) cur) (hy : 0 ≤ i ∧ i < n → Ok (k () M S) (clsX B G ax R S M0 V)) : Ok (zbx (F_X10_requireIndex i n M S) (fun e M S => some (.inl e, M, S)) k) (clsX B G ax R S M0 V) := by
  unfold F_X10_requireIndex F_X10_requireIndex_J9
  by_cases q : i < 0
  · rw [if_pos q, zbx_inl]
    exact Ok.ret ⟨cur, h.zer _, hk, hn (by omega)⟩
  · rw [if_neg q]
    by_cases q2 : i < n
    · rw [if_pos q2, zbx_inr]
      exact hy ⟨by omega, q2⟩
    · rw [if_neg q2, zbx_inl]
      exact Ok.ret ⟨cur, h.zer _, hk, hn (by omega)⟩
theorem CX_c {α : Type} {B : Int} {G : zGr} {ax : List Int} {cur : Int} {R : zRst} {M M0 : zM} {S : zS} {V : (Nat ⊕ α) → Int → Prop} {k : Unit → zM → zS → Option ((Nat ⊕ α) × zM × zS)} {i : Int} (h : clsW B G ax cur R M S) (hk : keepM S M0 M) (hn : ¬ (0 ≤ i ∧ i < (G.2.2.length : Int)) → V (.inl 2) cur) (hy : 0 ≤ i ∧ i < (G.2.2.length : Int) → Ok (k () M S) (clsX B G ax R S M0 V)) : Ok (zbx (F_X10_requireContext i M S) (fun e M S => some (.inl e, M, S)) k) (clsX B G ax R S M0 V) := by
  unfold F_X10_requireContext F_X10_requireIndex F_X10_requireIndex_J9
  rw [h.2.2.1.1]
  by_cases q : i < 0
  · rw [if_pos q, zbx_inl, zbx_inl]
    exact Ok.ret ⟨cur, h.zer _, hk, hn (by omega)⟩
  · rw [if_neg q]
    by_cases q2 : i < (G.2.2.length : Int)
    · rw [if_pos q2, zbx_inr, zbx_inr]
      exact hy ⟨by omega, q2⟩
    · rw [if_neg q2, zbx_inl, zbx_inl]
      exact Ok.ret ⟨cur, h.zer _, hk, hn (by omega)⟩
theorem wl_cnt {D : Int → Prop} : (wl_ D).length = cnt D 29524 := by
  unfold wl_ cnt
  rw [List.length_map]
