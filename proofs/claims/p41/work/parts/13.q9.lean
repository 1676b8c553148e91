/-! PURE 88: words as texts, their order -/
/-- a word's letter -/
def dg (x t : Int) : Int := fa x t (t + 1)
theorem dg_v {x t : Int} : dg x t = 1 + (x - f3 (ln x)) / p3 (ln x - (t + 1)) % 3 := by
  unfold dg fa
  rw [show t + 1 - t = 1 by omega, show f3 1 = 1 from rfl, show p3 1 = 3 from rfl]
theorem dg_up {x y : Int} {n : Int} (hx : ln x = n) (hy : ln y = n) (wx : wd x) (wy : wd y) : ∀ k : Nat, (k : Int) ≤ n → (∀ t : Nat, t < k → dg x t = dg y t) → (x - f3 n) / p3 (n - k) = (y - f3 n) / p3 (n - k) := by
  intro k
  induction k with
  | zero =>
    intro _ _
    have h1 := ln_r wx
    have h2 := ln_r wy
    rw [hx, f3_s2 (by have := (ln_b x).1; omega)] at h1
    rw [hy, f3_s2 (by have := (ln_b y).1; omega)] at h2
    rw [show n - ((0 : Nat) : Int) = n by omega, Int.ediv_eq_zero_of_lt (by omega) (by omega), Int.ediv_eq_zero_of_lt (by omega) (by omega)]
  | succ k ih =>
    intro hk h
    have h0 := ih (by omega) (fun t ht => h t (by omega))
    have hd := h k (by omega)
    rw [dg_v, dg_v, hx, hy] at hd
    have e : n - (k : Int) = (n - ((k : Int) + 1)) + 1 := by omega
    have e2 : n - ((k + 1 : Nat) : Int) = n - ((k : Int) + 1) := by omega
    rw [e, p3_s (by omega), Int.mul_comm, ← Int.ediv_ediv_of_nonneg (by have := p3_pos (n - ((k : Int) + 1)); omega), ← Int.ediv_ediv_of_nonneg (by have := p3_pos (n - ((k : Int) + 1)); omega)] at h0
    rw [e2]
    omega
theorem dg_lt {x y n : Int} (hx : ln x = n) (hy : ln y = n) (wx : wd x) (wy : wd y) (h : x < y) {k : Nat} (hk : (k : Int) < n) (he : ∀ t : Nat, t < k → dg x t = dg y t) (hn : dg x k ≠ dg y k) : dg x k < dg y k := by
  have h0 := dg_up hx hy wx wy k (by omega) he
  rw [dg_v, dg_v, hx, hy] at hn ⊢
  have e : n - (k : Int) = (n - ((k : Int) + 1)) + 1 := by omega
  have hp := p3_pos (n - ((k : Int) + 1))
  rw [e, p3_s (by omega), Int.mul_comm, ← Int.ediv_ediv_of_nonneg (by omega), ← Int.ediv_ediv_of_nonneg (by omega)] at h0
  have hm : (x - f3 n) / p3 (n - ((k : Int) + 1)) ≤ (y - f3 n) / p3 (n - ((k : Int) + 1)) := Int.ediv_le_ediv hp (by omega)
  omega
theorem dg_eq {x y n : Int} (hx : ln x = n) (hy : ln y = n) (wx : wd x) (wy : wd y) (he : ∀ t : Nat, (t : Int) < n → dg x t = dg y t) : x = y := by
  have h9 := ln_b x
  have h0 := dg_up hx hy wx wy n.toNat (by omega) (fun t ht => he t (by omega))
  rw [show n - ((n.toNat : Nat) : Int) = 0 by omega, p3_0, Int.ediv_one, Int.ediv_one] at h0
  omega
/-- a word as a text -/
def wT (x : Int) : List Int := (List.range (ln x).toNat).map (fun t : Nat => 96 + dg x t)
theorem wT_len (x : Int) : ((wT x).length : Int) = ln x := by
  unfold wT
  rw [List.length_map, List.length_range]
  have := ln_b x
  omega
theorem wT_at {x : Int} {t : Nat} (h : (t : Int) < ln x) : (wT x)[t]? = some (96 + dg x t) := by
  unfold wT
  rw [List.getElem?_map, List.getElem?_range (by omega)]
  rfl
theorem wT_take (x : Int) {t : Nat} (h : (t : Int) < ln x) : (wT x).take (t + 1) = (wT x).take t ++ [96 + dg x t] := by
  rw [List.take_add_one, wT_at h]
  rfl
section
variable {B : Int} {G : zGr} {ax : List Int} {cur : Int} {R : zRst} {M : zM} {S : zS}
theorem LS_size (hC : clsW B G ax cur R M S) (hs : S.1 + 101 ≤ 6000) : Ok (F_L_size M S) (fun r => clsW B G ax cur R r.2.1 r.2.2 ∧ keepM S M r.2.1 ∧ ((fewA G ax ∧ r.1 = (cnt (lcA G ax) 29524 : Int) ∧ r.2.2 = S) ∨ (¬ fewA G ax ∧ r.1 = -1 ∧ r.2.2 = zer S))) := by
  unfold F_L_size
  refine Ok.chk (by omega) (Ok.bx (Q_size0 hC) (fun e M1 S1 ⟨a1, a2, a3⟩ => ?_) (fun v M1 S1 ⟨a1, a2, a3⟩ => ?_))
  · dsimp only at a1 a2 a3
    rcases a3 with ⟨_, a3, _⟩ | ⟨b1, b2, b3⟩
    · cases a3
    · cases b2
      subst b3
      have e1 : (zer S).1 = S.1 + 1 := rfl
      rw [if_pos rfl]
      exact Ok.chk (by omega) (Ok.ret ⟨a1, a2, Or.inr ⟨b1, rfl, rfl⟩⟩)
  · dsimp only at a1 a2 a3
    rcases a3 with ⟨b1, b2, b3⟩ | ⟨_, a3, _⟩
    · subst b3
      cases b2
      exact Ok.chk (by omega) (Ok.ret ⟨a1, a2, Or.inl ⟨b1, rfl, rfl⟩⟩)
    · cases a3
theorem LS_rank {β : Type} {P : β → Prop} {k : Int → zM → zS → Option β} (hC : clsW B G ax cur R M S) (hf : fewA G ax) (u : lcA G ax cur) (hs : S.1 + 100 ≤ 6000) (hy : ∀ M1, clsW B G ax cur R M1 S → keepM S M M1 → Ok (k (pos (lcA G ax) cur) M1 S) P) : Ok (zb3 (F_L_rank M S) k) P := by
  refine Ok.b3 (Q := fun r => r.1 = pos (lcA G ax) cur ∧ clsW B G ax cur R r.2.1 S ∧ keepM S M r.2.1 ∧ r.2.2 = S) ?_ (fun a M1 S1 ⟨a1, a2, a3, a4⟩ => ?_)
  · unfold F_L_rank
    refine Ok.chk hs (Ok.q (Q_rank hC hf u) (fun a M1 c1 c2 c3 => Ok.chk hs (Ok.ret ⟨c3, c1, c2, rfl⟩)))
  · dsimp only at a1 a2 a3 a4
    subst a1 a4
    exact hy M1 a2 a3
theorem LS_word (hC : clsW B G ax cur R M S) (hs : S.1 + 110 ≤ 6000) : Ok (F_L_word M S) (fun r => stO r.1 (wT cur) r.2.1 r.2.2 ∧ kp S.1 S M r.2.2 r.2.1 ∧ r.2.2.1 = S.1 + 4) := by
  have hw := hC.2.1.2.2
  have hlb := ln_b cur
  have h89 := hC.1.1
  have e1 : (zn S (8, 4)).1 = S.1 + 1 := rfl
  unfold F_L_word
  refine Ok.lett (Ok.chk (by omega) (Ok.lett (Ok.lett (Ok.chk (by omega) (Ok.b2 (SB_new (Nat.le_refl _) h89) (fun M1 S1 ⟨g1, g2, g3⟩ => ?_))))))
  dsimp only at g1 g2 g3
  unfold F_L_word_L10
  refine Ok.loop (fun s : Int × zM × zS => ∃ t : Nat, s.1 = (t : Int) ∧ (t : Int) ≤ ln cur ∧ s.2.2 = S1 ∧ kp S.1 S M S1 s.2.1 ∧ sbO S.1 (S.1 + 1) ((wT cur).take t) s.2.1 S1) (fun s => (ln cur).toNat - s.1.toNat) (fun e : zM × zS => e.2 = S1 ∧ kp S.1 S M S1 e.1 ∧ sbO S.1 (S.1 + 1) (wT cur) e.1 S1) ⟨0, rfl, hlb.1, rfl, g1, by rw [List.take_zero]; exact g2⟩ (by show (ln cur).toNat - 0 < 1000000; omega) (fun s ⟨t, h1, h2, h3, h4, h5⟩ => ?_) (fun e ⟨h1, h2, h3⟩ => ?_)
  · obtain ⟨s1, M2, S2⟩ := s
    dsimp only at h1 h2 h3 h4 h5 ⊢
    subst h1 h3
    have hC2 := hC.kp h4
    unfold F_L_word_B10
    refine Ok.chk (by omega) ?_
    rw [Q_wordLength hC2]
    simp only [zb1_some]
    refine Ok.ite (fun c => ?_) (fun c => ?_)
    · refine Ok.chk (by omega) ?_
      rw [Q_letterAt hC2 (by omega) c, zbx_inr]
      have hd := let_r hw (t := (t : Int)) (by omega) c
      have hlen : ((wT cur).take t).length = t := by
        have := wT_len cur
        rw [List.length_take]; omega
      refine Ok.chk (by omega) (Ok.chk h5.2.1 (Ok.b3 (SB_chr h5 (c := 96 + fa cur (t : Int) ((t : Int) + 1)) (by omega) (by omega) (by omega)) (fun a M3 S3 ⟨q1, q2, q3, q4, q5⟩ => Ok.lett (Ok.ret ?_))))
      dsimp only at q1 q2 q3 q4 q5
      have e3 := q5 (by omega)
      subst e3
      rw [w_id (a := (t : Int) + 1) ⟨by omega, by omega⟩]
      refine ⟨⟨t + 1, rfl, by omega, rfl, h4.trans q2, ?_⟩, by dsimp only; omega⟩
      rw [wT_take cur c]
      exact q3
    · have hlen := wT_len cur
      have e : t = (wT cur).length := by omega
      rw [e, List.take_length] at h5
      exact Ok.ret ⟨rfl, h4, h5⟩
  · obtain ⟨M2, S2⟩ := e
    dsimp only at h1 h2 h3 ⊢
    subst h1
    unfold F_L_word_J34
    refine Ok.chk (by omega) (Ok.chk h3.2.1 (Ok.b3 (SB_str h3) (fun a M3 S3 ⟨q1, q2, q3, q4, _⟩ => ?_)))
    dsimp only at q1 q2 q3 q4
    exact Ok.chk (by omega) (Ok.ret ⟨q2, h2.trans (q3.down h2.1.1), by dsimp only; omega⟩)
end
