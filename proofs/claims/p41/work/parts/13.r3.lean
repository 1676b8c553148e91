/-! PURE 91: the words of a language: the loop over them -/
theorem wl_asc {D : Int → Prop} {k : Nat} {x y : Int} (hx : (wl_ D)[k]? = some x) (hy : (wl_ D)[k + 1]? = some y) : x < y := by
  refine wl_take hy x ?_
  have h1 := (List.getElem?_eq_some_iff.mp hx).1
  rw [List.take_add_one, hx]
  exact List.mem_append_right _ List.mem_cons_self
section
variable {B : Int} {G : zGr} {ax : List Int} {R : zRst} {M : zM} {S : zS} {v1 : Int} {v2 v4 v7 k : Nat} {y : Int}
/-- the text before, at word k -/
def bfK (G : zGr) (ax : List Int) (k v4 : Nat) (M : zM) (S : zS) : Prop := (k = 0 ∧ v4 = 68) ∨ ∃ j x, k = j + 1 ∧ (wl_ (lcA G ax))[j]? = some x ∧ stO v4 (wT x) M S
theorem bfK.of (h : bfK G ax k v4 M S) (hg : (wl_ (lcA G ax))[k]? = some y) : bfO v4 y M S := by
  rcases h with ⟨-, h⟩ | ⟨j, x, rfl, hx, h⟩
  · exact Or.inl h
  · exact Or.inr ⟨x, (wl_idx hx).2.1, wl_asc hx hg, h⟩
theorem bfO.keep {M1 : zM} (h : bfO v4 y M S) (k : keepM S M M1) : bfO v4 y M1 S := by
  rcases h with h | ⟨x, h1, h2, h3⟩
  · exact Or.inl h
  · exact Or.inr ⟨x, h1, h2, h3.keep k⟩
theorem bfO.kp {M1 : zM} {S1 : zS} (h : bfO v4 y M S) (k : kp S.1 S M S1 M1) : bfO v4 y M1 S1 := by
  rcases h with h | ⟨x, h1, h2, h3⟩
  · exact Or.inl h
  · exact Or.inr ⟨x, h1, h2, h3.kp k h3.1.2 h3.2.2.2.1.2⟩
/-- after a word's text has been looked at -/
theorem J77 {cur : Int} (hC : clsW B G ax cur R M S) (hf : fewA G ax) (hG : G.1 ≤ 6) (hA : AWs v2 S) (hg : (wl_ (lcA G ax))[k]? = some y) (hcur : cur = y) (hct : CTs v2 ((wl_ (lcA G ax)).take k) M) (hus : USs (v2 + 1) (uK G ((wl_ (lcA G ax)).take k)) M) (hT : stO v7 (wT y) M S) (hs : S.1 + 100 ≤ 6000) (hk : k < 400) : Ok (F_L_areWords_J77 v1 v2 (v2 + 1) (k : Int) v7 1 M S) (fun r => ∃ M1, r = .inl (v7, 1, (k : Int) + 1, M1, S) ∧ AWi B G ax R v2 ((wl_ (lcA G ax)).take (k + 1)) (uK G ((wl_ (lcA G ax)).take (k + 1))) M1 S ∧ stO v7 (wT y) M1 S) := by
  obtain ⟨⟨a1, a2⟩, b1, b2, b3, b4⟩ := id hA
  subst hcur
  have hwy := hC.2.1.2.2
  have hDy := (wl_idx hg).2.2
  have hll := (lc_wd hC.2.1.1 hC.2.1.2.1 hDy).2
  have hlb := ln_b cur
  have hlen := wT_len cur
  obtain ⟨n, hn⟩ : ∃ n : Nat, ln cur = (n : Int) := ⟨(ln cur).toNat, by omega⟩
  unfold F_L_areWords_J77
  refine Ok.chk hs ?_
  rw [tx_len (Or.inr hT) (by omega), hlen, hn]
  simp only [zb1_some]
  refine Ok.chk b1 (Ok.chk ⟨by omega, by omega⟩ (Ok.chk b1 (Ok.chk ⟨by omega, by omega⟩ (Ok.lett (Ok.chk hs ?_)))))
  have hold := hct n (by omega)
  have hfl : (((wl_ (lcA G ax)).take k).filter (fun y => decide (ln y = (n : Int)))).length ≤ k := Nat.le_trans (List.length_filter_le _ _) (by rw [List.length_take]; omega)
  rw [hold, w_id (a := ((((wl_ (lcA G ax)).take k).filter (fun y => decide (ln y = (n : Int)))).length : Int) + 1) ⟨by omega, by omega⟩]
  obtain ⟨M65, hM65⟩ : ∃ M65, M65 = zs M v2 (n : Int) ((((wl_ (lcA G ax)).take k).filter (fun y => decide (ln y = (n : Int)))).length + 1 : Int) := ⟨_, rfl⟩
  rw [← hM65]
  have e65 : ∀ b, b ≠ v2 → M65 b = M b := fun b hb => by rw [hM65]; exact zs_ne _ _ _ hb
  have e2 : M65 v2 = up (M v2) (n : Int) ((((wl_ (lcA G ax)).take k).filter (fun y => decide (ln y = (n : Int)))).length + 1 : Int) := by rw [hM65]; exact zs_eq _ _ _ _
  clear hM65
  have hC1 : clsW B G ax cur R M65 S := hC.tr (A := fun b => b = v2) (Nat.le_refl _) (fun _ _ => rfl) (fun _ _ _ => rfl) (fun b _ hb => e65 b hb) (fun b hb => by subst hb; exact ⟨a1, ctx_not (Or.inr (Or.inr (Or.inr (Or.inr ⟨b1, b3⟩))))⟩)
  have hT1 : stO v7 (wT cur) M65 S := by
    obtain ⟨⟨z1, z2⟩, z3, z4, ⟨z5, z6⟩, z7, z8, z9, z10⟩ := hT
    have n1 : v7 ≠ v2 := fun e => by rw [e] at z3; omega
    have n2 : zrf S v7 0 ≠ v2 := fun e => by rw [e] at z7; omega
    exact ⟨⟨z1, z2⟩, z3, by rw [e65 v7 n1]; exact z4, ⟨z5, z6⟩, z7, z8, by rw [e65 _ n2]; exact z9, z10⟩
  refine Ok.b2 (Q_insertions hC1) (fun v M68 ⟨c1, c2, c3⟩ => ?_)
  dsimp only at c1 c2 c3
  subst c1
  have tk : (wl_ (lcA G ax)).take (k + 1) = (wl_ (lcA G ax)).take k ++ [cur] := by rw [List.take_add_one, hg]; rfl
  have hi : AWi B G ax R v2 ((wl_ (lcA G ax)).take (k + 1)) (uK G ((wl_ (lcA G ax)).take k)) M68 S := by
    refine ⟨⟨cur, c2⟩, hA, fun m hm => ?_, fun c hc => ?_⟩
    · rw [c3 v2 a1 ⟨by omega, by rw [b1]; decide⟩, e2, tk, List.filter_append, List.length_append]
      by_cases q : m = n
      · subst q
        rw [up_eq]
        have : ([cur].filter (fun y => decide (ln y = (m : Int)))).length = 1 := by
          rw [List.filter_cons_of_pos (by simp [hn])]; rfl
        rw [this]
        omega
      · rw [up_ne _ _ (by omega), hct m hm]
        have : ([cur].filter (fun y => decide (ln y = (m : Int)))).length = 0 := by
          rw [List.filter_cons_of_neg (by simp [hn]; omega)]; rfl
        rw [this]
        omega
    · rw [c3 (v2 + 1) (by omega) ⟨a2, by rw [b3]; decide⟩, e65 _ (by omega)]
      exact hus c hc
  refine (L103 hf hg hs hk hi (hT1.keep c3)).mono (fun r ⟨M1, d1, d2, d3⟩ => ⟨M1, d1, d2.iff (fun c => ?_), d3⟩)
  rw [tk]
  constructor
  · rintro (⟨x, hx, r, h1, h2⟩ | ⟨j, r, h1, h2, h3⟩)
    · exact ⟨x, List.mem_append_left _ hx, r, h1, h2⟩
    · exact ⟨cur, List.mem_append_right _ List.mem_cons_self, r, (mem_insL hC.2.1.1 hwy).mp (List.mem_of_getElem? h2), h3⟩
  · rintro ⟨x, hx, r, h1, h2⟩
    rcases List.mem_append.mp hx with hx | hx
    · exact Or.inl ⟨x, hx, r, h1, h2⟩
    · rw [List.mem_singleton] at hx
      subst hx
      obtain ⟨j, hj, he⟩ := List.getElem_of_mem ((mem_insL hC.2.1.1 hwy).mpr h1)
      exact Or.inr ⟨j, r, hj, by rw [List.getElem?_eq_getElem hj, he], h2⟩
/-- all words have been looked at -/
theorem LW {n0 : Nat} (hf : fewA G ax) (hG : G.1 ≤ 6) (h : AWi B G ax R v2 [] (fun _ => False) M S) (hn : S.1 ≤ n0) (hs : n0 + 1400 ≤ 6000) : Ok (F_L_areWords ((wl_ (lcA G ax)).length : Int) v2 (v2 + 1) M S) (fun r => r.1 = 1 ∧ AWi B G ax R v2 (wl_ (lcA G ax)) (uK G (wl_ (lcA G ax))) r.2.1 r.2.2 ∧ r.2.2.1 ≤ n0 + 1200) := by
  have h300 : (wl_ (lcA G ax)).length ≤ 300 := by rw [wl_cnt]; exact hf
  unfold F_L_areWords F_L_areWords_L10
  refine Ok.loop (fun s : Nat × Int × Int × zM × zS => ∃ k : Nat, s.2.1 = 1 ∧ s.2.2.1 = (k : Int) ∧ k ≤ (wl_ (lcA G ax)).length ∧ AWi B G ax R v2 ((wl_ (lcA G ax)).take k) (uK G ((wl_ (lcA G ax)).take k)) s.2.2.2.1 s.2.2.2.2 ∧ bfK G ax k s.1 s.2.2.2.1 s.2.2.2.2 ∧ s.2.2.2.2.1 ≤ n0 + 4 * k) (fun s => (wl_ (lcA G ax)).length - s.2.2.1.toNat) (fun e : Int × zM × zS => e.1 = 1 ∧ AWi B G ax R v2 (wl_ (lcA G ax)) (uK G (wl_ (lcA G ax))) e.2.1 e.2.2 ∧ e.2.2.1 ≤ n0 + 1200) ⟨0, rfl, rfl, Nat.zero_le _, by rw [List.take_zero]; exact h.iff (fun c => ⟨False.elim, fun ⟨x, hx, _⟩ => by cases hx⟩), Or.inl ⟨rfl, rfl⟩, hn⟩ (by show (wl_ (lcA G ax)).length - 0 < 1000000; omega) (fun s ⟨k, h1, h2, h3, h4, h5, h6⟩ => ?_) (fun e ⟨h1, h2, h3⟩ => ?_)
  · obtain ⟨v4, s2, s3, M1, S1⟩ := s
    dsimp only at h1 h2 h4 h5 h6 ⊢
    subst h1 h2
    unfold F_L_areWords_B10
    refine Ok.ite (fun c => ?_) (fun c => ?_)
    · rw [if_neg (by decide)]
      have hil : k < (wl_ (lcA G ax)).length := by omega
      have hg := List.getElem?_eq_getElem hil
      generalize (wl_ (lcA G ax))[k] = y at hg
      obtain ⟨hpos, hwy, hDy⟩ := wl_idx hg
      have hpk : pos (lcA G ax) y = (k : Int) := by unfold pos; rw [hpos]
      obtain ⟨⟨cur, hC⟩, hA, hct, hus⟩ := h4
      have hb := h5.of hg
      refine Ok.chk (by omega) (Ok.q (Q_takeWord hC hf hg) (fun u M2 c1 c2 _ => ?_))
      have hl6 := (lc_wd c1.2.1.1 c1.2.1.2.1 hDy).2
      have hl1 := lcA_1 c1.2.1.1 c1.2.1.2.1 hDy
      refine Ok.chk (by omega) (Ok.b3 (LS_word c1 (by omega)) (fun r82 M3 S3 ⟨d1, d2, d3⟩ => ?_))
      dsimp only at d1 d2 d3
      have hA3 := hA.kp d2
      have hb3 := (hb.keep c2).kp d2
      refine Ok.chk (by omega) (Ok.q (Q_isGenerated (c1.kp d2) hf) (fun g M4 e1 e2 e3 => ?_))
      have hg1 : g = 1 := by
        rcases e3 with z | z
        · exact z.1
        · exact absurd hDy z.2
      rw [hg1, if_neg (by decide)]
      refine Ok.chk (by omega) (LS_rank e1 hf hDy (by omega) (fun M5 f1 f2 => ?_))
      rw [hpk, if_pos rfl]
      refine Ok.chk (by omega) ?_
      have k45 := e2.trans f2
      have hT5 := d1.keep k45
      rw [LO (hb3.keep k45) hT5 hwy hl1 (by omega)]
      simp only [zb1_some]
      rw [if_neg (by decide)]
      refine Ok.chk (by omega) ?_
      rw [tx_len (Or.inr hT5) (by have := wT_len y; have := ln_b y; omega), wT_len]
      simp only [zb1_some]
      refine Ok.chk (by omega) ?_
      rw [Q_cnt3 f1, zbx_inr, if_neg (by omega)]
      have ar : ∀ b, 89 < b → b ≤ S1.1 → zkd S1 b ≠ 21 → M5 b = M1 b := fun b q1 q2 q3 => by
        have q4 := d2.kd q2
        rw [k45 b q1 ⟨by have := d2.1.1; omega, by rw [q4.1]; exact q3⟩, (d2.2 b q2).2.2]
        exact c2 b q1 ⟨q2, q3⟩
      have o2 : M5 v2 = M1 v2 := ar v2 hA.1.1 (by have := hA.1.2; omega) (by rw [hA.2.1]; decide)
      have o3 : M5 (v2 + 1) = M1 (v2 + 1) := ar (v2 + 1) (by have := hA.1.1; omega) hA.1.2 (by rw [hA.2.2.2.1]; decide)
      refine (J77 (v7 := r82) f1 hf hG hA3 hg rfl (fun n hn => by rw [o2]; exact hct n hn) (fun c hc => by rw [o3]; exact hus c hc) hT5 (by omega) (by omega)).mono (fun r ⟨M6, p1, p2, p3⟩ => ?_)
      subst p1
      exact ⟨⟨k + 1, rfl, rfl, by omega, p2, Or.inr ⟨k, y, rfl, hg, p3⟩, by dsimp only; omega⟩, by dsimp only; omega⟩
    · have e : k = (wl_ (lcA G ax)).length := by omega
      rw [e, List.take_length] at h4
      exact Ok.ret ⟨rfl, h4, by dsimp only; omega⟩
  · obtain ⟨e1, M1, S1⟩ := e
    dsimp only at h1 h2 h3 ⊢
    subst h1
    unfold F_L_areWords_J201
    exact Ok.chk ⟨by decide, by decide⟩ (Ok.chk (by omega) (Ok.ret ⟨rfl, h2, h3⟩))
end
