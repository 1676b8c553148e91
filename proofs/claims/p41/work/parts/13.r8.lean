/-! PURE 96: one context after another -/
/-- the law's table -/
def FA (q : Nat) (S : zS) : Prop := (89 < q ∧ q ≤ S.1) ∧ zkd S q = 22 ∧ zlen S q = 25
def FSs (q : Nat) (F : Nat → Nat → Prop) (M : zM) : Prop := ∀ a b : Nat, a < 5 → b < 5 → tv (M q (5 * (a : Int) + b)) (F a b)
def FWi (B : Int) (G : zGr) (ax : List Int) (R : zRst) (q : Nat) (F : Nat → Nat → Prop) (M : zM) (S : zS) : Prop := (∃ cur, clsW B G ax cur R M S) ∧ FA q S ∧ FSs q F M
theorem FS_put {q : Nat} {F V : Nat → Nat → Prop} {M M1 : zM} {a0 b0 : Nat} (h : FSs q F M) (h0 : a0 < 5 ∧ b0 < 5) (e : M1 q = up (M q) (5 * (a0 : Int) + b0) 1) (hV : ∀ a b, V a b ↔ F a b ∨ (a = a0 ∧ b = b0)) : FSs q V M1 := by
  intro a b ha hb
  rw [e]
  by_cases z : a = a0 ∧ b = b0
  · obtain ⟨rfl, rfl⟩ := z
    rw [up_eq]
    exact tv_t ((hV a b).mpr (Or.inr ⟨rfl, rfl⟩))
  · rw [up_ne _ _ (by omega)]
    exact tv_iff (h a b ha hb) ((hV a b).trans ⟨fun y => y.resolve_right z, Or.inl⟩).symm
section
variable {B : Int} {G : zGr} {ax : List Int} {R : zRst} {M : zM} {S : zS} {v1 v2 : Int} {q k : Nat} {F : Nat → Nat → Prop} {y : Int}
theorem FWi.qk {M1 : zM} {cur : Int} (h : FWi B G ax R q F M S) (hC : clsW B G ax cur R M1 S) (k : keepM S M M1) : FWi B G ax R q F M1 S := by
  obtain ⟨-, h2, h3⟩ := h
  refine ⟨⟨cur, hC⟩, h2, fun a b ha hb => ?_⟩
  rw [k q h2.1.1 ⟨h2.1.2, by rw [h2.2.1]; decide⟩]; exact h3 a b ha hb
theorem FWi.iff {V : Nat → Nat → Prop} (h : FWi B G ax R q F M S) (hV : ∀ a b, F a b ↔ V a b) : FWi B G ax R q V M S := ⟨h.1, h.2.1, fun a b ha hb => tv_iff (h.2.2 a b ha hb) (hV a b)⟩
/-- what follows one insertion -/
def fOn (G : zGr) (z : Int) (c0 j : Nat) (a b : Nat) : Prop := a = c0 ∧ uTo G z j b
theorem FL78 {z : Int} {c0 : Nat} {vk vn vi : Int} (h : FWi B G ax R q F M S) (hf : fewA G ax) (hg : (wl_ (lcA G ax))[k]? = some z) (hc0 : c0 < 5) (hs : S.1 + 100 ≤ 6000) (hvi : 0 ≤ vi ∧ vi ≤ 300) : Ok (F_L_areFollowing_L78 v1 v2 q vk vn vi (c0 : Int) (k : Int) ((insL G z).length : Int) 0 M S) (fun r => ∃ M1, r = .inl (vi + 1, M1, S) ∧ FWi B G ax R q (fun a b => F a b ∨ fOn G z c0 (insL G z).length a b) M1 S) := by
  obtain ⟨⟨cur0, hC0⟩, hA, -⟩ := id h
  have hlen := len_insL hC0.2.1.1 (x := z)
  have hwz := (wl_idx hg).2.1
  unfold F_L_areFollowing_L78
  refine Ok.loop (fun s : Int × zM × zS => ∃ j : Nat, s.1 = (j : Int) ∧ j ≤ (insL G z).length ∧ s.2.2 = S ∧ FWi B G ax R q (fun a b => F a b ∨ fOn G z c0 j a b) s.2.1 S) (fun s => (insL G z).length - s.1.toNat) (fun e : zM × zS => e.2 = S ∧ FWi B G ax R q (fun a b => F a b ∨ fOn G z c0 (insL G z).length a b) e.1 S) ⟨0, rfl, Nat.zero_le _, rfl, h.iff (fun a b => ⟨Or.inl, fun y => y.resolve_right (fun ⟨_, j, r, w, _⟩ => absurd w (Nat.not_lt_zero j))⟩)⟩ (by show (insL G z).length - 0 < 1000000; omega) (fun s ⟨j, h1, h2, h3, h4⟩ => ?_) (fun e ⟨h1, h2⟩ => ?_)
  · obtain ⟨s1, M1, S1⟩ := s
    dsimp only at h1 h3 h4 ⊢
    subst h1 h3
    unfold F_L_areFollowing_B78
    refine Ok.ite (fun c => ?_) (fun c => ?_)
    · have hil : j < (insL G z).length := by omega
      have hr := List.getElem?_eq_getElem hil
      generalize (insL G z)[j] = r at hr
      obtain ⟨⟨cur, hC⟩, -⟩ := id h4
      refine Ok.chk hs (Ok.q (Q_takeWord hC hf hg) (fun u M6 c1 c2 _ => Ok.chk hs (Ok.q (Q_insert c1 hr) (fun r15 M16 d1 d2 d3 => ?_))))
      subst d3
      have hp := (mem_insL hC.2.1.1 hwz).mp (List.mem_of_getElem? hr)
      have h500 := insP_500 hC.2.1.1 hwz hp
      have hk2 := c2.trans d2
      rw [w_id (a := 5 * (c0 : Int) + ((r / 100 : Nat) : Int)) ⟨by omega, by omega⟩]
      refine Ok.chk hA.2.1 (Ok.chk (by rw [hA.2.2]; omega) (Ok.lett (Ok.lett (Ok.ret ?_))))
      rw [w_id (a := (j : Int) + 1) ⟨by omega, by omega⟩]
      refine ⟨⟨j + 1, rfl, by omega, rfl, ⟨_, d1.tr (A := fun b => b = q) (Nat.le_refl _) (fun _ _ => rfl) (fun _ _ _ => rfl) (fun b _ hb => zs_ne _ _ _ hb) (fun b hb => by subst hb; exact ⟨hA.1.1, ctx_not (Or.inr (Or.inr (Or.inl hA.2.1)))⟩)⟩, hA, FS_put (M := M1) (a0 := c0) (b0 := r / 100) h4.2.2 ⟨hc0, by omega⟩ ?_ (fun a b => ?_)⟩, by dsimp only; omega⟩
      · dsimp only
        rw [zs_eq, hk2 q hA.1.1 ⟨hA.1.2, by rw [hA.2.1]; decide⟩]
      · unfold fOn
        rw [uTo_s hr b]
        constructor
        · rintro (x | ⟨x, y | y⟩)
          · exact Or.inl (Or.inl x)
          · exact Or.inl (Or.inr ⟨x, y⟩)
          · exact Or.inr ⟨x, y⟩
        · rintro ((x | ⟨x, y⟩) | ⟨x, y⟩)
          · exact Or.inl x
          · exact Or.inr ⟨x, Or.inl y⟩
          · exact Or.inr ⟨x, Or.inr y⟩
    · have e : j = (insL G z).length := by omega
      rw [e] at h4
      exact Ok.ret ⟨rfl, h4⟩
  · obtain ⟨M1, S1⟩ := e
    dsimp only at h1 h2 ⊢
    subst h1
    unfold F_L_areFollowing_J111
    refine Ok.lett (Ok.ret ⟨M1, ?_, h2⟩)
    rw [w_id (a := vi + 1) ⟨by omega, by omega⟩]
/-- what follows the first i insertions in a word -/
def fTo (G : zGr) (y : Int) (i : Nat) (a b : Nat) : Prop := ∃ j r, j < i ∧ (insL G y)[j]? = some r ∧ r / 100 = a ∧ ∃ r2, insP G (insV G y r) r2 ∧ r2 / 100 = b
theorem FL42 (h : FWi B G ax R q F M S) (hf : fewA G ax) (hg : (wl_ (lcA G ax))[k]? = some y) (hs : S.1 + 100 ≤ 6000) (hk : k < 400) : Ok (F_L_areFollowing_L42 v1 v2 q (k : Int) ((insL G y).length : Int) 0 M S) (fun r => ∃ M1, r = .inl ((k : Int) + 1, M1, S) ∧ FWi B G ax R q (fun a b => F a b ∨ fTo G y (insL G y).length a b) M1 S) := by
  obtain ⟨⟨cur0, hC0⟩, hA, -⟩ := id h
  have hlen := len_insL hC0.2.1.1 (x := y)
  obtain ⟨hpos, hwy, hDy⟩ := wl_idx hg
  unfold F_L_areFollowing_L42
  refine Ok.loop (fun s : Int × zM × zS => ∃ j : Nat, s.1 = (j : Int) ∧ j ≤ (insL G y).length ∧ s.2.2 = S ∧ FWi B G ax R q (fun a b => F a b ∨ fTo G y j a b) s.2.1 S) (fun s => (insL G y).length - s.1.toNat) (fun e : zM × zS => e.2 = S ∧ FWi B G ax R q (fun a b => F a b ∨ fTo G y (insL G y).length a b) e.1 S) ⟨0, rfl, Nat.zero_le _, rfl, h.iff (fun a b => ⟨Or.inl, fun y => y.resolve_right (fun ⟨j, r, w, _⟩ => absurd w (Nat.not_lt_zero j))⟩)⟩ (by show (insL G y).length - 0 < 1000000; omega) (fun s ⟨j, h1, h2, h3, h4⟩ => ?_) (fun e ⟨h1, h2⟩ => ?_)
  · obtain ⟨s1, M1, S1⟩ := s
    dsimp only at h1 h3 h4 ⊢
    subst h1 h3
    unfold F_L_areFollowing_B42
    refine Ok.ite (fun c => ?_) (fun c => ?_)
    · have hil : j < (insL G y).length := by omega
      have hr := List.getElem?_eq_getElem hil
      generalize (insL G y)[j] = r at hr
      obtain ⟨⟨cur, hC⟩, -⟩ := id h4
      refine Ok.chk hs (Ok.q (Q_takeWord hC hf hg) (fun u M6 c1 c2 _ => Ok.chk hs (Ok.q (Q_insert c1 hr) (fun r15 M16 d1 d2 d3 => ?_))))
      subst d3
      have hG := hC.2.1.1
      have hp := (mem_insL hG hwy).mp (List.mem_of_getElem? hr)
      have h500 := insP_500 hG hwy hp
      have hl : lcA G ax (insV G y r) := lc_ins hDy hp trivial
      have hv := insV_r hG hwy hp
      have hgz := wl_at hv.1 hl
      refine Ok.chk hs (LS_rank d1 hf hl hs (fun M17 e1 e2 => Ok.chk hs (Ok.b2 (Q_insertions e1) (fun v M18 ⟨f1, f2, f3⟩ => ?_))))
      dsimp only at f1 f2 f3
      subst f1
      have h5 := h4.qk f2 (((c2.trans d2).trans e2).trans f3)
      have hpz : pos (lcA G ax) (insV G y r) = ((cnt (lcA G ax) (insV G y r).toNat : Nat) : Int) := rfl
      rw [hpz]
      refine (FL78 (c0 := r / 100) h5 hf hgz (by omega) hs ⟨by omega, by omega⟩).mono (fun rr ⟨M2, p1, p2⟩ => ?_)
      subst p1
      refine ⟨⟨j + 1, rfl, by omega, rfl, p2.iff (fun a b => ?_)⟩, by dsimp only; omega⟩
      constructor
      · rintro ((x | ⟨i, r2, x1, x2, x3, x4⟩) | ⟨x, i, r2, x1, x2, x3⟩)
        · exact Or.inl x
        · exact Or.inr ⟨i, r2, by omega, x2, x3, x4⟩
        · exact Or.inr ⟨j, r, by omega, hr, x.symm, r2, (mem_insL hG hv.1).mp (List.mem_of_getElem? x2), x3⟩
      · rintro (x | ⟨i, r2, x1, x2, x3, r3, x4, x5⟩)
        · exact Or.inl (Or.inl x)
        · by_cases z : i = j
          · subst z
            rw [hr] at x2
            cases x2
            obtain ⟨i2, hi2, he⟩ := List.getElem_of_mem ((mem_insL hG hv.1).mpr x4)
            exact Or.inr ⟨x3.symm, i2, r3, hi2, by rw [List.getElem?_eq_getElem hi2, he], x5⟩
          · exact Or.inl (Or.inr ⟨i, r2, by omega, x2, x3, r3, x4, x5⟩)
    · have e : j = (insL G y).length := by omega
      rw [e] at h4
      exact Ok.ret ⟨rfl, h4⟩
  · obtain ⟨M1, S1⟩ := e
    dsimp only at h1 h2 ⊢
    subst h1
    unfold F_L_areFollowing_J117
    refine Ok.lett (Ok.ret ⟨M1, ?_, h2⟩)
    rw [w_id (a := (k : Int) + 1) ⟨by omega, by omega⟩]
/-- what follows in some words -/
def fW (G : zGr) (W : List Int) (a b : Nat) : Prop := ∃ x ∈ W, ∃ r, insP G x r ∧ r / 100 = a ∧ ∃ r2, insP G (insV G x r) r2 ∧ r2 / 100 = b
theorem fW_foll {W : List Int} (hW : ∀ x ∈ W, lcA G ax x) {a b : Nat} (h : fW G W a b) : foll G ax a b := by
  obtain ⟨x, hx, r, h1, h2, r2, h3, h4⟩ := h
  exact ⟨insV G x r, r2, lc_ins (hW x hx) h1 trivial, h3, h4, x, r, hW x hx, h1, rfl, h2⟩
theorem foll_fW (hG : grok G) (hax : axok ax) {a b : Nat} (h : foll G ax a b) : fW G (wl_ (lcA G ax)) a b := by
  obtain ⟨x, r, h1, h2, h3, z, r2, h4, h5, h6, h7⟩ := h
  exact ⟨z, List.mem_of_getElem? (wl_at (lc_wd hG hax h4).1 h4), r2, h5, h7, r, by rw [h6]; exact h2, h3⟩
end
