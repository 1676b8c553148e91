/-! PURE 97: one context after another: all of it -/
section
variable {B : Int} {G : zGr} {ax : List Int} {R : zRst} {M : zM} {S : zS} {v1 v2 : Int} {q k : Nat} {F : Nat → Nat → Prop} {y : Int}
theorem FB14 (h : FWi B G ax R q (fW G ((wl_ (lcA G ax)).take k)) M S) (hf : fewA G ax) (hg : (wl_ (lcA G ax))[k]? = some y) (hs : S.1 + 100 ≤ 6000) (hk : k < 40) : Ok (F_L_areFollowing_B14 ((wl_ (lcA G ax)).length : Int) v2 q (k : Int) M S) (fun r => ∃ M1, r = .inl ((k : Int) + 1, M1, S) ∧ FWi B G ax R q (fW G ((wl_ (lcA G ax)).take (k + 1))) M1 S) := by
  obtain ⟨⟨cur, hC⟩, hA, -⟩ := id h
  obtain ⟨hpos, hwy, hDy⟩ := wl_idx hg
  have hil := (List.getElem?_eq_some_iff.mp hg).1
  have hG := hC.2.1.1
  unfold F_L_areFollowing_B14
  refine Ok.pos (by omega) (Ok.pos (by omega) (Ok.chk hs (Ok.q (Q_takeWord hC hf hg) (fun u M1 c1 c2 _ => Ok.chk hs (Ok.b2 (Q_insertions c1) (fun v M2 ⟨d1, d2, d3⟩ => ?_))))))
  dsimp only at d1 d2 d3
  subst d1
  refine (FL42 (h.qk d2 (c2.trans d3)) hf hg hs (by omega)).mono (fun r ⟨M3, e1, e2⟩ => ⟨M3, e1, e2.iff (fun a b => ?_)⟩)
  have tk : (wl_ (lcA G ax)).take (k + 1) = (wl_ (lcA G ax)).take k ++ [y] := by rw [List.take_add_one, hg]; rfl
  rw [tk]
  constructor
  · rintro (⟨x, hx, z⟩ | ⟨j, r, h1, h2, h3, h4⟩)
    · exact ⟨x, List.mem_append_left _ hx, z⟩
    · exact ⟨y, List.mem_append_right _ List.mem_cons_self, r, (mem_insL hG hwy).mp (List.mem_of_getElem? h2), h3, h4⟩
  · rintro ⟨x, hx, r, h1, h2, h3⟩
    rcases List.mem_append.mp hx with hx | hx
    · exact Or.inl ⟨x, hx, r, h1, h2, h3⟩
    · rw [List.mem_singleton] at hx
      subst hx
      obtain ⟨j, hj, he⟩ := List.getElem_of_mem ((mem_insL hG hwy).mpr h1)
      exact Or.inr ⟨j, r, hj, by rw [List.getElem?_eq_getElem hj, he], h2, h3⟩
/-- the table is right, as far as it goes -/
def FOK (G : zGr) (ax : List Int) (v1 : Int) (F : Nat → Nat → Prop) : Prop := (∀ a b, F a b → foll G ax a b) ∧ (¬ 40 < v1 → ∀ a b, foll G ax a b → F a b)
theorem FB138 {a b : Nat} (h : FWi B G ax R q F M S) (hf : fewA G ax) (hF : FOK G ax v1 F) (ha : a < G.2.2.length) (hb : b < G.2.2.length) (hs : S.1 + 100 ≤ 6000) : Ok (F_L_areFollowing_B138 v1 (G.2.2.length : Int) q 1 (a : Int) (b : Int) M S) (fun r => ∃ M1, r = .inl (1, (b : Int) + 1, M1, S) ∧ FWi B G ax R q F M1 S) := by
  obtain ⟨⟨cur, hC⟩, hA, -⟩ := id h
  have h5 := hC.2.1.1.2.2.1
  have hix : w (5 * (a : Int) + (b : Int)) = 5 * (a : Int) + (b : Int) := w_id ⟨by omega, by omega⟩
  have hz : (0 : Int) ≤ 5 * (a : Int) + (b : Int) ∧ 5 * (a : Int) + (b : Int) < zlen S q := by rw [hA.2.2]; omega
  have fin : ∀ M1, FWi B G ax R q F M1 S → Ok (F_L_areFollowing_J198 v1 (G.2.2.length : Int) q (a : Int) (b : Int) M1 S) (fun r => ∃ M1, r = .inl (1, (b : Int) + 1, M1, S) ∧ FWi B G ax R q F M1 S) := fun M1 h1 => by
    unfold F_L_areFollowing_J198 F_L_areFollowing_J203
    refine Ok.lett (Ok.ret ⟨M1, ?_, h1⟩)
    rw [w_id (a := (b : Int) + 1) ⟨by omega, by omega⟩]
  have fin2 : ∀ M1 cur, clsW B G ax cur R M1 S → FWi B G ax R q F M1 S → Ok (F_L_areFollowing_J172 v1 (G.2.2.length : Int) q (a : Int) (b : Int) M1 S) (fun r => ∃ M1, r = .inl (1, (b : Int) + 1, M1, S) ∧ FWi B G ax R q F M1 S) := fun M1 cur c1 h1 => by
    unfold F_L_areFollowing_J172
    refine Ok.ite (fun _ => fin M1 h1) (fun z => Ok.chk hs (Ok.q (Q_canFollow c1 hf ha hb) (fun r7 M2 d1 d2 d3 => ?_)))
    have h2 := h1.qk d1 d2
    rw [hix]
    refine Ok.chk hA.2.1 (Ok.chk hz (Ok.pos ?_ (fin M2 h2)))
    exact tv_u d3 (tv_iff (h2.2.2 a b (by omega) (by omega)) ⟨hF.1 a b, hF.2 z a b⟩)
  unfold F_L_areFollowing_B138
  refine Ok.pos (by omega) (Ok.neg (by decide) (Ok.chk hs (Ok.q (Q_canFollow hC hf ha hb) (fun r22 M1 a1 a2 a3 => ?_))))
  have h1 := h.qk a1 a2
  rw [hix]
  refine Ok.ite (fun z => Ok.chk hA.2.1 (Ok.chk hz (Ok.pos ?_ (fin2 M1 _ a1 h1)))) (fun z => fin2 M1 _ a1 h1)
  rcases h1.2.2 a b (by omega) (by omega) with x | x
  · exact absurd (hF.1 a b x.2) (tv_0 a3 z)
  · exact x.1
theorem FL138 {a : Nat} (h : FWi B G ax R q F M S) (hf : fewA G ax) (hF : FOK G ax v1 F) (ha : a < G.2.2.length) (hs : S.1 + 100 ≤ 6000) : Ok (F_L_areFollowing_L138 v1 (G.2.2.length : Int) q 1 (a : Int) 0 M S) (fun r => ∃ M1, r = .inl (1, (a : Int) + 1, M1, S) ∧ FWi B G ax R q F M1 S) := by
  obtain ⟨⟨cur, hC⟩, hA, -⟩ := id h
  have h5 := hC.2.1.1.2.2.1
  unfold F_L_areFollowing_L138
  refine Ok.loop (fun s : Int × Int × zM × zS => ∃ b : Nat, s.1 = 1 ∧ s.2.1 = (b : Int) ∧ b ≤ G.2.2.length ∧ s.2.2.2 = S ∧ FWi B G ax R q F s.2.2.1 S) (fun s => G.2.2.length - s.2.1.toNat) (fun e : Int × zM × zS => e.1 = 1 ∧ e.2.2 = S ∧ FWi B G ax R q F e.2.1 S) ⟨0, rfl, rfl, Nat.zero_le _, rfl, h⟩ (by show G.2.2.length - 0 < 1000000; omega) (fun s ⟨b, h0, h1, h2, h3, h4⟩ => ?_) (fun e ⟨h1, h2, h3⟩ => ?_)
  · obtain ⟨s1, s2, M2, S2⟩ := s
    dsimp only at h0 h1 h3 h4 ⊢
    subst h0 h1 h3
    by_cases z : b < G.2.2.length
    · refine (FB138 h4 hf hF ha z hs).mono (fun r ⟨M3, e1, e2⟩ => ?_)
      subst e1
      exact ⟨⟨b + 1, rfl, rfl, by omega, rfl, e2⟩, by dsimp only; omega⟩
    · unfold F_L_areFollowing_B138
      exact Ok.neg (by omega) (Ok.ret ⟨rfl, rfl, h4⟩)
  · obtain ⟨e1, M2, S2⟩ := e
    dsimp only at h1 h2 h3 ⊢
    subst h1 h2
    unfold F_L_areFollowing_J211
    refine Ok.lett (Ok.ret ⟨M2, ?_, h3⟩)
    rw [w_id (a := (a : Int) + 1) ⟨by omega, by omega⟩]
theorem FL129 (h : FWi B G ax R q F M S) (hf : fewA G ax) (hF : FOK G ax v1 F) (hs : S.1 + 100 ≤ 6000) : Ok (F_L_areFollowing_L129 v1 (G.2.2.length : Int) q 1 0 M S) (fun r => r.1 = 1 ∧ r.2.2 = S ∧ ∃ cur, clsW B G ax cur R r.2.1 S) := by
  unfold F_L_areFollowing_L129
  refine Ok.loop (fun s : Int × Int × zM × zS => ∃ a : Nat, s.1 = 1 ∧ s.2.1 = (a : Int) ∧ a ≤ G.2.2.length ∧ s.2.2.2 = S ∧ FWi B G ax R q F s.2.2.1 S) (fun s => G.2.2.length - s.2.1.toNat) (fun e : Int × zM × zS => e.1 = 1 ∧ e.2.2 = S ∧ FWi B G ax R q F e.2.1 S) ⟨0, rfl, rfl, Nat.zero_le _, rfl, h⟩ ?_ (fun s ⟨a, h0, h1, h2, h3, h4⟩ => ?_) (fun e ⟨h1, h2, h3⟩ => ?_)
  · obtain ⟨⟨cur, hC⟩, -⟩ := h
    have h5 := hC.2.1.1.2.2.1
    show G.2.2.length - 0 < 1000000
    omega
  · obtain ⟨s1, s2, M2, S2⟩ := s
    dsimp only at h0 h1 h3 h4 ⊢
    subst h0 h1 h3
    unfold F_L_areFollowing_B129
    refine Ok.ite (fun z => ?_) (fun z => Ok.ret ⟨rfl, rfl, h4⟩)
    refine (FL138 h4 hf hF (by omega) hs).mono (fun r ⟨M3, e1, e2⟩ => ?_)
    subst e1
    exact ⟨⟨a + 1, rfl, rfl, by omega, rfl, e2⟩, by dsimp only; omega⟩
  · obtain ⟨e1, M2, S2⟩ := e
    dsimp only at h1 h2 h3 ⊢
    subst h1 h2
    unfold F_L_areFollowing_J217
    exact Ok.chk ⟨by decide, by decide⟩ (Ok.chk hs (Ok.ret ⟨rfl, rfl, h3.1⟩))
theorem LF {cur : Int} (hC : clsW B G ax cur R M S) (hf : fewA G ax) (hs : S.1 + 110 ≤ 6000) : Ok (F_L_areFollowing (cnt (lcA G ax) 29524 : Int) M S) (fun r => r.1 = 1 ∧ r.2.2.1 = S.1 + 1 ∧ ∃ cur, clsW B G ax cur R r.2.1 r.2.2) := by
  have h300 : cnt (lcA G ax) 29524 ≤ 300 := hf
  have hG := hC.2.1.1
  have hax := hC.2.1.2.1
  rw [← wl_cnt] at h300 ⊢
  unfold F_L_areFollowing
  refine Ok.chk (by omega) ?_
  rw [Q_cnt1 hC, zbx_inr]
  refine Ok.chk (by omega) (Ok.lett (Ok.lett (Ok.lett ?_)))
  have hkp : kp S.1 S M (zn S (22, 25)) (up M (S.1 + 1) (fun _ => 0)) := ⟨⟨Nat.le_succ _, Nat.le_refl _⟩, fun b hb => ⟨zn_old hb, rfl, up_ne _ _ (by omega)⟩⟩
  have hC1 := hC.kp hkp
  have hA : FA (S.1 + 1) (zn S (22, 25)) := ⟨⟨by have := hC.1.1; omega, Nat.le_refl _⟩, (zk_new rfl).1, (zk_new rfl).2⟩
  have hF0 : FSs (S.1 + 1) (fW G ((wl_ (lcA G ax)).take 0)) (up M (S.1 + 1) (fun _ => 0)) := fun a b _ _ => by
    rw [up_eq]
    exact tv_f (fun ⟨x, hx, _⟩ => by rw [List.take_zero] at hx; cases hx)
  have e1 : (zn S (22, 25)).1 = S.1 + 1 := rfl
  have hw0 : FWi B G ax R (S.1 + 1) (fW G ((wl_ (lcA G ax)).take 0)) (up M (S.1 + 1) (fun _ => 0)) (zn S (22, 25)) := ⟨⟨cur, hC1⟩, hA, hF0⟩
  generalize up M (S.1 + 1) (fun _ => 0) = M1 at hw0
  generalize zn S (22, 25) = S1 at hw0 e1
  have hall : ∀ x ∈ wl_ (lcA G ax), lcA G ax x := fun x hx => by
    obtain ⟨i, hi, he⟩ := List.getElem_of_mem hx
    have hg := List.getElem?_eq_getElem hi
    rw [he] at hg
    exact (wl_idx hg).2.2
  unfold F_L_areFollowing_L14
  refine Ok.loop (fun s : Int × zM × zS => ∃ k : Nat, s.1 = (k : Int) ∧ k ≤ (wl_ (lcA G ax)).length ∧ k ≤ 40 ∧ s.2.2 = S1 ∧ FWi B G ax R (S.1 + 1) (fW G ((wl_ (lcA G ax)).take k)) s.2.1 S1) (fun s => 40 - s.1.toNat) (fun e : zM × zS => e.2 = S1 ∧ ∃ F, FWi B G ax R (S.1 + 1) F e.1 S1 ∧ FOK G ax ((wl_ (lcA G ax)).length : Int) F) ⟨0, rfl, Nat.zero_le _, by omega, rfl, hw0⟩ (by show 40 - 0 < 1000000; omega) (fun s ⟨k, h1, h2, h3, h4, h5⟩ => ?_) (fun e ⟨h1, F, h2, h3⟩ => ?_)
  · obtain ⟨s1, M2, S2⟩ := s
    dsimp only at h1 h4 h5 ⊢
    subst h1 h4
    have hend : k = (wl_ (lcA G ax)).length ∨ k = 40 → FOK G ax ((wl_ (lcA G ax)).length : Int) (fW G ((wl_ (lcA G ax)).take k)) := fun z => ⟨fun a b q => fW_foll (fun x hx => hall x (List.mem_of_mem_take hx)) q, fun z2 a b q => by
      rcases z with z | z
      · rw [z, List.take_length]; exact foll_fW hG hax q
      · rw [List.take_of_length_le (by omega)]; exact foll_fW hG hax q⟩
    by_cases z : k < (wl_ (lcA G ax)).length
    · by_cases z2 : k < 40
      · refine (FB14 h5 hf (List.getElem?_eq_getElem z) (by omega) z2).mono (fun r ⟨M3, p1, p2⟩ => ?_)
        subst p1
        exact ⟨⟨k + 1, rfl, by omega, by omega, rfl, p2⟩, by dsimp only; omega⟩
      · unfold F_L_areFollowing_B14
        exact Ok.pos (by omega) (Ok.neg (by omega) (Ok.ret ⟨rfl, _, h5, hend (Or.inr (by omega))⟩))
    · unfold F_L_areFollowing_B14
      exact Ok.neg (by omega) (Ok.ret ⟨rfl, _, h5, hend (Or.inl (by omega))⟩)
  · obtain ⟨M2, S2⟩ := e
    dsimp only at h1 h2 ⊢
    subst h1
    unfold F_L_areFollowing_J123
    refine (FL129 h2 hf h3 (by omega)).mono (fun r ⟨p1, p2, cur2, p3⟩ => ⟨p1, by rw [p2]; exact e1, cur2, by rw [p2]; exact p3⟩)
end
