/-! PURE 95: contexts: all of it -/
section
variable {B : Int} {G : zGr} {ax : List Int} {R : zRst} {M : zM} {S : zS} {v2 v3 m : Int} {q2 n : Nat} {T : List Int}
theorem CJ225 {K : zGr} (hC : grok G ∧ axok ax) (hf : fewA G ax) (hm : minP G ax m) (hk : KT G K m 0) (h : SV B G ax T n K M S) (hs : n + 101 ≤ 6000) : Ok (F_L_areContexts_J225 (cnt (lcA G ax) 29524 : Int) 1 M S) (fun r => r.1 = 1 ∧ SV B G ax T n G r.2.1 r.2.2) := by
  have hcs := hk.CS
  have hge := (CS_gen hC.1 hC.2 hcs).mpr hm.2.1
  have e1 := h.2
  unfold F_L_areContexts_J225
  refine Ok.neg (by decide) (Ok.chk (by omega) (Ok.b3 (h.size (CS_few hcs hf) hs) (fun r14 M1 S1 ⟨b1, s1⟩ => ?_)))
  dsimp only at b1 s1
  have e2 := s1.2
  unfold F_L_areContexts_J243
  refine Ok.pos (by omega) (Ok.chk (by omega) (Ok.bx s1.rest (fun e M5 S5 q => by cases q.1) (fun u M5 S5 ⟨_, s5⟩ => ?_)))
  dsimp only at s5
  have e5 := s5.2
  exact Ok.chk ⟨by decide, by decide⟩ (Ok.chk (by omega) (Ok.ret ⟨rfl, s5⟩))
theorem CL198 (hC : grok G ∧ axok ax) (hf : fewA G ax) (hm : minP G ax m) (h : SV B G ax T n G M S) (hs : n + 101 ≤ 6000) : Ok (F_L_areContexts_J192 (cnt (lcA G ax) 29524 : Int) (G.2.2.length : Int) 1 m M S) (fun r => r.1 = 1 ∧ SV B G ax T n G r.2.1 r.2.2) := by
  have h5 := hC.1.2.2.1
  have h32 := two5 G.2.2.length h5
  have hm0 := hm.1
  unfold F_L_areContexts_J192 F_L_areContexts_L198
  refine Ok.lett ?_
  rw [w_id (a := (G.2.2.length : Int) - 1) ⟨by omega, by omega⟩]
  refine Ok.loop (fun s : Int × zM × zS => ∃ (j : Nat) (K : zGr), s.1 = (j : Int) - 1 ∧ j ≤ G.2.2.length ∧ KT G K m j ∧ SV B G ax T n K s.2.1 s.2.2) (fun s => (s.1 + 1).toNat) (fun e : zM × zS => ∃ K : zGr, KT G K m 0 ∧ SV B G ax T n K e.1 e.2) ⟨G.2.2.length, G, rfl, Nat.le_refl _, KT.s0, h⟩ (by show ((G.2.2.length : Int) - 1 + 1).toNat < 1000000; omega) (fun s ⟨j, K, h1, h2, h3, h4⟩ => ?_) (fun e ⟨K, h1, h2⟩ => CJ225 hC hf hm h1 h2 hs)
  obtain ⟨s1, M1, S1⟩ := s
  dsimp only at h1 h4 ⊢
  subst h1
  have e1 := h4.2
  unfold F_L_areContexts_B198
  match j, h2, h3 with
  | 0, h2, h3 => exact Ok.pos (by omega) (Ok.ret ⟨K, h3, h4⟩)
  | j + 1, h2, h3 =>
    rw [show ((j + 1 : Nat) : Int) - 1 = (j : Int) by omega]
    have hbz := bit_z m.toNat (by omega) j (by omega)
    rw [show ((m.toNat : Nat) : Int) = m by omega] at hbz
    have fin : ∀ (K1 : zGr) (M2 : zM) (S2 : zS), KT G K1 m j → SV B G ax T n K1 M2 S2 → Ok (F_L_areContexts_J219 (cnt (lcA G ax) 29524 : Int) 1 m (j : Int) M2 S2) (Turn (fun s : Int × zM × zS => ∃ (j : Nat) (K : zGr), s.1 = (j : Int) - 1 ∧ j ≤ G.2.2.length ∧ KT G K m j ∧ SV B G ax T n K s.2.1 s.2.2) (fun s => (s.1 + 1).toNat) (fun e : zM × zS => ∃ K : zGr, KT G K m 0 ∧ SV B G ax T n K e.1 e.2) ((j : Int), M1, S1)) := fun K1 M2 S2 k1 k2 => by
      unfold F_L_areContexts_J219
      refine Ok.lett (Ok.ret ?_)
      rw [w_id (a := (j : Int) + -1) ⟨by omega, by omega⟩]
      exact ⟨⟨j, K1, by dsimp only; omega, by omega, k1, k2⟩, by dsimp only; omega⟩
    refine Ok.neg (by omega) (Ok.ite (fun z => ?_) (fun z => ?_))
    · have hb : ¬ bs m j := fun q => by
        have := hbz.mp z
        unfold bs at q
        rw [q] at this; cases this
      obtain ⟨k1, k2⟩ := h3.no (by omega) hb
      refine Ok.chk (by omega) (Ok.bx (h4.rem k1) (fun e M2 S2 q => by cases q.1) (fun u M2 S2 ⟨_, s2⟩ => fin _ M2 S2 k2 s2))
    · have hb : bs m j := by
        unfold bs
        cases e : m.toNat.testBit j with
        | true => rfl
        | false => exact absurd (hbz.mpr e) z
      exact fin K M1 S1 (h3.yes (by omega) hb) h4
theorem CL125 (hC : grok G ∧ axok ax) (hf : fewA G ax) (hm : minP G ax m) (h : SV B G ax T n G M S) (hs : n + 101 ≤ 6000) : Ok (F_L_areContexts_L125 (cnt (lcA G ax) 29524 : Int) (G.2.2.length : Int) 1 m ((G.2.2.length : Int) - 1) M S) (fun r => r.1 = 1 ∧ SV B G ax T n G r.2.1 r.2.2) := by
  have h5 := hC.1.2.2.1
  unfold F_L_areContexts_L125
  refine Ok.loop (fun s : Int × Int × zM × zS => ∃ j : Nat, s.1 = 1 ∧ s.2.1 = (j : Int) - 1 ∧ j ≤ G.2.2.length ∧ SV B G ax T n G s.2.2.1 s.2.2.2) (fun s => (s.2.1 + 1).toNat) (fun e : Int × zM × zS => e.1 = 1 ∧ SV B G ax T n G e.2.1 e.2.2) ⟨G.2.2.length, rfl, rfl, Nat.le_refl _, h⟩ (by show ((G.2.2.length : Int) - 1 + 1).toNat < 1000000; omega) (fun s ⟨j, h0, h1, h2, h4⟩ => ?_) (fun e ⟨h1, h2⟩ => ?_)
  · obtain ⟨s1, s2, M1, S1⟩ := s
    dsimp only at h0 h1 h4 ⊢
    subst h0 h1
    match j, h2 with
    | 0, h2 =>
      unfold F_L_areContexts_B125
      exact Ok.pos (by omega) (Ok.ret ⟨rfl, h4⟩)
    | j + 1, h2 =>
      rw [show ((j + 1 : Nat) : Int) - 1 = (j : Int) by omega]
      refine (CB125 h4 hf (by omega) hs).mono (fun r ⟨M2, S2, e1, e2⟩ => ?_)
      subst e1
      exact ⟨⟨j, rfl, rfl, by omega, e2⟩, by dsimp only; omega⟩
  · obtain ⟨e1, M1, S1⟩ := e
    dsimp only at h1 h2 ⊢
    subst h1
    exact CL198 hC hf hm h2 hs
theorem LC {vx : Int} (h : AWi B G ax R q2 (wl_ (lcA G ax)) (uK G (wl_ (lcA G ax))) M S) (hf : fewA G ax) (hs : S.1 + 101 ≤ 6000) : Ok (F_L_areContexts vx (cnt (lcA G ax) 29524 : Int) (q2 + 1) M S) (fun r => r.1 = 1 ∧ SV B G ax R.2.1 S.1 G r.2.1 r.2.2) := by
  obtain ⟨⟨cur, hC⟩, hA, -⟩ := id h
  have h5 := hC.2.1.1.2.2.1
  unfold F_L_areContexts
  refine Ok.chk (by omega) ?_
  rw [Q_cnt1 hC, zbx_inr]
  refine Ok.chk (by omega) (Ok.q (Q_minimal hC hf) (fun m M1 a1 a2 hm => Ok.neg (by decide) (Ok.pos (by rw [zshl_1 _ h5]; exact hm.1.2) ?_)))
  unfold F_L_areContexts_J35 F_L_areContexts_L40
  refine Ok.loop (fun s : Int × Int × zM × zS => ∃ c : Nat, s.1 = 1 ∧ s.2.1 = (c : Int) ∧ c ≤ G.2.2.length ∧ s.2.2.2 = S ∧ AWi B G ax R q2 (wl_ (lcA G ax)) (uK G (wl_ (lcA G ax))) s.2.2.1 S) (fun s => G.2.2.length - s.2.1.toNat) (fun e : Int × zM × zS => e.1 = 1 ∧ e.2.2 = S ∧ AWi B G ax R q2 (wl_ (lcA G ax)) (uK G (wl_ (lcA G ax))) e.2.1 S) ⟨0, rfl, rfl, Nat.zero_le _, rfl, h.q a1 a2⟩ (by show G.2.2.length - 0 < 1000000; omega) (fun s ⟨c, h0, h1, h2, h3, h4⟩ => ?_) (fun e ⟨h1, h2, h3⟩ => ?_)
  · obtain ⟨s1, s2, M2, S2⟩ := s
    dsimp only at h0 h1 h3 h4 ⊢
    subst h0 h1 h3
    by_cases q : c < G.2.2.length
    · refine (CB40 h4 hf hm q (by omega)).mono (fun r ⟨M3, e1, e2⟩ => ?_)
      subst e1
      exact ⟨⟨c + 1, rfl, rfl, by omega, rfl, e2⟩, by dsimp only; omega⟩
    · unfold F_L_areContexts_B40
      exact Ok.neg (by omega) (Ok.ret ⟨rfl, rfl, h4⟩)
  · obtain ⟨e1, M2, S2⟩ := e
    dsimp only at h1 h2 h3 ⊢
    subst h1 h2
    obtain ⟨⟨c2, hC2⟩, -⟩ := h3
    unfold F_L_areContexts_J115
    refine Ok.chk (by omega) (Ok.b2 (Q_save hC2) (fun M3 S3 ⟨b1, b2⟩ => Ok.lett ?_))
    dsimp only at b1 b2
    rw [w_id (a := (G.2.2.length : Int) - 1) ⟨by omega, by omega⟩]
    exact CL125 ⟨hC2.2.1.1, hC2.2.1.2.1⟩ hf hm ⟨⟨c2, _, c2, b1, rfl, rfl⟩, b2⟩ hs
end
