/-! PURE 94: contexts -/
theorem Q_save {B : Int} {G : zGr} {ax : List Int} {cur : Int} {R : zRst} {M : zM} {S : zS} (hC : clsW B G ax cur R M S) : Ok (F_X10_save M S) (fun r => clsW B G ax cur (some (G, ax, cur), R.2) r.1 r.2 ∧ r.2.1 = S.1) := (CX_save hC).mono (fun r h => ⟨h.1, h.2.2.1⟩)
theorem Q_restore {B : Int} {G G1 : zGr} {ax ax1 : List Int} {cur cur1 : Int} {R : zRst} {M : zM} {S : zS} (hC : clsW B G ax cur R M S) (hs : R.1 = some (G1, ax1, cur1)) : Ok (F_X10_restore M S) (fun r => r.1 = .inr () ∧ clsW B G1 ax1 cur1 R r.2.1 r.2.2 ∧ r.2.2.1 = S.1) := (CX_restore hC hs).mono (fun r h => ⟨h.1, h.2.1, h.2.2.2.1⟩)
section
variable {B : Int} {G : zGr} {ax : List Int} {R : zRst} {M : zM} {S : zS} {v2 v3 m : Int} {q2 : Nat} {W : List Int} {U : Nat → Prop} {c : Nat}
theorem CJ83 (h : AWi B G ax R q2 W U M S) (hf : fewA G ax) (hm : minP G ax m) (hc : c < G.2.2.length) (hs : S.1 + 100 ≤ 6000) : Ok (F_L_areContexts_J83 v3 (q2 + 1) (G.2.2.length : Int) m (c : Int) M S) (fun r => ∃ M1, r = .inl (1, (c : Int) + 1, M1, S) ∧ AWi B G ax R q2 W U M1 S) := by
  obtain ⟨⟨cur, hC⟩, -⟩ := id h
  have hG := hC.2.1.1
  have h5 := hG.2.2.1
  have h32 := two5 G.2.2.length h5
  have fin : ∀ M1, AWi B G ax R q2 W U M1 S → Ok (F_L_areContexts_J102 v3 (q2 + 1) (G.2.2.length : Int) m (c : Int) M1 S) (fun r => ∃ M1, r = .inl (1, (c : Int) + 1, M1, S) ∧ AWi B G ax R q2 W U M1 S) := fun M1 h1 => by
    unfold F_L_areContexts_J102 F_L_areContexts_J107
    refine Ok.lett (Ok.ret ⟨M1, ?_, h1⟩)
    rw [w_id (a := (c : Int) + 1) ⟨by omega, by omega⟩]
  unfold F_L_areContexts_J83
  refine Ok.chk hs (Ok.q (Q_isRedundant hC hf hc) (fun r83 M1 a1 a2 a3 => Ok.ite (fun z => fin M1 (h.q a1 a2)) (fun z => Ok.chk hs ?_)))
  rw [bcf_e ⟨hm.1.1, by have := hm.1.2; omega⟩]
  simp only [zb1_some]
  exact Ok.pos (red_min hG hm hc (tv_1 a3 z)) (fin M1 (h.q a1 a2))
theorem CB40 (h : AWi B G ax R q2 (wl_ (lcA G ax)) (uK G (wl_ (lcA G ax))) M S) (hf : fewA G ax) (hm : minP G ax m) (hc : c < G.2.2.length) (hs : S.1 + 100 ≤ 6000) : Ok (F_L_areContexts_B40 v3 (q2 + 1) (G.2.2.length : Int) 1 m (c : Int) M S) (fun r => ∃ M1, r = .inl (1, (c : Int) + 1, M1, S) ∧ AWi B G ax R q2 (wl_ (lcA G ax)) (uK G (wl_ (lcA G ax))) M1 S) := by
  obtain ⟨⟨cur, hC⟩, hA, -⟩ := id h
  have hG := hC.2.1.1
  have hax := hC.2.1.2.1
  have h5 := hG.2.2.1
  unfold F_L_areContexts_B40
  refine Ok.pos (by omega) (Ok.neg (by decide) (Ok.chk hs (Ok.q (Q_isUsed hC hf hc) (fun r99 M1 a1 a2 a3 => ?_))))
  have h1 := h.q a1 a2
  have hz : (0 : Int) ≤ (c : Int) ∧ (c : Int) < zlen S (q2 + 1) := by rw [hA.2.2.2.2]; omega
  have hu := tv_iff (h1.2.2.2 c (by omega)) (usd_uK hG hax c)
  refine Ok.chk hA.2.2.2.1 (Ok.chk hz (Ok.pos (tv_u a3 hu) (Ok.chk hA.2.2.2.1 (Ok.chk hz (Ok.ite (fun z => ?_) (fun z => CJ83 h1 hf hm hc hs))))))
  refine Ok.chk hs (Ok.q (Q_isRedundant a1 hf hc) (fun r116 M2 b1 b2 b3 => Ok.neg (fun e => ?_) (CJ83 (h1.q b1 b2) hf hm hc hs)))
  exact tv_0 b3 e (usd_gen (tv_0 hu z))
end
section
variable {B : Int} {G : zGr} {ax : List Int} {R : zRst} {M : zM} {S : zS} {v2 v3 m : Int} {q2 : Nat} {cur : Int} {n : Nat}
/-- the class at the saved grammar -/
def SV (B : Int) (G : zGr) (ax : List Int) (T : List Int) (n : Nat) (K : zGr) (M : zM) (S : zS) : Prop := (∃ cur R cur1, clsW B K ax cur R M S ∧ R.1 = some (G, ax, cur1) ∧ R.2.1 = T) ∧ S.1 = n
theorem SV.rest {T : List Int} {K : zGr} (h : SV B G ax T n K M S) : Ok (F_X10_restore M S) (fun r => r.1 = .inr () ∧ SV B G ax T n G r.2.1 r.2.2) := by
  obtain ⟨⟨cur, R, cur1, h1, h2, h3⟩, h4⟩ := h
  exact (Q_restore h1 h2).mono (fun r ⟨a, b, c⟩ => ⟨a, ⟨cur1, R, cur1, b, h2, h3⟩, c.trans h4⟩)
theorem SV.size {T : List Int} {K : zGr} (h : SV B G ax T n K M S) (hf : fewA K ax) (hs : n + 101 ≤ 6000) : Ok (F_L_size M S) (fun r => r.1 = (cnt (lcA K ax) 29524 : Int) ∧ SV B G ax T n K r.2.1 r.2.2) := by
  obtain ⟨⟨cur, R, cur1, h1, h2, h3⟩, h4⟩ := h
  refine (LS_size h1 (by omega)).mono (fun r ⟨a, b, c⟩ => ?_)
  rcases c with ⟨-, c1, c2⟩ | ⟨c1, -⟩
  · exact ⟨c1, ⟨cur, R, cur1, a, h2, h3⟩, by rw [c2]; exact h4⟩
  · exact absurd hf c1
theorem SV.rem {T : List Int} {K : zGr} {t : Nat} (h : SV B G ax T n K M S) (ht : t < K.2.2.length) : Ok (F_X10_removeContext (t : Int) M S) (fun r => r.1 = .inr () ∧ SV B G ax T n (K.1, K.2.1, K.2.2.eraseIdx t) r.2.1 r.2.2) := by
  obtain ⟨⟨cur, R, cur1, h1, h2, h3⟩, h4⟩ := h
  exact (Q_removeContext h1 ht).mono (fun r ⟨a, b, _, c⟩ => ⟨a, ⟨cur, R, cur1, b, h2, h3⟩, c.1.trans h4⟩)
/-- one context taken away and back -/
theorem CB125 {T : List Int} {c : Nat} {v5 : Int} (h : SV B G ax T n G M S) (hf : fewA G ax) (hc : c < G.2.2.length) (hs : n + 101 ≤ 6000) : Ok (F_L_areContexts_B125 (cnt (lcA G ax) 29524 : Int) v5 1 m (c : Int) M S) (fun r => ∃ M1 S1, r = .inl (1, (c : Int) - 1, M1, S1) ∧ SV B G ax T n G M1 S1) := by
  obtain ⟨⟨cur, R, cur1, h1, h2, h3⟩, h4⟩ := id h
  have hG := h1.2.1.1
  have hax := h1.2.1.2.1
  have h5 := hG.2.2.1
  unfold F_L_areContexts_B125
  refine Ok.neg (by omega) (Ok.chk (by omega) (Ok.q (Q_isRedundant h1 hf hc) (fun r51 M1 a1 a2 a3 => ?_)))
  have s1 : SV B G ax T n G M1 S := ⟨⟨cur, R, cur1, a1, h2, h3⟩, h4⟩
  refine Ok.chk (by omega) (Ok.bx (s1.rem hc) (fun e M2 S2 q => by cases q.1) (fun u M2 S2 ⟨_, s2⟩ => ?_))
  dsimp only at s2
  have hcs : CS (G.1, G.2.1, G.2.2.eraseIdx c) G (fun d => d ≠ c) := CS_er
  have hf2 := CS_few hcs hf
  have hle := CS_cnt (ax := ax) hcs
  have hge := CS_gen hG hax hcs
  have e2 := s2.2
  refine Ok.neg (by decide) (Ok.chk (by omega) (Ok.b3 (s2.size hf2 hs) (fun r70 M3 S3 ⟨b1, s3⟩ => ?_)))
  dsimp only at b1 s3
  have e3 := s3.2
  have fin : ∀ t0 : Int, t0 = r51 → Ok (F_L_areContexts_J162 (cnt (lcA G ax) 29524 : Int) v5 m (c : Int) r51 t0 M3 S3) (fun r => ∃ M1 S1, r = .inl (1, (c : Int) - 1, M1, S1) ∧ SV B G ax T n G M1 S1) := fun t0 ht => by
    unfold F_L_areContexts_J162 F_L_areContexts_J180
    refine Ok.pos ht (Ok.chk (by omega) (Ok.b3 (s3.size hf2 hs) (fun r44 M4 S4 ⟨c1, s4⟩ => ?_)))
    dsimp only at c1 s4
    have e4 := s4.2
    refine Ok.neg (by omega) (Ok.chk (by omega) (Ok.bx s4.rest (fun e M5 S5 q => by cases q.1) (fun u M5 S5 ⟨_, s5⟩ => Ok.lett (Ok.ret ⟨M5, S5, ?_, s5⟩))))
    rw [w_id (a := (c : Int) + -1) ⟨by omega, by omega⟩, show (c : Int) + -1 = (c : Int) - 1 by omega]
  subst b1
  refine Ok.ite (fun z => fin 1 ?_) (fun z => fin 0 ?_)
  · rcases a3 with y | y
    · exact y.1.symm
    · exact absurd (hge.mp (by omega)) y.2
  · rcases a3 with y | y
    · have := hge.mpr y.2; omega
    · exact y.1.symm
/-- where the last taking away stands: the first j contexts stand, of the others those of the mask -/
def KT (G K : zGr) (m : Int) (j : Nat) : Prop := K.1 = G.1 ∧ K.2.1 = G.2.1 ∧ ∃ T, K.2.2 = G.2.2.take j ++ T ∧ ∀ c, c ∈ T ↔ ∃ d, j ≤ d ∧ bs m d ∧ G.2.2[d]? = some c
theorem KT.s0 : KT G G m G.2.2.length := ⟨rfl, rfl, [], by rw [List.take_length, List.append_nil], fun c => ⟨fun h => (by cases h), fun ⟨d, h1, _, h2⟩ => by have := (List.getElem?_eq_some_iff.mp h2).1; omega⟩⟩
theorem KT.no {K : zGr} {j : Nat} (h : KT G K m (j + 1)) (hj : j < G.2.2.length) (hb : ¬ bs m j) : j < K.2.2.length ∧ KT G (K.1, K.2.1, K.2.2.eraseIdx j) m j := by
  obtain ⟨e1, e2, T, h1, h2⟩ := h
  have hl : (G.2.2.take j).length = j := by rw [List.length_take]; omega
  have ht : G.2.2.take (j + 1) = G.2.2.take j ++ [G.2.2[j]] := by rw [List.take_add_one, List.getElem?_eq_getElem hj]; rfl
  refine ⟨by rw [h1, ht, List.length_append, List.length_append, hl]; simp only [List.length_cons]; omega, e1, e2, T, ?_, fun c => ?_⟩
  · show K.2.2.eraseIdx j = _
    rw [h1, ht, List.append_assoc, List.eraseIdx_append_of_length_le (by omega), hl, Nat.sub_self]
    rfl
  · rw [h2 c]
    constructor
    · rintro ⟨d, q1, q2, q3⟩
      exact ⟨d, by omega, q2, q3⟩
    · rintro ⟨d, q1, q2, q3⟩
      by_cases q : d = j
      · subst q; exact absurd q2 hb
      · exact ⟨d, by omega, q2, q3⟩
theorem KT.yes {K : zGr} {j : Nat} (h : KT G K m (j + 1)) (hj : j < G.2.2.length) (hb : bs m j) : KT G K m j := by
  obtain ⟨e1, e2, T, h1, h2⟩ := h
  have hg := List.getElem?_eq_getElem hj
  have ht : G.2.2.take (j + 1) = G.2.2.take j ++ [G.2.2[j]] := by rw [List.take_add_one, hg]; rfl
  refine ⟨e1, e2, G.2.2[j] :: T, by rw [h1, ht, List.append_assoc]; rfl, fun c => ?_⟩
  rw [List.mem_cons, h2 c]
  constructor
  · rintro (q | ⟨d, q1, q2, q3⟩)
    · exact ⟨j, Nat.le_refl _, hb, by rw [hg, q]⟩
    · exact ⟨d, by omega, q2, q3⟩
  · rintro ⟨d, q1, q2, q3⟩
    by_cases q : d = j
    · subst q; rw [hg] at q3; exact Or.inl (Option.some.inj q3).symm
    · exact Or.inr ⟨d, by omega, q2, q3⟩
theorem KT.CS {K : zGr} (h : KT G K m 0) : CS K G (bs m) := by
  obtain ⟨e1, e2, T, h1, h2⟩ := h
  refine ⟨e1, e2, fun c => ?_⟩
  rw [h1, List.take_zero, List.nil_append, h2 c]
  exact ⟨fun ⟨d, _, b, c⟩ => ⟨d, b, c⟩, fun ⟨d, b, c⟩ => ⟨d, Nat.zero_le _, b, c⟩⟩
end
