/-! PURE 45: the law's steps: queries about the language -/
def mn3 (cur : Int) (A F : Prop) (ca cf : Int) (W : Int → Prop) (c v k : Int) : Prop := k = cur ∧ ((¬ A ∧ c = ca) ∨ (A ∧ ¬ F ∧ c = cf) ∨ (A ∧ F ∧ c = 0 ∧ W v))
theorem mn3.fnl {cur : Int} {A F : Prop} {ca cf : Int} {W : Int → Prop} (ha : ca ≠ 0) (hcf : cf ≠ 0) (hu : ∀ v v2, W v → W v2 → v = v2) : fnl (mn3 cur A F ca cf W) := by
  rintro c v k c2 v2 k2 ⟨a1, a2⟩ ⟨b1, b2⟩
  rcases a2 with ⟨a2, a3⟩ | ⟨a2, a3, a4⟩ | ⟨a2, a3, a4, a5⟩
  · rcases b2 with ⟨b2, b3⟩ | ⟨b2, b3, b4⟩ | ⟨b2, b3, b4, b5⟩
    · exact ⟨by omega, fun q => absurd (a3.symm.trans q) ha, by omega⟩
    · exact absurd b2 a2
    · exact absurd b2 a2
  · rcases b2 with ⟨b2, b3⟩ | ⟨b2, b3, b4⟩ | ⟨b2, b3, b4, b5⟩
    · exact absurd a2 b2
    · exact ⟨by omega, fun q => absurd (a4.symm.trans q) hcf, by omega⟩
    · exact absurd b3 a3
  · rcases b2 with ⟨b2, b3⟩ | ⟨b2, b3, b4⟩ | ⟨b2, b3, b4, b5⟩
    · exact absurd a2 b2
    · exact absurd a3 b3
    · exact ⟨by omega, fun _ => hu _ _ a5 b5, by omega⟩
theorem mn3.of {cur : Int} {A F : Prop} {ca cf : Int} {W : Int → Prop} {c v : Int} (h1 : ¬ A → c = ca) (h2 : A → ¬ F → c = cf) (h3 : A → F → c = 0 ∧ W v) : mn3 cur A F ca cf W c v cur := by
  refine ⟨rfl, ?_⟩
  by_cases a : A
  · by_cases f : F
    · exact Or.inr (Or.inr ⟨a, f, h3 a f⟩)
    · exact Or.inr (Or.inl ⟨a, f, h2 a f⟩)
  · exact Or.inl ⟨a, h1 a⟩
def V3 (cur : Int) (A F : Prop) (ea ef : Nat) (W : Int → Prop) (r : Nat ⊕ Int) (k : Int) : Prop := k = cur ∧ ((¬ A ∧ r = .inl ea) ∨ (A ∧ ¬ F ∧ r = .inl ef) ∨ (A ∧ F ∧ ∃ v, r = .inr v ∧ W v))
theorem wrap3 {B : Int} {G : zGr} {ax : List Int} {R : zRst} {M : zM} {cur : Int} {A F : Prop} {ea ef : Nat} {ca cf : Int} {W : Int → Prop} {x : Option ((Nat ⊕ Int) × zM × zS)} {kx : Nat → zM → zS → Option (Int × zM × zS)} (h : Ok x (clsX B G ax R M (V3 cur A F ea ef W))) (ha : ∀ M S, kx ea M S = some (ca, M, S)) (hf : ∀ M S, kx ef M S = some (cf, M, S)) : Ok (zbx x kx fun r1 M2 S3 => zlet (zs M2 76 0 r1) fun M10 => some (0, M10, S3)) (clsQ B G ax R M (mn3 cur A F ca cf W)) := by
  refine wrapV h (fun e k M S ⟨q1, q2⟩ => ?_) (fun a k ⟨q1, q2⟩ => ?_)
  · rcases q2 with ⟨q2, q3⟩ | ⟨q2, q3, q4⟩ | ⟨_, _, v, q4, _⟩
    · cases q3; exact ⟨ca, ha M S, fun v => ⟨q1, Or.inl ⟨q2, rfl⟩⟩⟩
    · cases q4; exact ⟨cf, hf M S, fun v => ⟨q1, Or.inr (Or.inl ⟨q2, q3, rfl⟩)⟩⟩
    · cases q4
  · rcases q2 with ⟨_, q3⟩ | ⟨_, _, q4⟩ | ⟨q2, q3, v, q4, q5⟩
    · cases q3
    · cases q4
    · cases q4; exact ⟨q1, Or.inr (Or.inr ⟨q2, q3, rfl, q5⟩)⟩
theorem wrap3B {B : Int} {G : zGr} {ax : List Int} {R : zRst} {M : zM} {cur : Int} {A F X : Prop} {ea ef : Nat} {ca cf : Int} {x : Option ((Nat ⊕ Int) × zM × zS)} {kx : Nat → zM → zS → Option (Int × zM × zS)} {K : Int → Int → zM → zS → Option (Int × zM × zS)} (hK : ∀ t M S, K 0 t M S = zchk ((0 : Int) ≤ 0 ∧ (0 : Int) < 1) (zlet (zs M 76 0 t) fun M2 => some (0, M2, S))) (h : Ok x (clsX B G ax R M (V3 cur A F ea ef (fun v => tv v X)))) (ha : ∀ M S, kx ea M S = some (ca, M, S)) (hf : ∀ M S, kx ef M S = some (cf, M, S)) : Ok (zbx x kx fun r3 M4 S5 => if r3 = 0 then K 0 0 M4 S5 else K 0 1 M4 S5) (clsQ B G ax R M (mn3 cur A F ca cf (fun v => tv v X))) := by
  refine wrapB hK h (fun e k M S ⟨q1, q2⟩ => ?_) (fun a k ⟨q1, q2⟩ => ?_)
  · rcases q2 with ⟨q2, q3⟩ | ⟨q2, q3, q4⟩ | ⟨_, _, v, q4, _⟩
    · cases q3; exact ⟨ca, ha M S, fun v => ⟨q1, Or.inl ⟨q2, rfl⟩⟩⟩
    · cases q4; exact ⟨cf, hf M S, fun v => ⟨q1, Or.inr (Or.inl ⟨q2, q3, rfl⟩)⟩⟩
    · cases q4
  · rcases q2 with ⟨_, q3⟩ | ⟨_, _, q4⟩ | ⟨q2, q3, v, q4, q5⟩
    · cases q3
    · cases q4
    · cases q4
      refine ⟨q1, Or.inr (Or.inr ⟨q2, q3, rfl, ?_⟩)⟩
      by_cases e : a = 0
      · rw [if_pos e]; exact tv_f (tv_0 q5 e)
      · rw [if_neg e]; exact tv_t (tv_1 q5 e)
theorem tv_u {X : Prop} {v v2 : Int} (h : tv v X) (i : tv v2 X) : v = v2 := by
  rcases h with ⟨a, b⟩ | ⟨a, b⟩
  · rcases i with ⟨c, d⟩ | ⟨c, d⟩
    · omega
    · exact absurd b d
  · rcases i with ⟨c, d⟩ | ⟨c, d⟩
    · exact absurd d b
    · omega
theorem mn3_01 {cur : Int} {A F X : Prop} {ca cf v k : Int} (ha : ca ≠ 0) (hcf : cf ≠ 0) (h : mn3 cur A F ca cf (fun v => tv v X) 0 v k) : v = 0 ∨ v = 1 := by
  rcases h.2 with a | a | a
  · exact absurd a.2.symm ha
  · exact absurd a.2.2.symm hcf
  · rcases a.2.2.2 with b | b
    · exact Or.inr b.1
    · exact Or.inl b.1
def lxt (B : Int) (G : zGr) (ax : List Int) (R : zRst) (ln : Int) (scr : Int → Int) (v5 : Int) (P : (Int × zM × zS) ⊕ (zM × zS) → Prop) : Prop := ∀ k M2 S2, clsW B G ax k R M2 S2 → mdlW G ax k R M2 → Ok (F_L_law_J1870 ln scr v5 M2 S2) P
section
variable {B : Int} {G : zGr} {ax : List Int} {cur : Int} {R : zRst} {M : zM} {S : zS} {ln v5 : Int} {scr : Int → Int} {P : (Int × zM × zS) ⊕ (zM × zS) → Prop}
theorem L_sizeOf (hC : clsW B G ax cur R M S) (hM : mdlW G ax cur R M) (hb : (0 : Int) ≤ w (v5 + 1) ∧ w (v5 + 1) < ln) (hn : lxt B G ax R ln scr v5 P) : Ok (F_L_law_J479 ln scr v5 M S) P := by
  unfold F_L_law_J479 F_L_law_J532
  simp only [zchk_pos hb]
  generalize scr (w (v5 + 1)) = n
  refine blkV (mn3.fnl (cur := cur) (A := 0 ≤ n ∧ n ≤ G.1) (F := fewA G ax) (ca := 1) (cf := 2) (W := fun v => v = cln G ax n) (by decide) (by decide) (fun v v2 a b => by omega)) hC hM ?_ (fun M1 hst hM1 => MX hM1 ((FX11_sizeOf hst).mono (fun r a => ⟨a.1, mn3.of a.2.1 a.2.2.1 a.2.2.2⟩))) hn
  unfold F_L_sizeOf
  refine wrap3 (ea := 1) (ef := 3) ?_ (fun _ _ => rfl) (fun _ _ => rfl)
  unfold F_X10_sizeOf F_X10_requireLength F_X10_requireLength_J15
  rw [hC.2.2.1.2.2.1]
  by_cases q : n < 0
  · rw [if_pos q, zbx_inl]
    exact Ok.ret ⟨cur, hC.zer _, keepM.refl, rfl, Or.inl ⟨by omega, rfl⟩⟩
  · rw [if_neg q]
    by_cases q2 : G.1 < n
    · rw [if_pos q2, zbx_inl]
      exact Ok.ret ⟨cur, hC.zer _, keepM.refl, rfl, Or.inl ⟨by omega, rfl⟩⟩
    · rw [if_neg q2, zbx_inr]
      have hA : 0 ≤ n ∧ n ≤ G.1 := ⟨by omega, by omega⟩
      refine CX_q hC (fun f => ⟨rfl, Or.inr (Or.inl ⟨hA, f, rfl⟩)⟩) (fun M1 b1 b2 b3 b4 b5 => ?_)
      rw [FX3_wordsOfLength b2.1 b3.1]
      exact Ok.ret ⟨cur, b2, b5, rfl, Or.inr (Or.inr ⟨hA, b1, _, rfl, rfl⟩)⟩
theorem L_isUsed (hC : clsW B G ax cur R M S) (hM : mdlW G ax cur R M) (hb : (0 : Int) ≤ w (v5 + 1) ∧ w (v5 + 1) < ln) (hn : lxt B G ax R ln scr v5 P) : Ok (F_L_law_J612 ln scr v5 M S) P := by
  unfold F_L_law_J612
  simp only [zchk_pos hb]
  generalize scr (w (v5 + 1)) = n
  refine blkB (J := F_L_law_J1870 ln scr v5) (mn3.fnl (cur := cur) (A := 0 ≤ n ∧ n < (G.2.2.length : Int)) (F := fewA G ax) (ca := 1) (cf := 2) (W := fun v => tv v (usd G ax n.toNat)) (by decide) (by decide) (fun v v2 a b => tv_u a b)) (fun v k a => mn3_01 (by decide) (by decide) a) (fun t0 t1 M S e i => by unfold F_L_law_J666 F_L_law_J672; exact Ok.pos (zcmp_0.mpr e) i) hC hM ?_ (fun M1 hst hM1 => MX hM1 ((FX11_isUsed hst).mono (fun r a => ⟨a.1, mn3.of a.2.1 a.2.2.1 a.2.2.2⟩))) hn
  unfold F_L_isUsed
  refine wrap3B (ea := 2) (ef := 3) (fun _ _ _ => rfl) ?_ (fun _ _ => rfl) (fun _ _ => rfl)
  unfold F_X10_isUsed
  refine CX_c hC keepM.refl (fun f => ⟨rfl, Or.inl ⟨f, rfl⟩⟩) (fun hA => ?_)
  refine CX_q hC (fun f => ⟨rfl, Or.inr (Or.inl ⟨hA, f, rfl⟩)⟩) (fun M1 b1 b2 b3 b4 b5 => ?_)
  have h5 := hC.2.1.1.2.2.1
  have e : ((n.toNat : Nat) : Int) = n := by omega
  have hz := msk_and b3.2.2.1 (c := n.toNat) (by omega)
  rw [e] at hz
  refine Ok.ite (fun c => Ok.ret ⟨cur, b2, b5, rfl, Or.inr (Or.inr ⟨hA, b1, 0, rfl, tv_f (hz.mp c)⟩)⟩) (fun c => Ok.ret ⟨cur, b2, b5, rfl, Or.inr (Or.inr ⟨hA, b1, 1, rfl, tv_t ?_⟩)⟩)
  by_cases u : usd G ax n.toNat
  · exact u
  · exact absurd (hz.mpr u) c
theorem L_canFollow (hC : clsW B G ax cur R M S) (hM : mdlW G ax cur R M) (hb : (0 : Int) ≤ w (v5 + 1) ∧ w (v5 + 1) < ln) (hb2 : (0 : Int) ≤ w (v5 + 2) ∧ w (v5 + 2) < ln) (hn : lxt B G ax R ln scr v5 P) : Ok (F_L_law_J782 ln scr v5 M S) P := by
  unfold F_L_law_J782
  simp only [zchk_pos hb, zchk_pos hb2]
  generalize scr (w (v5 + 1)) = n
  generalize scr (w (v5 + 2)) = m
  refine blkB (J := F_L_law_J1870 ln scr v5) (mn3.fnl (cur := cur) (A := (0 ≤ n ∧ n < (G.2.2.length : Int)) ∧ (0 ≤ m ∧ m < (G.2.2.length : Int))) (F := fewA G ax) (ca := 1) (cf := 2) (W := fun v => tv v (foll G ax n.toNat m.toNat)) (by decide) (by decide) (fun v v2 a b => tv_u a b)) (fun v k a => mn3_01 (by decide) (by decide) a) (fun t0 t1 M S e i => by unfold F_L_law_J848 F_L_law_J854; exact Ok.pos (zcmp_0.mpr e) i) hC hM ?_ (fun M1 hst hM1 => MX hM1 ((FX11_canFollow hst).mono (fun r a => ⟨a.1, mn3.of a.2.1 (fun q => (a.2.2 q).1) (fun q => (a.2.2 q).2)⟩))) hn
  unfold F_L_canFollow
  refine wrap3B (ea := 2) (ef := 3) (fun _ _ _ => rfl) ?_ (fun _ _ => rfl) (fun _ _ => rfl)
  unfold F_X10_canFollow
  refine CX_c hC keepM.refl (fun f => ⟨rfl, Or.inl ⟨fun q => f q.1, rfl⟩⟩) (fun hA1 => ?_)
  refine CX_c hC keepM.refl (fun f => ⟨rfl, Or.inl ⟨fun q => f q.2, rfl⟩⟩) (fun hA2 => ?_)
  have hA := And.intro hA1 hA2
  refine CX_q hC (fun f => ⟨rfl, Or.inr (Or.inl ⟨hA, f, rfl⟩)⟩) (fun M1 b1 b2 b3 b4 b5 => ?_)
  have h5 := hC.2.1.1.2.2.1
  have e : ((m.toNat : Nat) : Int) = m := by omega
  have e1 : ((n.toNat : Nat) : Int) = n := by omega
  have hz := msk_and (b3.2.2.2.1 n.toNat (by omega)) (c := m.toNat) (by omega)
  rw [e, e1] at hz
  rw [FX3_followersOf b2.1 ⟨by omega, by omega⟩]
  simp only [zb1_some]
  refine Ok.ite (fun c => Ok.ret ⟨cur, b2, b5, rfl, Or.inr (Or.inr ⟨hA, b1, 0, rfl, tv_f (hz.mp c)⟩)⟩) (fun c => Ok.ret ⟨cur, b2, b5, rfl, Or.inr (Or.inr ⟨hA, b1, 1, rfl, tv_t ?_⟩)⟩)
  by_cases u : foll G ax n.toNat m.toNat
  · exact u
  · exact absurd (hz.mpr u) c
theorem pos_place {M1 : zM} {S : zS} (b2 : clsW B G ax cur R M1 S) (hL : lang1 G ax M1) : F_X3_placeOf (M1 1 8) M1 S = some (M1 13 cur - 1) ∧ (lcA G ax cur → M1 13 cur - 1 = pos (lcA G ax) cur ∧ 0 ≤ pos (lcA G ax) cur ∧ pos (lcA G ax) cur < 300) ∧ (¬ lcA G ax cur → M1 13 cur - 1 = -1) := by
  have hw := b2.2.1.2.2
  have h4 := hL.2.2.2.1 cur hw
  have hp : lcA G ax cur → 0 ≤ pos (lcA G ax) cur ∧ pos (lcA G ax) cur < 300 := fun q => by
    have := pos_lt hw q
    have := hL.2.1
    omega
  rw [b2.2.2.2.2.2.1]
  refine ⟨FX3_placeOf b2.1 hw ?_, fun q => ⟨by rw [h4.1 q]; omega, hp q⟩, fun q => by rw [h4.2 q]; rfl⟩
  by_cases q : lcA G ax cur
  · rw [h4.1 q]; have := hp q; omega
  · rw [h4.2 q]; omega
theorem L_isGenerated (hC : clsW B G ax cur R M S) (hM : mdlW G ax cur R M) (hn : lxt B G ax R ln scr v5 P) : Ok (F_L_law_J1154 ln scr v5 M S) P := by
  unfold F_L_law_J1154
  refine blkB (J := F_L_law_J1870 ln scr v5) (mn3.fnl (cur := cur) (A := fewA G ax) (F := True) (ca := 1) (cf := 1) (W := fun v => tv v (lcA G ax cur)) (by decide) (by decide) (fun v v2 a b => tv_u a b)) (fun v k a => mn3_01 (by decide) (by decide) a) (fun t0 t1 M S e i => by unfold F_L_law_J1196 F_L_law_J1202; exact Ok.pos (zcmp_0.mpr e) i) hC hM ?_ (fun M1 hst hM1 => MX hM1 ((FX11_isGenerated hst).mono (fun r a => ⟨a.1, mn3.of a.2.2 (fun _ q => absurd trivial q) (fun q _ => a.2.1 q)⟩))) hn
  unfold F_L_isGenerated
  refine wrap3B (ea := 3) (ef := 3) (fun _ _ _ => rfl) ?_ (fun _ _ => rfl) (fun _ _ => rfl)
  unfold F_X10_isGenerated
  refine CX_q hC (fun f => ⟨rfl, Or.inl ⟨f, rfl⟩⟩) (fun M1 b1 b2 b3 b4 b5 => ?_)
  obtain ⟨p1, p2, p3⟩ := pos_place b2 b3.1
  rw [p1]
  simp only [zb1_some]
  refine Ok.ite (fun c => Ok.ret ⟨cur, b2, b5, rfl, Or.inr (Or.inr ⟨b1, trivial, 0, rfl, tv_f (fun q => ?_)⟩)⟩) (fun c => Ok.ret ⟨cur, b2, b5, rfl, Or.inr (Or.inr ⟨b1, trivial, 1, rfl, tv_t ?_⟩)⟩)
  · have := p2 q; omega
  · by_cases u : lcA G ax cur
    · exact u
    · have := p3 u; omega
theorem L_rank (hC : clsW B G ax cur R M S) (hM : mdlW G ax cur R M) (hn : lxt B G ax R ln scr v5 P) : Ok (F_L_law_J1205 ln scr v5 M S) P := by
  unfold F_L_law_J1205 F_L_law_J1246
  refine blkV (mn3.fnl (cur := cur) (A := fewA G ax) (F := lcA G ax cur) (ca := 1) (cf := 2) (W := fun v => v = pos (lcA G ax) cur) (by decide) (by decide) (fun v v2 a b => by omega)) hC hM ?_ (fun M1 hst hM1 => MX hM1 ((FX11_rank hst).mono (fun r a => ⟨a.1, mn3.of a.2.2 (fun q => (a.2.1 q).2) (fun q => (a.2.1 q).1)⟩))) hn
  unfold F_L_rank
  refine wrap3 (ea := 3) (ef := 4) ?_ (fun _ _ => rfl) (fun _ _ => rfl)
  unfold F_X10_rank
  refine CX_q hC (fun f => ⟨rfl, Or.inl ⟨f, rfl⟩⟩) (fun M1 b1 b2 b3 b4 b5 => ?_)
  obtain ⟨p1, p2, p3⟩ := pos_place b2 b3.1
  unfold F_X10_requirePlace
  rw [p1]
  simp only [zb1_some]
  by_cases u : lcA G ax cur
  · have hp := p2 u
    rw [if_neg (by omega), zbx_inr, hp.1]
    exact Ok.ret ⟨cur, b2, b5, rfl, Or.inr (Or.inr ⟨b1, u, _, rfl, rfl⟩)⟩
  · rw [if_pos (by have := p3 u; omega), zbx_inl]
    exact Ok.ret ⟨cur, b2.zer _, b5, rfl, Or.inr (Or.inl ⟨b1, u, rfl⟩)⟩
theorem L_derivationLength (hC : clsW B G ax cur R M S) (hM : mdlW G ax cur R M) (hn : lxt B G ax R ln scr v5 P) : Ok (F_L_law_J1249 ln scr v5 M S) P := by
  unfold F_L_law_J1249 F_L_law_J1290
  refine blkV (mn3.fnl (cur := cur) (A := fewA G ax) (F := lcA G ax cur) (ca := 1) (cf := 2) (W := fun v => ∃ (k : Nat) (b : Int), v = k ∧ bestA G ax cur k b) (by decide) (by decide) (fun v v2 ⟨k, b, e1, e2⟩ ⟨k2, b2, e3, e4⟩ => by have := (e2.eq e4).1; omega)) hC hM ?_ (fun M1 hst hM1 => MX hM1 ((FX11_derivationLength hst).mono (fun r a => ⟨a.1, mn3.of a.2.2.2 a.2.2.1 a.2.1⟩))) hn
  unfold F_L_derivationLength
  refine wrap3 (ea := 3) (ef := 4) ?_ (fun _ _ => rfl) (fun _ _ => rfl)
  unfold F_X10_derivationLength
  refine CX_q hC (fun f => ⟨rfl, Or.inl ⟨f, rfl⟩⟩) (fun M1 b1 b2 b3 b4 b5 => ?_)
  obtain ⟨p1, p2, p3⟩ := pos_place b2 b3.1
  unfold F_X10_requirePlace
  rw [p1]
  simp only [zb1_some]
  by_cases u : lcA G ax cur
  · have hp := p2 u
    rw [if_neg (by omega), zbx_inr, hp.1, FX3_derivationSteps b2.1 hp.2]
    simp only [zb1_some]
    obtain ⟨k, b, e1, e2, _⟩ := bfs_best b3.2.2.2.2.1 u
    exact Ok.ret ⟨cur, b2, b5, rfl, Or.inr (Or.inr ⟨b1, u, _, rfl, k, b, e1, e2⟩)⟩
  · rw [if_pos (by have := p3 u; omega), zbx_inl]
    exact Ok.ret ⟨cur, b2.zer _, b5, rfl, Or.inr (Or.inl ⟨b1, u, rfl⟩)⟩
theorem L_derivations (hC : clsW B G ax cur R M S) (hM : mdlW G ax cur R M) (hn : lxt B G ax R ln scr v5 P) : Ok (F_L_law_J1361 ln scr v5 M S) P := by
  unfold F_L_law_J1361 F_L_law_J1401
  refine blkV (mn3.fnl (cur := cur) (A := fewA G ax) (F := True) (ca := 1) (cf := 1) (W := fun v => (lcA G ax cur → v = wys G ax cur) ∧ (¬ lcA G ax cur → v = 0)) (by decide) (by decide) (fun v v2 a b => by
    by_cases u : lcA G ax cur
    · rw [a.1 u, b.1 u]
    · rw [a.2 u, b.2 u])) hC hM ?_ (fun M1 hst hM1 => MX hM1 ((FX11_derivations hst.1 hst.2.2.2.1 hst.2.2.2.2.1 hst.2.1 hst.2.2.2.2.2 hst.2.2.1).mono (fun r a => ⟨a.1, mn3.of a.2.2 (fun _ q => absurd trivial q) (fun q _ => a.2.1 q)⟩))) hn
  unfold F_L_derivations
  refine wrap3 (ea := 3) (ef := 3) ?_ (fun _ _ => rfl) (fun _ _ => rfl)
  unfold F_X10_derivations
  refine CX_q hC (fun f => ⟨rfl, Or.inl ⟨f, rfl⟩⟩) (fun M1 b1 b2 b3 b4 b5 => ?_)
  obtain ⟨p1, p2, p3⟩ := pos_place b2 b3.1
  rw [p1]
  simp only [zb1_some]
  unfold F_X3_pathsTo
  by_cases u : lcA G ax cur
  · have hp := p2 u
    rw [hp.1, xat_ b2.1 23 300 rfl hp.2.1 (by omega)]
    simp only [zb1_some]
    exact Ok.ret ⟨cur, b2, b5, rfl, Or.inr (Or.inr ⟨b1, trivial, _, rfl, fun _ => b3.2.1 cur u, fun q => absurd u q⟩)⟩
  · rw [p3 u]
    obtain ⟨k1, k2⟩ := xk b2.1 23 21 300 rfl
    rw [FX6_at__out k1 (Or.inl (by decide))]
    simp only [zb1_some]
    exact Ok.ret ⟨cur, b2, b5, rfl, Or.inr (Or.inr ⟨b1, trivial, _, rfl, fun q => absurd q u, fun _ => rfl⟩)⟩
end
