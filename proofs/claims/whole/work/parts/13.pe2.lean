/-! PURE 44: a step of the law: the class's call, the reference's, the comparison -/
theorem Ok.bx {α β : Type} {x : Option ((Nat ⊕ α) × zM × zS)} {kx : Nat → zM → zS → Option β} {k : α → zM → zS → Option β} {P : β → Prop} {Q : (Nat ⊕ α) × zM × zS → Prop} (h : Ok x Q) (i : ∀ e M S, Q (.inl e, M, S) → Ok (kx e M S) P) (j : ∀ a M S, Q (.inr a, M, S) → Ok (k a M S) P) : Ok (zbx x kx k) P := by
  obtain ⟨⟨a, M, S⟩, h1, h2⟩ := h
  rw [h1]
  cases a with
  | inl e => rw [zbx_inl]; exact i e M S h2
  | inr a => rw [zbx_inr]; exact j a M S h2
/-- what a call means: a code, a value where the code is 0, the word after it -/
def fnl (mean : Int → Int → Int → Prop) : Prop := ∀ c v k c2 v2 k2, mean c v k → mean c2 v2 k2 → c = c2 ∧ (c = 0 → v = v2) ∧ k = k2
noncomputable def clsQ (B : Int) (G : zGr) (ax : List Int) (R : zRst) (M : zM) (mean : Int → Int → Int → Prop) (r : Int × zM × zS) : Prop := ∃ k, clsW B G ax k R r.2.1 r.2.2 ∧ keepM M r.2.1 ∧ mean r.1 (r.2.1 76 0) k
def mdlQ (G : zGr) (ax : List Int) (R : zRst) (M : zM) (mean : Int → Int → Int → Prop) (r : Int × zM) : Prop := ∃ k, mdlW G ax k R r.2 ∧ keepC M r.2 ∧ r.2 76 = M 76 ∧ mean (r.2 48 0) r.1 k
theorem blkV {B B1 : Int} {G : zGr} {ax : List Int} {cur : Int} {R : zRst} {M : zM} {S : zS} {β : Type} {mean : Int → Int → Int → Prop} {opC : Option (Int × zM × zS)} {opM : zM → Option (Int × zM)} {J : zM → zS → Option β} {P : β → Prop} (hf : fnl mean) (hC : clsW B G ax cur R M S) (hM : mdlW G ax cur R M) (hc : Ok opC (clsQ B1 G ax R M mean)) (hm : ∀ M1, mst M1 G ax cur → mdlW G ax cur R M1 → Ok (opM M1) (mdlQ G ax R M1 mean)) (hn : ∀ k M2 S2, clsW B1 G ax k R M2 S2 → mdlW G ax k R M2 → Ok (J M2 S2) P) : Ok (zb3 opC fun r M S => zb2 (opM M) fun r2 M2 => zb1 (F_X11_thrown M2) fun t => if t = r then (if r = 0 then (if zcmp (M2 76 0) r2 = 0 then J M2 S else none) else J M2 S) else none) P := by
  refine Ok.b3 hc (fun c M1 S1 ⟨k, a1, a2, a3⟩ => ?_)
  dsimp only at a1 a2 a3
  have hM1 := hM.keep a2
  have hst : mst M1 G ax cur := ⟨hC.2.1.1, hC.2.1.2.1, hC.2.1.2.2, hM1.1, hM1.2.1, hM1.2.2.1⟩
  refine Ok.b2 (hm M1 hst hM1) (fun v M2 ⟨k2, b1, b2, b3, b4⟩ => ?_)
  dsimp only at b1 b2 b3 b4
  obtain ⟨e1, e2, e3⟩ := hf _ _ _ _ _ _ a3 b4
  subst e3
  unfold F_X11_thrown
  simp only [zb1_some]
  have fin := hn k M2 S1 (a1.keep b2) b1
  refine Ok.pos e1.symm (Ok.ite (fun q => Ok.pos ?_ fin) (fun _ => fin))
  rw [zcmp_0, b3]
  exact e2 q
theorem blkB {B B1 : Int} {G : zGr} {ax : List Int} {cur : Int} {R : zRst} {M : zM} {S : zS} {β : Type} {mean : Int → Int → Int → Prop} {opC : Option (Int × zM × zS)} {opM : zM → Option (Int × zM)} {J : zM → zS → Option β} {K : Int → Int → zM → zS → Option β} {P : β → Prop} (hf : fnl mean) (h01 : ∀ v k, mean 0 v k → v = 0 ∨ v = 1) (hK : ∀ t0 t1 M S, t0 = t1 → Ok (J M S) P → Ok (K t0 t1 M S) P) (hC : clsW B G ax cur R M S) (hM : mdlW G ax cur R M) (hc : Ok opC (clsQ B1 G ax R M mean)) (hm : ∀ M1, mst M1 G ax cur → mdlW G ax cur R M1 → Ok (opM M1) (mdlQ G ax R M1 mean)) (hn : ∀ k M2 S2, clsW B1 G ax k R M2 S2 → mdlW G ax k R M2 → Ok (J M2 S2) P) : Ok (zb3 opC fun r M S => zb2 (opM M) fun r2 M2 => zb1 (F_X11_thrown M2) fun t => if t = r then (if r = 0 then (if r2 = 0 then K (M2 76 0) 0 M2 S else K (M2 76 0) 1 M2 S) else J M2 S) else none) P := by
  refine Ok.b3 hc (fun c M1 S1 ⟨k, a1, a2, a3⟩ => ?_)
  dsimp only at a1 a2 a3
  have hM1 := hM.keep a2
  have hst : mst M1 G ax cur := ⟨hC.2.1.1, hC.2.1.2.1, hC.2.1.2.2, hM1.1, hM1.2.1, hM1.2.2.1⟩
  refine Ok.b2 (hm M1 hst hM1) (fun v M2 ⟨k2, b1, b2, b3, b4⟩ => ?_)
  dsimp only at b1 b2 b3 b4
  obtain ⟨e1, e2, e3⟩ := hf _ _ _ _ _ _ a3 b4
  subst e3
  unfold F_X11_thrown
  simp only [zb1_some]
  have fin := hn k M2 S1 (a1.keep b2) b1
  refine Ok.pos e1.symm (Ok.ite (fun q => ?_) (fun _ => fin))
  rw [b3, e2 q]
  rw [← e1, q] at b4
  refine Ok.ite (fun q2 => hK _ _ _ _ q2 fin) (fun q2 => hK _ _ _ _ ((h01 _ _ b4).resolve_left q2) fin)
theorem blkN {B B1 : Int} {G : zGr} {ax : List Int} {cur : Int} {R : zRst} {M : zM} {S : zS} {β : Type} {mean : Int → Int → Int → Prop} {opC : Option (Int × zM × zS)} {opM : zM → Option zM} {J : zM → zS → Option β} {P : β → Prop} (hf : fnl mean) (hC : clsW B G ax cur R M S) (hM : mdlW G ax cur R M) (hc : Ok opC (fun r => ∃ k, clsW B1 G ax k R r.2.1 r.2.2 ∧ keepM M r.2.1 ∧ mean r.1 0 k)) (hm : ∀ M1, mst M1 G ax cur → mdlW G ax cur R M1 → Ok (opM M1) (fun r => ∃ k, mdlW G ax k R r ∧ keepC M1 r ∧ mean (r 48 0) 0 k)) (hn : ∀ k M2 S2, clsW B1 G ax k R M2 S2 → mdlW G ax k R M2 → Ok (J M2 S2) P) : Ok (zb3 opC fun r M S => zb1 (opM M) fun M2 => zb1 (F_X11_thrown M2) fun t => if t = r then J M2 S else none) P := by
  refine Ok.b3 hc (fun c M1 S1 ⟨k, a1, a2, a3⟩ => ?_)
  dsimp only at a1 a2 a3
  have hM1 := hM.keep a2
  have hst : mst M1 G ax cur := ⟨hC.2.1.1, hC.2.1.2.1, hC.2.1.2.2, hM1.1, hM1.2.1, hM1.2.2.1⟩
  refine Ok.b1 (hm M1 hst hM1) (fun M2 ⟨k2, b1, b2, b4⟩ => ?_)
  obtain ⟨e1, e2, e3⟩ := hf _ _ _ _ _ _ a3 b4
  subst e3
  unfold F_X11_thrown
  simp only [zb1_some]
  exact Ok.pos e1.symm (hn k M2 S1 (a1.keep b2) b1)
/-- the class's call with the word after it -/
noncomputable def clsX {α : Type} (B : Int) (G : zGr) (ax : List Int) (R : zRst) (M : zM) (V : (Nat ⊕ α) → Int → Prop) (r : (Nat ⊕ α) × zM × zS) : Prop := ∃ k, clsW B G ax k R r.2.1 r.2.2 ∧ keepM M r.2.1 ∧ V r.1 k
theorem clsW.out {B : Int} {G : zGr} {ax : List Int} {cur : Int} {R : zRst} {M : zM} {S : zS} {v : Int} (h : clsW B G ax cur R M S) : clsW B G ax cur R (zs M 76 0 v) S := h.keep (fun b hb => zs_ne M 0 v (by omega))
theorem keepM.out {M M1 : zM} {v : Int} (h : keepM M M1) : keepM M (zs M1 76 0 v) := h.trans (fun b h1 h2 => zs_ne M1 0 v (by omega))
theorem wrapV {B : Int} {G : zGr} {ax : List Int} {R : zRst} {M : zM} {mean : Int → Int → Int → Prop} {V : (Nat ⊕ Int) → Int → Prop} {x : Option ((Nat ⊕ Int) × zM × zS)} {kx : Nat → zM → zS → Option (Int × zM × zS)} (h : Ok x (clsX B G ax R M V)) (i : ∀ e k M S, V (.inl e) k → ∃ c, kx e M S = some (c, M, S) ∧ ∀ v, mean c v k) (j : ∀ a k, V (.inr a) k → mean 0 a k) : Ok (zbx x kx fun r1 M2 S3 => zlet (zs M2 76 0 r1) fun M10 => some (0, M10, S3)) (clsQ B G ax R M mean) := by
  refine Ok.bx h (fun e M1 S1 ⟨k, a1, a2, a3⟩ => ?_) (fun a M1 S1 ⟨k, a1, a2, a3⟩ => ?_)
  · obtain ⟨c, b1, b2⟩ := i e k M1 S1 a3
    rw [b1]
    exact Ok.ret ⟨k, a1, a2, b2 _⟩
  · refine Ok.lett (Ok.ret ⟨k, a1.out, keepM.out a2, ?_⟩)
    show mean 0 (zs M1 76 0 a 76 0) k
    rw [zs_at]
    exact j a k a3
theorem wrapB {B : Int} {G : zGr} {ax : List Int} {R : zRst} {M : zM} {mean : Int → Int → Int → Prop} {V : (Nat ⊕ Int) → Int → Prop} {x : Option ((Nat ⊕ Int) × zM × zS)} {kx : Nat → zM → zS → Option (Int × zM × zS)} {K : Int → Int → zM → zS → Option (Int × zM × zS)} (hK : ∀ t M S, K 0 t M S = zchk ((0 : Int) ≤ 0 ∧ (0 : Int) < 1) (zlet (zs M 76 0 t) fun M2 => some (0, M2, S))) (h : Ok x (clsX B G ax R M V)) (i : ∀ e k M S, V (.inl e) k → ∃ c, kx e M S = some (c, M, S) ∧ ∀ v, mean c v k) (j : ∀ a k, V (.inr a) k → mean 0 (if a = 0 then 0 else 1) k) : Ok (zbx x kx fun r3 M4 S5 => if r3 = 0 then K 0 0 M4 S5 else K 0 1 M4 S5) (clsQ B G ax R M mean) := by
  refine Ok.bx h (fun e M1 S1 ⟨k, a1, a2, a3⟩ => ?_) (fun a M1 S1 ⟨k, a1, a2, a3⟩ => ?_)
  · obtain ⟨c, b1, b2⟩ := i e k M1 S1 a3
    rw [b1]
    exact Ok.ret ⟨k, a1, a2, b2 _⟩
  · have hj := j a k a3
    have go : ∀ t : Int, mean 0 t k → Ok (K 0 t M1 S1) (clsQ B G ax R M mean) := fun t ht => by
      rw [hK]
      refine Ok.chk (by decide) (Ok.lett (Ok.ret ⟨k, a1.out, keepM.out a2, ?_⟩))
      show mean 0 (zs M1 76 0 t 76 0) k
      rw [zs_at]
      exact ht
    refine Ok.ite (fun q => go 0 ?_) (fun q => go 1 ?_)
    · rw [if_pos q] at hj; exact hj
    · rw [if_neg q] at hj; exact hj
theorem wrapN {B : Int} {G : zGr} {ax : List Int} {R : zRst} {M : zM} {mean : Int → Int → Int → Prop} {V : (Nat ⊕ Unit) → Int → Prop} {x : Option ((Nat ⊕ Unit) × zM × zS)} {kx : Nat → zM → zS → Option (Int × zM × zS)} (h : Ok x (clsX B G ax R M V)) (i : ∀ e k M S, V (.inl e) k → ∃ c, kx e M S = some (c, M, S) ∧ mean c 0 k) (j : ∀ k, V (.inr ()) k → mean 0 0 k) : Ok (zbx x kx fun _ M2 S3 => some (0, M2, S3)) (fun r => ∃ k, clsW B G ax k R r.2.1 r.2.2 ∧ keepM M r.2.1 ∧ mean r.1 0 k) := by
  refine Ok.bx h (fun e M1 S1 ⟨k, a1, a2, a3⟩ => ?_) (fun a M1 S1 ⟨k, a1, a2, a3⟩ => ?_)
  · obtain ⟨c, b1, b2⟩ := i e k M1 S1 a3
    rw [b1]
    exact Ok.ret ⟨k, a1, a2, b2⟩
  · exact Ok.ret ⟨k, a1, a2, j k a3⟩
theorem keepM.refl {M : zM} : keepM M M := fun _ _ _ => rfl
/-- the class's language at hand -/
theorem CX_lang {B : Int} {G : zGr} {ax : List Int} {cur : Int} {R : zRst} {M : zM} {S : zS} (h : clsW B G ax cur R M S) : Ok (F_X10_requireLanguage M S) (fun r => clsW B G ax cur R r.2.1 r.2.2 ∧ keepM M r.2.1 ∧ ((fewA G ax ∧ langD G ax r.2.1 ∧ r.2.1 1 11 = 0 ∧ r.1 = .inr () ∧ r.2.2 = S) ∨ (¬ fewA G ax ∧ r.1 = .inl 3 ∧ r.2.2 = zer S))) := by
  obtain ⟨a1, a2, a3, a4, a5, a6, a7, a8, a9⟩ := id h
  refine (FX10_requireLanguage a1 a2.1 a3 a5 a2.2.1 a7).mono (fun r ⟨b1, b2, b3, b4, b5⟩ => ?_)
  have hq : clsW B G ax cur R r.2.1 S := h.qry (b4.mono (fun b q => by unfold lgA at q; unfold qA; omega)) (fun k k1 _ => b3 k k1) b1 (a8.fr (b4.1 25 (by unfold lgA; omega) (Or.inl (by decide))) (b4.1 26 (by unfold lgA; omega) (Or.inl (by decide))) (b4.1 27 (by unfold lgA; omega) (Or.inl (by decide)))) (by rw [b3 8 (by decide)]; exact a6) a2.2.2
  have hk : keepM M r.2.1 := keepM.of b4 (fun b q => by unfold lgA at q; omega)
  rcases b5 with ⟨c1, c2, c3, c4⟩ | ⟨c1, c3, c4⟩
  · exact ⟨by rw [c4]; exact hq, hk, Or.inl ⟨c1, c2, b2, c3, c4⟩⟩
  · exact ⟨by rw [c4]; exact hq.zer _, hk, Or.inr ⟨c1, c3, c4⟩⟩
/-- a query that needs the language, on the class's side -/
theorem CX_q {α : Type} {B : Int} {G : zGr} {ax : List Int} {cur : Int} {R : zRst} {M : zM} {S : zS} {V : (Nat ⊕ α) → Int → Prop} {k : Unit → zM → zS → Option ((Nat ⊕ α) × zM × zS)} (h : clsW B G ax cur R M S) (hn : ¬ fewA G ax → V (.inl 3) cur) (hy : ∀ M1, fewA G ax → clsW B G ax cur R M1 S → langD G ax M1 → M1 1 11 = 0 → keepM M M1 → Ok (k () M1 S) (clsX B G ax R M V)) : Ok (zbx (F_X10_requireLanguage M S) (fun e M S => some (.inl e, M, S)) k) (clsX B G ax R M V) := by
  refine Ok.bx (CX_lang h) (fun e M1 S1 ⟨a1, a2, a3⟩ => ?_) (fun u M1 S1 ⟨a1, a2, a3⟩ => ?_)
  · dsimp only at a1 a2 a3
    rcases a3 with a3 | ⟨b1, b2, b3⟩
    · exact absurd a3.2.2.2.1 (by intro q; cases q)
    · cases b2
      exact Ok.ret ⟨cur, a1, a2, hn b1⟩
  · dsimp only at a1 a2 a3
    rcases a3 with ⟨b1, b2, b3, b4, b5⟩ | a3
    · subst b5
      exact hy M1 b1 a1 b2 b3 a2
    · exact absurd a3.2.1 (by intro q; cases q)
/-- an index required -/
theorem CX_i {α : Type} {B : Int} {G : zGr} {ax : List Int} {cur : Int} {R : zRst} {M M0 : zM} {S : zS} {V : (Nat ⊕ α) → Int → Prop} {k : Unit → zM → zS → Option ((Nat ⊕ α) × zM × zS)} {i n : Int} (h : clsW B G ax cur R M S) (hk : keepM M0 M) (hn : ¬ (0 ≤ i ∧ i < n) → V (.inl 2) cur) (hy : 0 ≤ i ∧ i < n → Ok (k () M S) (clsX B G ax R M0 V)) : Ok (zbx (F_X10_requireIndex i n M S) (fun e M S => some (.inl e, M, S)) k) (clsX B G ax R M0 V) := by
  unfold F_X10_requireIndex F_X10_requireIndex_J9
  by_cases q : i < 0
  · rw [if_pos q, zbx_inl]
    exact Ok.ret ⟨cur, h.zer _, hk, hn (by omega)⟩
  · rw [if_neg q]
    by_cases q2 : i < n
    · rw [if_pos q2, zbx_inr]
      exact hy ⟨by omega, q2⟩
    · rw [if_neg q2, zbx_inl]
      exact Ok.ret ⟨cur, h.zer _, hk, hn (by omega)⟩
theorem CX_c {α : Type} {B : Int} {G : zGr} {ax : List Int} {cur : Int} {R : zRst} {M M0 : zM} {S : zS} {V : (Nat ⊕ α) → Int → Prop} {k : Unit → zM → zS → Option ((Nat ⊕ α) × zM × zS)} {i : Int} (h : clsW B G ax cur R M S) (hk : keepM M0 M) (hn : ¬ (0 ≤ i ∧ i < (G.2.2.length : Int)) → V (.inl 2) cur) (hy : 0 ≤ i ∧ i < (G.2.2.length : Int) → Ok (k () M S) (clsX B G ax R M0 V)) : Ok (zbx (F_X10_requireContext i M S) (fun e M S => some (.inl e, M, S)) k) (clsX B G ax R M0 V) := by
  unfold F_X10_requireContext F_X10_requireIndex F_X10_requireIndex_J9
  rw [h.2.2.1.1]
  by_cases q : i < 0
  · rw [if_pos q, zbx_inl, zbx_inl]
    exact Ok.ret ⟨cur, h.zer _, hk, hn (by omega)⟩
  · rw [if_neg q]
    by_cases q2 : i < (G.2.2.length : Int)
    · rw [if_pos q2, zbx_inr, zbx_inr]
      exact hy ⟨by omega, q2⟩
    · rw [if_neg q2, zbx_inl, zbx_inl]
      exact Ok.ret ⟨cur, h.zer _, hk, hn (by omega)⟩
/-- the reference's query that leaves the word -/
theorem MX {G : zGr} {ax : List Int} {cur : Int} {R : zRst} {mean : Int → Int → Int → Prop} {M1 : zM} {x : Option (Int × zM)} (hM : mdlW G ax cur R M1) (h : Ok x (fun r => mscr M1 r.2 ∧ mean (r.2 48 0) r.1 cur)) : Ok x (mdlQ G ax R M1 mean) :=
  h.mono (fun r ⟨a1, a2⟩ => ⟨cur, hM.scr a1, keepC.scr a1, a1.1 76 (by omega) (by decide) (by decide) (by decide), a2⟩)
def mnSize (G : zGr) (ax : List Int) (cur : Int) (c v k : Int) : Prop := k = cur ∧ ((fewA G ax ∧ c = 0 ∧ v = (cnt (lcA G ax) 29524 : Int)) ∨ (¬ fewA G ax ∧ c = 1))
theorem wl_cnt {D : Int → Prop} : (wl_ D).length = cnt D 29524 := by
  unfold wl_ cnt
  rw [List.length_map]
theorem L_size {B : Int} {G : zGr} {ax : List Int} {cur : Int} {R : zRst} {M : zM} {S : zS} {ln v5 : Int} {scr : Int → Int} {P : (Int × zM × zS) ⊕ (zM × zS) → Prop} (hC : clsW B G ax cur R M S) (hM : mdlW G ax cur R M) (hn : ∀ k M2 S2, clsW B G ax k R M2 S2 → mdlW G ax k R M2 → Ok (F_L_law_J1870 ln scr v5 M2 S2) P) : Ok (F_L_law_J435 ln scr v5 M S) P := by
  unfold F_L_law_J435 F_L_law_J476
  refine blkV (mean := mnSize G ax cur) (B1 := B) (fun c v k c2 v2 k2 a b => ?_) hC hM ?_ (fun M1 hst hM1 => MX hM1 ((FX11_size hst).mono (fun r ⟨a1, a2, a3⟩ => ⟨a1, rfl, ?_⟩))) hn
  · obtain ⟨a1, a2⟩ := a
    obtain ⟨b1, b2⟩ := b
    rcases a2 with ⟨a2, a3, a4⟩ | ⟨a2, a3⟩
    · rcases b2 with ⟨b2, b3, b4⟩ | ⟨b2, b3⟩
      · exact ⟨by omega, fun _ => by omega, by omega⟩
      · exact absurd a2 b2
    · rcases b2 with ⟨b2, b3, b4⟩ | ⟨b2, b3⟩
      · exact absurd b2 a2
      · exact ⟨by omega, fun _ => by omega, by omega⟩
  · unfold F_L_size
    refine wrapV (V := fun r k => k = cur ∧ ((fewA G ax ∧ r = .inr (cnt (lcA G ax) 29524 : Int)) ∨ (¬ fewA G ax ∧ r = .inl 3))) ?_ (fun e k M S ⟨q1, q2⟩ => ?_) (fun a k ⟨q1, q2⟩ => ?_)
    · unfold F_X10_size
      refine CX_q hC (fun q => ⟨rfl, Or.inr ⟨q, rfl⟩⟩) (fun M1 b1 b2 b3 b4 b5 => Ok.ret ⟨cur, b2, b5, rfl, Or.inl ⟨b1, ?_⟩⟩)
      dsimp only
      rw [b3.1.1, wl_cnt]
    · rcases q2 with q2 | ⟨q2, q3⟩
      · exact absurd q2.2 (by intro a; cases a)
      · cases q3
        exact ⟨1, rfl, fun v => ⟨q1, Or.inr ⟨q2, rfl⟩⟩⟩
    · rcases q2 with ⟨q2, q3⟩ | q2
      · cases q3
        exact ⟨q1, Or.inl ⟨q2, rfl, rfl⟩⟩
      · exact absurd q2.2 (by intro a; cases a)
  · by_cases q : fewA G ax
    · exact Or.inl ⟨q, (a2 q).1, (a2 q).2⟩
    · exact Or.inr ⟨q, a3 q⟩
