/-! PURE 52: steps that change more than the word: text, arrays -/
def zAbs : Type := zGr × List Int × Int × zRst
noncomputable def clsA (B : Int) (a : zAbs) (M : zM) (S : zS) : Prop := clsW B a.1 a.2.1 a.2.2.1 a.2.2.2 M S
def mdlA (a : zAbs) (M : zM) : Prop := mdlW a.1 a.2.1 a.2.2.1 a.2.2.2 M
def fnlA (mean : Int → Int → zAbs → Prop) : Prop := ∀ c v k c2 v2 k2, mean c v k → mean c2 v2 k2 → c = c2 ∧ (c = 0 → v = v2) ∧ k = k2
def lxA (B : Int) (ln : Int) (scr : Int → Int) (v5 : Int) (P : (Int × zM × zS) ⊕ (zM × zS) → Prop) : Prop := ∀ a M2 S2, clsA B a M2 S2 → mdlA a M2 → Ok (F_L_law_J1870 ln scr v5 M2 S2) P
theorem blkNA {B B1 : Int} {G : zGr} {ax : List Int} {cur : Int} {R : zRst} {M : zM} {S : zS} {β : Type} {mean : Int → Int → zAbs → Prop} {opC : Option (Int × zM × zS)} {opM : zM → Option zM} {J : zM → zS → Option β} {P : β → Prop} (hf : fnlA mean) (hC : clsW B G ax cur R M S) (hM : mdlW G ax cur R M) (hc : Ok opC (fun r => ∃ a, clsA B1 a r.2.1 r.2.2 ∧ keepM M r.2.1 ∧ mean r.1 0 a)) (hm : ∀ M1, mst M1 G ax cur → mdlW G ax cur R M1 → Ok (opM M1) (fun r => ∃ a, mdlA a r ∧ keepC M1 r ∧ mean (r 48 0) 0 a)) (hn : ∀ a M2 S2, clsA B1 a M2 S2 → mdlA a M2 → Ok (J M2 S2) P) : Ok (zb3 opC fun r M S => zb1 (opM M) fun M2 => zb1 (F_X11_thrown M2) fun t => if t = r then J M2 S else none) P := by
  refine Ok.b3 hc (fun c M1 S1 ⟨k, a1, a2, a3⟩ => ?_)
  dsimp only at a1 a2 a3
  have hM1 := hM.keep a2
  have hst : mst M1 G ax cur := ⟨hC.2.1.1, hC.2.1.2.1, hC.2.1.2.2, hM1.1, hM1.2.1, hM1.2.2.1⟩
  refine Ok.b1 (hm M1 hst hM1) (fun M2 ⟨k2, b1, b2, b4⟩ => ?_)
  obtain ⟨e1, e2, e3⟩ := hf _ _ _ _ _ _ a3 b4
  subst e3
  unfold F_X11_thrown
  simp only [zb1_some]
  exact Ok.pos e1.symm (hn k M2 S1 (clsW.keep a1 b2) b1)
noncomputable def clsY (B : Int) (M : zM) (V : (Nat ⊕ Unit) → zAbs → Prop) (r : (Nat ⊕ Unit) × zM × zS) : Prop := ∃ a, clsA B a r.2.1 r.2.2 ∧ keepM M r.2.1 ∧ V r.1 a
theorem wrapNA {B : Int} {M : zM} {mean : Int → Int → zAbs → Prop} {V : (Nat ⊕ Unit) → zAbs → Prop} {x : Option ((Nat ⊕ Unit) × zM × zS)} {kx : Nat → zM → zS → Option (Int × zM × zS)} (h : Ok x (clsY B M V)) (i : ∀ e k M S, V (.inl e) k → ∃ c, kx e M S = some (c, M, S) ∧ mean c 0 k) (j : ∀ k, V (.inr ()) k → mean 0 0 k) : Ok (zbx x kx fun _ M2 S3 => some (0, M2, S3)) (fun r => ∃ k, clsA B k r.2.1 r.2.2 ∧ keepM M r.2.1 ∧ mean r.1 0 k) := by
  refine Ok.bx h (fun e M1 S1 ⟨k, a1, a2, a3⟩ => ?_) (fun a M1 S1 ⟨k, a1, a2, a3⟩ => ?_)
  · obtain ⟨c, b1, b2⟩ := i e k M1 S1 a3
    rw [b1]
    exact Ok.ret ⟨k, a1, a2, b2⟩
  · exact Ok.ret ⟨k, a1, a2, j k a3⟩
theorem clsW.rest {B : Int} {G : zGr} {ax : List Int} {cur : Int} {R R1 : zRst} {M M1 : zM} {S : zS} {A : Nat → Prop} (h : clsW B G ax cur R M S) (hf : cfr A S M M1) (hA : ∀ b, A b → b = 2 ∨ b = 3 ∨ (42 ≤ b ∧ b ≤ 47)) (e1 : R1.1 = R.1) (e3 : R1.2.2.1 = R.2.2.1) (ht : M1 2 3 = (R1.2.1.length : Int) ∧ R1.2.1.length ≤ 60 ∧ rowl (M1 3) R1.2.1 ∧ ∀ c ∈ R1.2.1, 0 ≤ c ∧ c < 65536) (hs : sltC R1.2.2.2 M1) : clsW B G ax cur R1 M1 S ∧ keepM M M1 := by
  obtain ⟨a1, a2, a3, a4, a5, a6, a7, a8, r1, r2, r3, r4⟩ := h
  have e : ∀ b : Nat, b ≤ 41 → b ≠ 2 → b ≠ 3 → M1 b = M b := fun b q1 q2 q3 => hf.1 b (fun a => by have := hA b a; omega) (Or.inl (by omega))
  refine ⟨⟨a1, a2, a3.fr hf (fun a => by have := hA 5 a; omega), a4, ?_, ?_, a7.fr (by rw [e 1 (by decide) (by decide) (by decide)]) (fun b hb => e b (by have := hb.2; omega) (by have := hb.1; omega) (by have := hb.1; omega)), a8.fr (e 25 (by decide) (by decide) (by decide)) (e 26 (by decide) (by decide) (by decide)) (e 27 (by decide) (by decide) (by decide)), ?_, ht, ?_, hs⟩, keepM.of hf (fun b a => by have := hA b a; omega)⟩
  · unfold axC; rw [e 5 (by decide) (by decide) (by decide), e 6 (by decide) (by decide) (by decide)]; exact a5
  · rw [e 1 (by decide) (by decide) (by decide)]; exact a6
  · rw [e1]
    unfold savC gS axS at *
    rw [e 1 (by decide) (by decide) (by decide), e 8 (by decide) (by decide) (by decide), e 9 (by decide) (by decide) (by decide)]
    rcases r1 with b | ⟨b1, G1, ax1, cur1, b2, b3, ⟨c1, c2, c3, c4⟩, b5⟩
    · exact Or.inl b
    · exact Or.inr ⟨b1, G1, ax1, cur1, b2, b3, ⟨c1, c2, c3, fun j L R pr q => hf.2 _ _ _ _ (c4 j L R pr q)⟩, b5⟩
  · rw [e 1 (by decide) (by decide) (by decide), e3]; exact r3
theorem mdlW.rest {G : zGr} {ax : List Int} {cur : Int} {R R1 : zRst} {M M1 : zM} (h : mdlW G ax cur R M) (hf : mfr (fun b => b = 54 ∨ b = 67 ∨ b = 68 ∨ b = 69) (fun k => k = 0 ∨ k = 11) M M1) (e1 : R1.1 = R.1) (e3 : R1.2.2.1 = R.2.2.1) (ht : M1 48 11 = (R1.2.1.length : Int) ∧ ∀ (i : Nat) (c : Int), R1.2.1[i]? = some c → M1 54 i = c) (hs : sltM R1.2.2.2 M1) : mdlW G ax cur R1 M1 ∧ keepC M M1 := by
  obtain ⟨h1, h2, h3, r1, r2, r3, r4⟩ := h
  have e : ∀ k : Int, k ≠ 0 → k ≠ 11 → k ≠ 20 → k ≠ 21 → M1 48 k = M 48 k := fun k a b d f => hf.2 k (by omega) d f
  have eb : ∀ b : Nat, b = 49 ∨ (70 ≤ b ∧ b ≤ 75) → M1 b = M b := fun b a => hf.1 b (by omega) (by omega) (by omega) (by omega)
  refine ⟨⟨h1.fr hf ⟨by omega, by omega, by omega, by omega⟩ ⟨by omega, by omega, by omega⟩, h2.fr hf (by omega) (by omega), by rw [e 29 (by decide) (by decide) (by decide) (by decide)]; exact h3, ?_, ht, ?_, hs⟩, keepC.of hf (fun b q => by omega)⟩
  · rw [e1]
    unfold savM at *
    rw [e 37 (by decide) (by decide) (by decide) (by decide), eb 70 (by decide), eb 71 (by decide), eb 72 (by decide), eb 73 (by decide), eb 74 (by decide), eb 75 (by decide)]
    exact r1
  · rw [e 14 (by decide) (by decide) (by decide) (by decide), e3]; exact r3
theorem zi2c_r (a : Int) : 0 ≤ zi2c a ∧ zi2c a < 65536 := by
  unfold zi2c
  have h : ((zi a).toUInt32 % 65536).toNat < 65536 := by rw [UInt32.toNat_mod]; exact Nat.mod_lt _ (by decide)
  generalize (zi a).toUInt32 % 65536 = u at h ⊢
  have e : u.toInt32.toInt = (u.toNat : Int) := by
    show u.toBitVec.toInt = _
    rw [BitVec.toInt_eq_toNat_of_lt (by show 2 * u.toNat < 2 ^ 32; omega)]
    rfl
  omega
def mnAp (a : zAbs) (t : Int) (c v : Int) (k : zAbs) : Prop := (60 ≤ a.2.2.2.2.1.length ∧ c = 1 ∧ v = 0 ∧ k = a) ∨ (a.2.2.2.2.1.length < 60 ∧ c = 0 ∧ v = 0 ∧ k = (a.1, a.2.1, a.2.2.1, a.2.2.2.1, a.2.2.2.2.1 ++ [t], a.2.2.2.2.2))
theorem mnAp.fnl {a : zAbs} {t : Int} : fnlA (mnAp a t) := by
  rintro c v k c2 v2 k2 (⟨a1, a2, a3, a4⟩ | ⟨a1, a2, a3, a4⟩) (⟨b1, b2, b3, b4⟩ | ⟨b1, b2, b3, b4⟩)
  · exact ⟨by omega, fun _ => by omega, by rw [a4, b4]⟩
  · omega
  · omega
  · exact ⟨by omega, fun _ => by omega, by rw [a4, b4]⟩
theorem L_append {B : Int} {G : zGr} {ax : List Int} {cur : Int} {R : zRst} {M : zM} {S : zS} {lnS v5 : Int} {scr : Int → Int} {P : (Int × zM × zS) ⊕ (zM × zS) → Prop} (hC : clsW B G ax cur R M S) (hM : mdlW G ax cur R M) (hb : (0 : Int) ≤ w (v5 + 1) ∧ w (v5 + 1) < lnS) (hn : lxA B lnS scr v5 P) : Ok (F_L_law_J212 lnS scr v5 M S) P := by
  unfold F_L_law_J212
  simp only [zchk_pos hb]
  have htr := zi2c_r (scr (w (v5 + 1)))
  generalize zi2c (scr (w (v5 + 1))) = t at htr ⊢
  obtain ⟨t1, t2, t3, t4⟩ := hC.2.2.2.2.2.2.2.2.2.1
  refine blkNA (B1 := B) (mnAp.fnl (a := (G, ax, cur, R)) (t := t)) hC hM ?_ (fun M1 hst hM1 => ?_) hn
  · unfold F_L_append
    refine wrapNA (V := fun r k => (60 ≤ R.2.1.length ∧ r = .inl 0 ∧ k = (G, ax, cur, R)) ∨ (R.2.1.length < 60 ∧ r = .inr () ∧ k = (G, ax, cur, R.1, R.2.1 ++ [t], R.2.2))) ?_ (fun e k M S q => ?_) (fun k q => ?_)
    · unfold F_X10_append
      by_cases q : R.2.1.length < 60
      · refine Ok.b2 (Q := fun r => r.1 = 1 ∧ r.2 = zs (zs M 3 (R.2.1.length : Int) t) 2 3 ((R.2.1.length : Int) + 1)) ?_ (fun v M1 ⟨a1, a2⟩ => ?_)
        · unfold F_X1_accept
          rw [t1]
          refine Ok.neg (by omega) (Ok.pos (by omega) (Ok.chk ⟨by omega, by omega⟩ (Ok.chk htr (Ok.lett ?_))))
          rw [zs_ne (a := 3) (b := 2) _ _ _ (by decide), t1, w_id (a := (R.2.1.length : Int) + 1) (by omega)]
          exact Ok.lett (Ok.ret ⟨rfl, rfl⟩)
        · dsimp only at a1 a2
          subst a1 a2
          refine Ok.neg (by decide) (Ok.ret ⟨(G, ax, cur, R.1, R.2.1 ++ [t], R.2.2), ?_⟩)
          have hf : cfr (fun b => b = 2 ∨ b = 3) S M (zs (zs M 3 (R.2.1.length : Int) t) 2 3 ((R.2.1.length : Int) + 1)) := (cfr.zs (Or.inr rfl) (by decide)).trans (cfr.zs (Or.inl rfl) (by decide))
          obtain ⟨c1, c2⟩ := hC.rest (R1 := (R.1, R.2.1 ++ [t], R.2.2)) hf (fun b a => by omega) rfl rfl ⟨by rw [zs_at]; show _ = ((R.2.1 ++ [t]).length : Int); rw [List.length_append, List.length_singleton]; omega, by show (R.2.1 ++ [t]).length ≤ 60; rw [List.length_append, List.length_singleton]; omega, by
            rw [zs_ne _ _ _ (by decide), zs_eq]
            exact rowl_push t3 rfl, fun c hc => by
            rcases List.mem_append.mp hc with a | a
            · exact t4 c a
            · rw [List.mem_singleton] at a; rw [a]; exact htr⟩ (fun k hk => by
            have := hC.2.2.2.2.2.2.2.2.2.2.2 k hk
            rw [hf.1 (42 + 2 * k) (by omega) (Or.inl (by omega)), hf.1 (43 + 2 * k) (by omega) (Or.inl (by omega))]
            exact this)
          exact ⟨c1, c2, Or.inr ⟨q, rfl, rfl⟩⟩
      · refine Ok.b2 (Q := fun r => r.1 = 0 ∧ r.2 = M) ?_ (fun v M1 ⟨a1, a2⟩ => ?_)
        · unfold F_X1_accept
          rw [t1]
          exact Ok.neg (by omega) (Ok.neg (by omega) (Ok.ret ⟨rfl, rfl⟩))
        · dsimp only at a1 a2
          subst a1 a2
          exact Ok.pos rfl (Ok.ret ⟨(G, ax, cur, R), hC.zer _, keepM.refl, Or.inl ⟨by omega, rfl, rfl⟩⟩)
    · rcases q with ⟨q1, q2, q3⟩ | ⟨q1, q2, q3⟩
      · cases q2; exact ⟨1, rfl, Or.inl ⟨q1, rfl, rfl, q3⟩⟩
      · cases q2
    · rcases q with ⟨q1, q2, q3⟩ | ⟨q1, q2, q3⟩
      · cases q2
      · exact Or.inr ⟨q1, rfl, rfl, q3⟩
  · obtain ⟨m1, m2⟩ := hM1.2.2.2.2.1
    have e11 : zs M1 48 0 0 48 11 = (R.2.1.length : Int) := by rw [zs_off _ _ (Or.inr (by decide))]; exact m1
    unfold F_X11_append
    refine Ok.lett ?_
    rw [e11]
    refine Ok.ite (fun q => Ok.lett (Ok.ret ⟨(G, ax, cur, R), hM1.scr (mfr.trans (mscr.th (v := 0)) mscr.th), keepC.scr (mfr.trans (mscr.th (v := 0)) mscr.th), Or.inl ⟨by show 60 ≤ R.2.1.length; omega, zs_at (zs M1 48 0 0) 48 0 1, rfl, rfl⟩⟩)) (fun q => ?_)
    have hl : R.2.1.length < 60 := by omega
    refine Ok.chk ⟨by omega, by omega⟩ (Ok.chk htr (Ok.lett ?_))
    rw [zs_ne (a := 54) (b := 48) _ _ _ (by decide), e11, w_id (a := (R.2.1.length : Int) + 1) (by omega)]
    refine Ok.lett (Ok.ret ⟨(G, ax, cur, R.1, R.2.1 ++ [t], R.2.2), ?_⟩)
    have hf : mfr (fun b => b = 54 ∨ b = 67 ∨ b = 68 ∨ b = 69) (fun k => k = 0 ∨ k = 11) M1 (zs (zs (zs M1 48 0 0) 54 (R.2.1.length : Int) t) 48 11 ((R.2.1.length : Int) + 1)) := ((mfr.fld (Or.inl rfl)).trans (mfr.cell (Or.inl rfl) (by decide))).trans (mfr.fld (Or.inr rfl))
    obtain ⟨c1, c2⟩ := hM1.rest (R1 := (R.1, R.2.1 ++ [t], R.2.2)) hf rfl rfl ⟨by rw [zs_at]; show _ = ((R.2.1 ++ [t]).length : Int); rw [List.length_append, List.length_singleton]; omega, fun i c hi => by
      rw [zs_ne _ _ _ (by decide), zs_eq]
      exact rowl_push (f := zs M1 48 0 0 54) (by rw [zs_ne _ _ _ (by decide)]; exact m2) rfl i c hi⟩ (fun k hk => by
      have := hM1.2.2.2.2.2.2 k hk
      rw [zs_ne (b := 67) _ _ _ (by decide), zs_ne (b := 67) _ _ _ (by decide), zs_ne (b := 67) _ _ _ (by decide), zs_ne (b := 68) _ _ _ (by decide), zs_ne (b := 68) _ _ _ (by decide), zs_ne (b := 68) _ _ _ (by decide), zs_ne (b := 69) _ _ _ (by decide), zs_ne (b := 69) _ _ _ (by decide), zs_ne (b := 69) _ _ _ (by decide)]
      exact this)
    refine ⟨c1, c2, Or.inr ⟨hl, ?_, rfl, rfl⟩⟩
    rw [zs_off _ _ (Or.inr (by decide)), zs_ne _ _ _ (by decide)]
    exact zs_at M1 48 0 0
