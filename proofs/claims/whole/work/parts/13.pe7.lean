/-! PURE 49: the law's steps: small ones -/
theorem jn_3 {x d : Int} (hd : 1 ≤ d ∧ d ≤ 3) : jn x d = 3 * x + d ∧ ln d = 1 ∧ wd d := by
  have h1 : ln d = 1 := by unfold ln; rw [if_neg (by omega), if_pos (by omega)]
  refine ⟨?_, h1, ⟨by omega, by omega⟩⟩
  unfold jn
  rw [h1, show p3 1 = 3 from rfl]
  omega
section
variable {B : Int} {G : zGr} {ax : List Int} {cur : Int} {R : zRst} {M : zM} {S : zS} {lnS v5 : Int} {scr : Int → Int} {P : (Int × zM × zS) ⊕ (zM × zS) → Prop}
theorem L_wordLength (hC : clsW B G ax cur R M S) (hM : mdlW G ax cur R M) (hn : lxt B G ax R lnS scr v5 P) : Ok (F_L_law_J1085 lnS scr v5 M S) P := by
  unfold F_L_law_J1085 F_X10_wordLength
  have e29 : zs M 48 0 0 48 29 = cur := by rw [zs_off _ _ (Or.inr (by decide))]; exact hM.2.2.1
  rw [hC.2.2.2.2.2.1, FX9_length hC.2.1.2.2]
  simp only [zb1_some]
  refine Ok.b2 (Q := fun r => r.1 = ln cur ∧ r.2 = zs M 48 0 0) ?_ (fun v M1 ⟨a1, a2⟩ => ?_)
  · unfold F_X11_wordLength
    refine Ok.lett ?_
    rw [e29, FX11_lengthOf hC.2.1.2.2]
    simp only [zb1_some]
    exact Ok.ret ⟨rfl, rfl⟩
  · dsimp only at a1 a2
    subst a1 a2
    exact Ok.pos rfl (hn cur _ S (hC.keep (keepC.scr mscr.th)) (hM.scr mscr.th))
theorem L_faultPosition (hC : clsW B G ax cur R M S) (hM : mdlW G ax cur R M) (hn : lxt B G ax R lnS scr v5 P) : Ok (F_L_law_J294 lnS scr v5 M S) P := by
  unfold F_L_law_J294 F_X10_faultPosition
  simp only [zb1_some]
  have e14 : zs M 48 0 0 48 14 = R.2.2.1 := by rw [zs_off _ _ (Or.inr (by decide))]; exact hM.2.2.2.2.2.1
  refine Ok.b2 (Q := fun r => r.1 = R.2.2.1 ∧ r.2 = zs M 48 0 0) ?_ (fun v M1 ⟨a1, a2⟩ => ?_)
  · unfold F_X11_faultPosition
    exact Ok.lett (Ok.ret ⟨e14, rfl⟩)
  · dsimp only at a1 a2
    subst a1 a2
    exact Ok.pos hC.2.2.2.2.2.2.2.2.2.2.1 (hn cur _ S (hC.keep (keepC.scr mscr.th)) (hM.scr mscr.th))
theorem L_clearWord (hC : clsW B G ax cur R M S) (hM : mdlW G ax cur R M) (hn : lxt B G ax R lnS scr v5 P) : Ok (F_L_law_J964 lnS scr v5 M S) P := by
  unfold F_L_law_J964 F_X10_clearWord F_X11_clearWord
  obtain ⟨c1, c2⟩ := cls_cur (y := 0) hC ⟨by decide, by decide⟩
  refine Ok.b1 (Q := fun M1 => M1 = zs M 1 8 0) (Ok.lett (Ok.ret rfl)) (fun M1 e => ?_)
  subst e
  have hM1 := hM.keep c2
  refine Ok.b1 (Q := fun M2 => M2 = zs (zs (zs M 1 8 0) 48 0 0) 48 29 0) (Ok.lett (Ok.lett (Ok.ret rfl))) (fun M2 e => ?_)
  subst e
  have hm : mcur (zs M 1 8 0) (zs (zs (zs M 1 8 0) 48 0 0) 48 29 0) 0 := mcur.of mscr.th
  exact hn 0 _ S (c1.keep (keepC.mcur hm)) (hM1.cur hm)
def mnN2 (cur : Int) (A F : Prop) (ca cf y : Int) (c v k : Int) : Prop := (¬ A ∧ c = ca ∧ k = cur) ∨ (A ∧ ¬ F ∧ c = cf ∧ k = cur) ∨ (A ∧ F ∧ c = 0 ∧ v = 0 ∧ k = y)
theorem mnN2.fnl {A F : Prop} {ca cf y : Int} (ha : ca ≠ 0) (hcf : cf ≠ 0) : fnl (mnN2 cur A F ca cf y) := by
  rintro c v k c2 v2 k2 a b
  rcases a with ⟨a1, a2, a3⟩ | ⟨a1, a2, a3, a4⟩ | ⟨a1, a2, a3, a4, a5⟩
  · rcases b with ⟨b1, b2, b3⟩ | ⟨b1, b2, b3, b4⟩ | ⟨b1, b2, b3, b4, b5⟩
    · exact ⟨by omega, fun q => absurd (a2.symm.trans q) ha, by omega⟩
    · exact absurd b1 a1
    · exact absurd b1 a1
  · rcases b with ⟨b1, b2, b3⟩ | ⟨b1, b2, b3, b4⟩ | ⟨b1, b2, b3, b4, b5⟩
    · exact absurd a1 b1
    · exact ⟨by omega, fun q => absurd (a3.symm.trans q) hcf, by omega⟩
    · exact absurd b2 a2
  · rcases b with ⟨b1, b2, b3⟩ | ⟨b1, b2, b3, b4⟩ | ⟨b1, b2, b3, b4, b5⟩
    · exact absurd a1 b1
    · exact absurd a2 b2
    · exact ⟨by omega, fun _ => by omega, by omega⟩
theorem wrapN2 {A F : Prop} {ea ef : Nat} {ca cf y : Int} {x : Option ((Nat ⊕ Unit) × zM × zS)} {kx : Nat → zM → zS → Option (Int × zM × zS)} (h : Ok x (clsX B G ax R M (fun r k => (¬ A ∧ r = .inl ea ∧ k = cur) ∨ (A ∧ ¬ F ∧ r = .inl ef ∧ k = cur) ∨ (A ∧ F ∧ r = .inr () ∧ k = y)))) (ha : ∀ M S, kx ea M S = some (ca, M, S)) (hf : ∀ M S, kx ef M S = some (cf, M, S)) : Ok (zbx x kx fun _ M2 S3 => some (0, M2, S3)) (fun r => ∃ k, clsW B G ax k R r.2.1 r.2.2 ∧ keepM M r.2.1 ∧ mnN2 cur A F ca cf y r.1 0 k) := by
  refine wrapN h (fun e k M S q => ?_) (fun k q => ?_)
  · rcases q with ⟨q1, q2, q3⟩ | ⟨q1, q2, q3, q4⟩ | ⟨_, _, q3, _⟩
    · cases q2; exact ⟨ca, ha M S, Or.inl ⟨q1, rfl, q3⟩⟩
    · cases q3; exact ⟨cf, hf M S, Or.inr (Or.inl ⟨q1, q2, rfl, q4⟩)⟩
    · cases q3
  · rcases q with ⟨q1, q2, q3⟩ | ⟨q1, q2, q3, q4⟩ | ⟨q1, q2, q3, q4⟩
    · cases q2
    · cases q3
    · exact Or.inr (Or.inr ⟨q1, q2, rfl, rfl, q4⟩)
theorem mdl_same {M1 : zM} {c : Int} (hM : mdlW G ax cur R M1) : mdlW G ax cur R (zs (zs M1 48 0 c) 48 29 cur) ∧ keepC M1 (zs (zs M1 48 0 c) 48 29 cur) ∧ zs (zs M1 48 0 c) 48 29 cur 48 0 = c := by
  have hm : mcur M1 (zs (zs M1 48 0 c) 48 29 cur) cur := mcur.of mscr.th
  exact ⟨hM.cur hm, keepC.mcur hm, by rw [zs_off _ _ (Or.inr (by decide)), zs_at]⟩
theorem mdl_to {M1 : zM} {c y : Int} (hM : mdlW G ax cur R M1) : mdlW G ax y R (zs (zs M1 48 0 c) 48 29 y) ∧ keepC M1 (zs (zs M1 48 0 c) 48 29 y) ∧ zs (zs M1 48 0 c) 48 29 y 48 0 = c := by
  have hm : mcur M1 (zs (zs M1 48 0 c) 48 29 y) y := mcur.of mscr.th
  exact ⟨hM.cur hm, keepC.mcur hm, by rw [zs_off _ _ (Or.inr (by decide)), zs_at]⟩
theorem L_addLetter (hC : clsW B G ax cur R M S) (hM : mdlW G ax cur R M) (hb : (0 : Int) ≤ w (v5 + 1) ∧ w (v5 + 1) < lnS) (hn : lxt B G ax R lnS scr v5 P) : Ok (F_L_law_J975 lnS scr v5 M S) P := by
  unfold F_L_law_J975
  simp only [zchk_pos hb]
  generalize zi2c (scr (w (v5 + 1))) = t
  have hw := hC.2.1.2.2
  have hlb := ln_b cur
  have hw0 := hw.1
  have hw1 := hw.2
  refine blkN (mnN2.fnl (cur := cur) (A := 97 ≤ t ∧ t ≤ 99) (F := ln cur < 9) (ca := 1) (cf := 2) (y := 3 * cur + (t - 96)) (by decide) (by decide)) hC hM ?_ (fun M1 hst hM1 => ?_) hn
  · unfold F_L_addLetter
    refine wrapN2 (ea := 1) (ef := 0) ?_ (fun _ _ => rfl) (fun _ _ => rfl)
    unfold F_X10_addLetter F_X10_addLetter_J12
    refine Ok.ite (fun c => Ok.ret ⟨cur, hC.zer _, keepM.refl, Or.inl ⟨by omega, rfl, rfl⟩⟩) (fun c => Ok.ite (fun c1 => Ok.ret ⟨cur, hC.zer _, keepM.refl, Or.inl ⟨by omega, rfl, rfl⟩⟩) (fun c1 => ?_))
    have hA : 97 ≤ t ∧ t ≤ 99 := ⟨by omega, by omega⟩
    rw [hC.2.2.2.2.2.1, FX9_length hw]
    simp only [zb1_some]
    refine Ok.ite (fun c2 => ?_) (fun c2 => Ok.ret ⟨cur, hC.zer _, keepM.refl, Or.inr (Or.inl ⟨hA, c2, rfl, rfl⟩)⟩)
    obtain ⟨j1, j2, j3⟩ := jn_3 (x := cur) (d := t - 96) ⟨by omega, by omega⟩
    have hy := (jn_r hw j3 (by omega)).2
    rw [j1] at hy
    unfold F_X9_extend
    rw [w_id (a := t - 97) (by omega), w_id (a := 3 * cur + 1 + (t - 97)) (by omega)]
    simp only [zb1_some]
    obtain ⟨d1, d2⟩ := cls_cur (y := 3 * cur + 1 + (t - 97)) hC (by rw [show 3 * cur + 1 + (t - 97) = 3 * cur + (t - 96) by omega]; exact hy)
    exact Ok.lett (Ok.ret ⟨_, d1, d2, Or.inr (Or.inr ⟨hA, c2, rfl, by omega⟩)⟩)
  · have e29 : ∀ c : Int, zs M1 48 0 c 48 29 = cur := fun c => by rw [zs_off _ _ (Or.inr (by decide))]; exact hM1.2.2.1
    have bad : ∀ c : Int, c ≠ 0 → (((¬ (97 ≤ t ∧ t ≤ 99)) ∧ c = 1) ∨ ((97 ≤ t ∧ t ≤ 99) ∧ ¬ ln cur < 9 ∧ c = 2)) → Ok (F_X11_addLetter_J33 t c M1) (fun r => ∃ k, mdlW G ax k R r ∧ keepC M1 r ∧ mnN2 cur (97 ≤ t ∧ t ≤ 99) (ln cur < 9) 1 2 (3 * cur + (t - 96)) (r 48 0) 0 k) := fun c hc hcs => by
      unfold F_X11_addLetter_J33 F_X11_addLetter_J64
      refine Ok.lett ?_
      rw [zs_at, e29]
      obtain ⟨d1, d2, d3⟩ := mdl_same (c := c) hM1
      refine Ok.neg hc (Ok.lett (Ok.ret ⟨cur, d1, d2, ?_⟩))
      rw [d3]
      rcases hcs with a | a
      · exact Or.inl ⟨a.1, a.2, rfl⟩
      · exact Or.inr (Or.inl ⟨a.1, a.2.1, a.2.2, rfl⟩)
    unfold F_X11_addLetter
    rw [FX11_isIn]
    simp only [zb1_some]
    refine Ok.ite (fun c => bad 1 (by decide) (Or.inl ⟨fun q => by rw [if_pos q] at c; exact absurd c (by decide), rfl⟩)) (fun c => ?_)
    have hA : 97 ≤ t ∧ t ≤ 99 := by
      by_cases q : 97 ≤ t ∧ t ≤ 99
      · exact q
      · rw [if_neg q] at c; exact absurd rfl c
    rw [hM1.2.2.1, FX11_lengthOf hw]
    simp only [zb1_some]
    refine Ok.ite (fun c1 => bad 2 (by decide) (Or.inr ⟨hA, by omega, rfl⟩)) (fun c1 => ?_)
    obtain ⟨j1, j2, j3⟩ := jn_3 (x := cur) (d := t - 96) ⟨by omega, by omega⟩
    unfold F_X11_addLetter_J33 F_X11_addLetter_J64
    refine Ok.lett ?_
    rw [zs_at, e29]
    refine Ok.pos rfl ?_
    rw [w_id (a := 1 + t - 97) (by omega), show 1 + t - 97 = t - 96 by omega, FX11_joined hw j3 (by omega), j1]
    simp only [zb1_some]
    obtain ⟨d1, d2, d3⟩ := mdl_to (c := 0) (y := 3 * cur + (t - 96)) hM1
    refine Ok.lett (Ok.ret ⟨_, d1, d2, Or.inr (Or.inr ⟨hA, by omega, d3, rfl, rfl⟩)⟩)
theorem L_takeAxiom (hC : clsW B G ax cur R M S) (hM : mdlW G ax cur R M) (hb : (0 : Int) ≤ w (v5 + 1) ∧ w (v5 + 1) < lnS) (hn : lxt B G ax R lnS scr v5 P) : Ok (F_L_law_J1013 lnS scr v5 M S) P := by
  unfold F_L_law_J1013
  simp only [zchk_pos hb]
  generalize scr (w (v5 + 1)) = t
  have hax := hC.2.1.2.1
  have h6 := hax.1
  refine blkN (mean := mnMv cur (ax.length : Int) t (fun i v k => v = 0 ∧ ax[i]? = some k)) (mnMv.fnl (fun i v k v2 k2 ⟨a0, a1⟩ ⟨b0, b1⟩ => by rw [a1] at b1; cases b1; exact ⟨by omega, rfl⟩)) hC hM ?_ (fun M1 hst hM1 => ?_) hn
  · unfold F_L_takeAxiom
    refine wrapN (V := fun r k => (¬ (0 ≤ t ∧ t < (ax.length : Int)) ∧ r = .inl 2 ∧ k = cur) ∨ (∃ i : Nat, t = i ∧ t < (ax.length : Int) ∧ r = .inr () ∧ ax[i]? = some k)) ?_ (fun e k M S q => ?_) (fun k q => ?_)
    · unfold F_X10_takeAxiom F_X10_requireAxiom
      rw [hC.2.2.2.2.1.1]
      by_cases q : 0 ≤ t ∧ t < (ax.length : Int)
      · unfold F_X10_requireIndex
        rw [if_neg (by omega), if_pos q.2, zbx_inr, zbx_inr]
        obtain ⟨i, hi⟩ : ∃ i : Nat, t = i := ⟨t.toNat, by omega⟩
        subst hi
        have hil : i < ax.length := by omega
        have hg := List.getElem?_eq_getElem hil
        generalize ax[i] = y at hg
        rw [FX2_axiom hC.1 hC.2.2.2.2.1 hax hg]
        simp only [zb1_some]
        have hy := hax.2 y (List.mem_of_getElem? hg)
        obtain ⟨c1, c2⟩ := cls_cur (y := y) hC ⟨by omega, by omega⟩
        exact Ok.lett (Ok.ret ⟨y, c1, c2, Or.inr ⟨i, rfl, q.2, rfl, hg⟩⟩)
      · unfold F_X10_requireIndex F_X10_requireIndex_J9
        by_cases q1 : t < 0
        · rw [if_pos q1, zbx_inl, zbx_inl]
          exact Ok.ret ⟨cur, hC.zer _, keepM.refl, Or.inl ⟨q, rfl, rfl⟩⟩
        · rw [if_neg q1, if_neg (by omega), zbx_inl, zbx_inl]
          exact Ok.ret ⟨cur, hC.zer _, keepM.refl, Or.inl ⟨q, rfl, rfl⟩⟩
    · rcases q with ⟨q1, q2, q3⟩ | ⟨i, _, _, q2, _⟩
      · cases q2; exact ⟨1, rfl, Or.inl ⟨q1, rfl, q3⟩⟩
      · cases q2
    · rcases q with ⟨q1, q2, q3⟩ | ⟨i, q1, q2, q3, q4⟩
      · cases q2
      · exact Or.inr ⟨i, q1, q2, rfl, rfl, q4⟩
  · have e29 : ∀ c : Int, zs M1 48 0 c 48 29 = cur := fun c => by rw [zs_off _ _ (Or.inr (by decide))]; exact hM1.2.2.1
    unfold F_X11_takeAxiom
    rw [hM1.2.1.1, FX11_isIn, w_id (a := (ax.length : Int) - 1) (by omega)]
    simp only [zb1_some]
    unfold F_X11_takeAxiom_J20 F_X11_takeAxiom_J44
    refine Ok.ite (fun c => Ok.lett ?_) (fun c => Ok.lett ?_)
    · have hq : ¬ (0 ≤ t ∧ t < (ax.length : Int)) := fun q => by rw [if_pos ⟨q.1, by omega⟩] at c; exact absurd c (by decide)
      rw [zs_at, e29]
      obtain ⟨d1, d2, d3⟩ := mdl_same (c := 1) hM1
      exact Ok.neg (by decide) (Ok.lett (Ok.ret ⟨cur, d1, d2, Or.inl ⟨hq, d3, rfl⟩⟩))
    · have hq : 0 ≤ t ∧ t ≤ (ax.length : Int) - 1 := by
        by_cases q : 0 ≤ t ∧ t ≤ (ax.length : Int) - 1
        · exact q
        · rw [if_neg q] at c; exact absurd rfl c
      obtain ⟨i, hi⟩ : ∃ i : Nat, t = i := ⟨t.toNat, by omega⟩
      subst hi
      have hil : i < ax.length := by omega
      have hg := List.getElem?_eq_getElem hil
      generalize ax[i] = y at hg
      have e49 : zs M1 48 0 0 49 i = y := by rw [zs_ne _ _ _ (by decide)]; exact hM1.2.1.2 i y hg
      rw [zs_at, e49]
      obtain ⟨d1, d2, d3⟩ := mdl_to (c := 0) (y := y) hM1
      exact Ok.pos rfl (Ok.chk ⟨by omega, by omega⟩ (Ok.lett (Ok.ret ⟨y, d1, d2, Or.inr ⟨i, rfl, by omega, d3, rfl, hg⟩⟩)))
end
