/-! PURE 81: the class's calls as the law of its own uses them: arrays, what is saved -/
def rS (R : zRst) (f : Nat → Int × Int × (Int → Int)) : zRst := (R.1, R.2.1, R.2.2.1, f)
section
variable {B : Int} {G : zGr} {ax : List Int} {cur : Int} {R : zRst} {M : zM} {S : zS}
theorem Q_slot0 {β : Type} {P : β → Prop} {kx : Nat → zM → zS → Option β} {k : Nat → zM → zS → Option β} (hC : clsW B G ax cur R M S) (hy : Ok (k 42 M S) P) : Ok (zbx (F_X10_requireSlot 0 M S) kx k) P := by
  unfold F_X10_requireSlot
  rw [if_neg (by omega), if_pos (by omega), zchk_pos ⟨by omega, by omega⟩, zbx_inr]
  have h := (slt hC.1 (show 0 < 3 by omega)).1
  have h2 : zrf S 41 0 = 42 := h
  rw [h2]
  exact hy
theorem Q_allocate (hC : clsW B G ax cur R M S) : Ok (F_X10_allocate 0 2 10 M S) (qX B G ax cur (rS R (slU R.2.2.2 0 (2, 10, fun _ => 0))) S M (fun _ => True)) := by
  obtain ⟨t1, t2, t3, t4, t5⟩ := slt hC.1 (show 0 < 3 by omega)
  unfold F_X10_allocate
  refine Q_slot0 hC ?_
  rw [if_neg (by omega), if_neg (by omega), if_neg (by omega), if_neg (by omega)]
  refine Ok.chk t2 ?_
  refine Ok.b1 (Q := fun M6 => (∀ i : Int, 0 ≤ i → i < 20 → M6 43 i = 0) ∧ M6 42 1 = 2 ∧ M6 42 2 = 10 ∧ ∀ b, b ≠ 42 → b ≠ 43 → M6 b = M b) ?_ (fun M6 ⟨a1, a2, a3, a4⟩ => ?_)
  · unfold F_X8_renew
    refine Ok.chk t2 (Ok.lett (Ok.chk t2 (Ok.lett (Ok.chk t2 ?_))))
    have t3' : zrf S 42 0 = 43 := t3
    rw [t3']
    refine Ok.b1 (FJ7_fill t4 (by rw [t5]; decide) (by rw [t5]; decide)) (fun M6 ⟨b1, b2⟩ => Ok.ret ⟨fun i h0 h1 => b1 i h0 (by rw [t5]; exact h1), ?_, ?_, fun b hb1 hb2 => ?_⟩)
    · rw [b2 _ (by omega), zs_off _ _ (Or.inr (by decide)), zs_at]
    · rw [b2 _ (by omega), zs_at]
    · rw [b2 b hb2, zs_ne _ _ _ hb1, zs_ne _ _ _ hb1]
  · have hcf : cfr (fun b => 42 ≤ b ∧ b ≤ 47) S M M6 := ⟨fun b hb _ => a4 b (by omega) (by omega), fun p L R pr q => by
      have hp := q.1.1
      exact q.same (a4 _ (by omega) (by omega)) (a4 _ (by omega) (by omega)) (a4 _ (by omega) (by omega)) (a4 _ (by omega) (by omega))⟩
    obtain ⟨c1, c2⟩ := cls_sl hC hcf (f := slU R.2.2.2 0 (2, 10, fun _ => 0)) (fun k hk => by
      have hk2 := hC.2.2.2.2.2.2.2.2.2.2.2 k hk
      by_cases e : k = 0
      · subst e
        rw [slU_eq]
        exact ⟨a2, a3, a1, Or.inr ⟨by decide, by decide⟩, by decide, by decide⟩
      · rw [slU_ne e, a4 _ (by omega) (by omega), a4 _ (by omega) (by omega)]
        exact hk2)
    exact Ok.ret ⟨_, rfl, rfl, c1, c2, trivial⟩
theorem Q_filled {β : Type} {P : β → Prop} {kx : Nat → zM → zS → Option β} {k : Unit → zM → zS → Option β} (hC : clsW B G ax cur R M S) (h2 : (R.2.2.2 0).1 = 2) (hy : Ok (k () M S) P) : Ok (zbx (F_X10_requireFilled 42 M S) kx k) P := by
  have hs := hC.2.2.2.2.2.2.2.2.2.2.2 0 (by omega)
  have t2 := (slt hC.1 (show 0 < 3 by omega)).2.1
  have e : M 42 1 = 2 := hs.1.trans h2
  unfold F_X10_requireFilled
  rw [zchk_pos t2, e, if_neg (by omega), zbx_inr]
  exact hy
theorem Q_store {i x : Int} {f : Int → Int} (hC : clsW B G ax cur R M S) (hR : R.2.2.2 0 = (2, 10, f)) (h0 : 0 ≤ i) (h1 : i < 10) : Ok (F_X10_store 0 i x M S) (qX B G ax cur (rS R (slU R.2.2.2 0 (2, 10, up f i x))) S M (fun _ => True)) := by
  have hs := hC.2.2.2.2.2.2.2.2.2.2.2 0 (by omega)
  rw [hR] at hs
  obtain ⟨t1, t2, t3, t4, t5⟩ := slt hC.1 (show 0 < 3 by omega)
  have t3' : zrf S 42 0 = 43 := t3
  have t2' : zkd S 42 = 6 := t2
  have e1 : M 42 1 = 2 := hs.1
  have e2 : M 42 2 = 10 := hs.2.1
  unfold F_X10_store
  refine Q_slot0 hC (Q_filled hC (by rw [hR]) ?_)
  refine Ok.chk t2' ?_
  rw [e2]
  refine QI h0 h1 (Ok.chk t2' ?_)
  have hput : F_X8_setNarrowed 42 i x M S = some (zs M 43 i x) := by
    unfold F_X8_setNarrowed F_X8_setNarrowed_J26
    rw [zchk_pos t2', e1, if_neg (by omega), zchk_pos t2', if_pos (by omega), zchk_pos t2', t3', FX6_put t4 h0 (by rw [t5]; omega)]
    rfl
  rw [hput]
  simp only [zb1_some]
  have hcf : cfr (fun b => 42 ≤ b ∧ b ≤ 47) S M (zs M 43 i x) := cfr.zs (by omega) (by omega)
  obtain ⟨c1, c2⟩ := cls_sl hC hcf (f := slU R.2.2.2 0 (2, 10, up f i x)) (fun k hk => by
    have hk2 := hC.2.2.2.2.2.2.2.2.2.2.2 k hk
    rw [zs_ne _ _ _ (show 42 + 2 * k ≠ 43 by omega)]
    by_cases e : k = 0
    · subst e
      rw [hR] at hk2
      rw [slU_eq]
      refine ⟨hk2.1, hk2.2.1, fun y y0 y1 => ?_, hk2.2.2.2⟩
      show zs M 43 i x 43 y = up f i x y
      rw [zs_eq]
      by_cases ey : y = i
      · rw [ey, up_eq, up_eq]
      · rw [up_ne _ _ ey, up_ne _ _ ey]; exact hk2.2.2.1 y y0 y1
    · rw [slU_ne e, zs_ne _ _ _ (show 43 + 2 * k ≠ 43 by omega)]
      exact hk2)
  exact Ok.ret ⟨_, rfl, rfl, c1, c2, trivial⟩
theorem Q_compare {f : Int → Int} (hC : clsW B G ax cur R M S) (hf : fewA G ax) (hR : R.2.2.2 0 = (2, 10, f)) : Ok (F_X10_compareSizes 0 M S) (qX B G ax cur R S M (fun v => ∃ i : Nat, stp G ax 10 f i ∧ ((G.1 < (i : Int) ∧ v = -1) ∨ ((i : Int) ≤ G.1 ∧ f i ≠ cln G ax i ∧ v = i)))) := by
  have hG1 := hC.2.1.1.1
  unfold F_X10_compareSizes
  refine Q_slot0 hC (QL hC hf (fun M1 b2 b3 b4 b5 => Q_filled b2 (by rw [hR]) ?_))
  have hs := b2.2.2.2.2.2.2.2.2.2.2.2 0 (by omega)
  rw [hR] at hs
  have t2 := (slt b2.1 (show 0 < 3 by omega)).2.1
  have e1 : M1 42 1 = 2 := hs.1
  rw [zchk_pos t2, e1, if_pos rfl]
  refine (CX_cmp b2 b3.1 (show 0 < 3 by omega)).mono (fun r ⟨c, v, hc, e1, e2⟩ => ?_)
  rw [hR] at hc
  obtain ⟨i, g1, g2⟩ := hc
  have g1' : stp G ax 10 f i := g1
  rcases g2 with ⟨g, ec, ev⟩ | ⟨g, g3, ec⟩ | ⟨g, g3, g4, ec, ev⟩
  · rcases e2 with ⟨a1, a2, a3⟩ | ⟨a1, a2, a3⟩
    · exact ⟨v, a2, a3, by rw [e1]; exact b2, by rw [e1]; exact b5, i, g1', Or.inl ⟨g, ev⟩⟩
    · omega
  · have g3' : ¬ (i : Int) < 10 := g3
    omega
  · rcases e2 with ⟨a1, a2, a3⟩ | ⟨a1, a2, a3⟩
    · exact ⟨v, a2, a3, by rw [e1]; exact b2, by rw [e1]; exact b5, i, g1', Or.inr ⟨g, g4, ev⟩⟩
    · omega
end
