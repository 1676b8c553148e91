/-! PURE 47: the law's steps: calls that make another word the word -/
theorem clsW.mono {B B1 : Int} {G : zGr} {ax : List Int} {cur : Int} {R : zRst} {M : zM} {S : zS} (h : clsW B G ax cur R M S) (i : B ≤ B1) : clsW B1 G ax cur R M S := by
  obtain ⟨a1, a2, a3, a4, a5, a6, a7, ⟨b1, b2⟩, a9⟩ := h
  exact ⟨a1, a2, a3, a4, a5, a6, a7, ⟨⟨b1.1, by have := b1.2; omega⟩, b2⟩, a9⟩
theorem cls_cur {B : Int} {G : zGr} {ax : List Int} {cur y : Int} {R : zRst} {M : zM} {S : zS} (h : clsW B G ax cur R M S) (hy : wd y) : clsW B G ax y R (zs M 1 8 y) S ∧ keepM M (zs M 1 8 y) := by
  obtain ⟨a1, a2, a3, a4, a5, a6, a7, a8, a9⟩ := id h
  have e : ∀ b : Nat, b ≠ 1 → zs M 1 8 y b = M b := fun b hb => zs_ne M 8 y hb
  refine ⟨h.qry (cfr.zs (A := qA) (Or.inl rfl) (by decide)) (fun k _ k8 => zs_off _ _ (Or.inr k8)) (a7.fr (zs_off _ _ (Or.inr (by decide))) (fun b hb => e b (by have := hb.1; omega))) (a8.fr (e 25 (by decide)) (e 26 (by decide)) (e 27 (by decide))) (zs_at M 1 8 y) hy, fun b h1 h2 => e b (by omega)⟩
def mnMv (cur len t : Int) (W : Nat → Int → Int → Prop) (c v k : Int) : Prop := (¬ (0 ≤ t ∧ t < len) ∧ c = 1 ∧ k = cur) ∨ ∃ i : Nat, t = i ∧ t < len ∧ c = 0 ∧ W i v k
theorem mnMv.fnl {cur len t : Int} {W : Nat → Int → Int → Prop} (hu : ∀ i v k v2 k2, W i v k → W i v2 k2 → v = v2 ∧ k = k2) : fnl (mnMv cur len t W) := by
  rintro c v k c2 v2 k2 a b
  rcases a with ⟨a1, a2, a3⟩ | ⟨i, a1, a2, a3, a4⟩
  · rcases b with ⟨b1, b2, b3⟩ | ⟨j, b1, b2, b3, b4⟩
    · exact ⟨by omega, fun q => by omega, by omega⟩
    · exact absurd ⟨by omega, b2⟩ a1
  · rcases b with ⟨b1, b2, b3⟩ | ⟨j, b1, b2, b3, b4⟩
    · exact absurd ⟨by omega, a2⟩ b1
    · have e : i = j := by omega
      subst e
      have := hu i v k v2 k2 a4 b4
      exact ⟨by omega, fun _ => this.1, this.2⟩
def VMv (cur len t : Int) (W : Nat → Int → Int → Prop) (r : Nat ⊕ Int) (k : Int) : Prop := (¬ (0 ≤ t ∧ t < len) ∧ r = .inl 2 ∧ k = cur) ∨ ∃ i : Nat, t = i ∧ t < len ∧ ∃ v, r = .inr v ∧ W i v k
section
variable {B : Int} {G : zGr} {ax : List Int} {cur : Int} {R : zRst} {M : zM} {S : zS} {ln v5 : Int} {scr : Int → Int} {P : (Int × zM × zS) ⊕ (zM × zS) → Prop}
theorem wrapMv {len t : Int} {W : Nat → Int → Int → Prop} {x : Option ((Nat ⊕ Int) × zM × zS)} (h : Ok x (clsX B G ax R M (VMv cur len t W))) : Ok (zbx x (fun e M S => if e = 2 then (some (1, M, S)) else none) fun r1 M2 S3 => zlet (zs M2 76 0 r1) fun M10 => some (0, M10, S3)) (clsQ B G ax R M (mnMv cur len t W)) := by
  refine wrapV h (fun e k M S q => ?_) (fun a k q => ?_)
  · rcases q with ⟨q1, q2, q3⟩ | ⟨i, _, _, v, q2, _⟩
    · cases q2; exact ⟨1, rfl, fun v => Or.inl ⟨q1, rfl, q3⟩⟩
    · cases q2
  · rcases q with ⟨q1, q2, q3⟩ | ⟨i, q3, q4, v, q2, q5⟩
    · cases q2
    · cases q2; exact Or.inr ⟨i, q3, q4, rfl, q5⟩
theorem mdlMv {M1 : zM} {len t : Int} {W : Nat → Int → Int → Prop} {x : Option (Int × zM)} (hM : mdlW G ax cur R M1) (h : Ok x (fun e => (¬ (0 ≤ t ∧ t < len) → e.2 48 0 = 1 ∧ mscr M1 e.2) ∧ ∀ i : Nat, t = i → t < len → e.2 48 0 = 0 ∧ ∃ k, mcur M1 e.2 k ∧ W i e.1 k)) : Ok x (mdlQ G ax R M1 (mnMv cur len t W)) := by
  refine h.mono (fun r ⟨a1, a2⟩ => ?_)
  by_cases q : 0 ≤ t ∧ t < len
  · obtain ⟨b1, k, b2, b3⟩ := a2 t.toNat (by omega) q.2
    exact ⟨k, hM.cur b2, keepC.mcur b2, b2.2.1 76 (by omega) (by decide) (by decide) (by decide), Or.inr ⟨t.toNat, by omega, q.2, b1, b3⟩⟩
  · obtain ⟨b1, b2⟩ := a1 q
    exact ⟨cur, hM.scr b2, keepC.scr b2, b2.1 76 (by omega) (by decide) (by decide) (by decide), Or.inl ⟨q, b1, rfl⟩⟩
theorem CX_move {M1 : zM} {y : Int} {r : Nat} (h : clsW B G ax cur R M1 S) (hy : wd y) (hr : r < 500) : Ok (F_X10_makeMove (mvc y r) M1) (fun e => e.1 = ((r / 100 : Nat) : Int) ∧ clsW B G ax y R e.2 S ∧ keepM M1 e.2) := by
  have hm := mvc_d hy hr
  unfold F_X10_makeMove
  rw [FX4_word hm.2.1 hm.2.2, hm.1]
  simp only [zb1_some]
  refine Ok.lett ?_
  rw [FX4_context hy hr]
  simp only [zb1_some]
  obtain ⟨c1, c2⟩ := cls_cur h hy
  exact Ok.ret ⟨rfl, c1, c2⟩
theorem L_insert (hC : clsW B G ax cur R M S) (hM : mdlW G ax cur R M) (hb : (0 : Int) ≤ w (v5 + 1) ∧ w (v5 + 1) < ln) (hn : lxt B G ax R ln scr v5 P) : Ok (F_L_law_J1417 ln scr v5 M S) P := by
  unfold F_L_law_J1417 F_L_law_J1470
  simp only [zchk_pos hb]
  generalize scr (w (v5 + 1)) = t
  refine blkV (mnMv.fnl (cur := cur) (len := ((insL G cur).length : Int)) (t := t) (W := fun i v k => ∃ r, (insL G cur)[i]? = some r ∧ v = ((r / 100 : Nat) : Int) ∧ k = insV G cur r) (fun i v k v2 k2 ⟨r, a1, a2, a3⟩ ⟨r2, b1, b2, b3⟩ => by
    rw [a1] at b1; cases b1; exact ⟨by omega, by rw [a3, b3]⟩)) hC hM ?_ (fun M1 hst hM1 => mdlMv hM1 ((FX11_insert (t := t) hst).mono (fun e ⟨a1, a2⟩ => ⟨a1, fun i h1 h2 => ?_⟩))) hn
  · unfold F_L_insert
    refine wrapMv ?_
    unfold F_X10_insert
    refine Ok.b2 (CX_findIns hC) (fun v M1 ⟨a1, a2, a3, a4⟩ => ?_)
    dsimp only at a1 a2 a3 a4
    subst a1
    refine CX_i a3 a4 (fun q => Or.inl ⟨q, rfl, rfl⟩) (fun q => ?_)
    have hlen := len_insL hC.2.1.1 (x := cur)
    obtain ⟨i, hi⟩ : ∃ i : Nat, t = i := ⟨t.toNat, by omega⟩
    subst hi
    have hil : i < (insL G cur).length := by omega
    have hg := List.getElem?_eq_getElem hil
    generalize (insL G cur)[i] = r at hg
    have hp := (mem_insL hC.2.1.1 hC.2.1.2.2).mp (List.mem_of_getElem? hg)
    have hat : M1 40 i = mvc (insV G cur r) r := a2 i _ (by rw [List.getElem?_map, hg]; rfl)
    rw [xat a3.1 40 225 rfl (by omega) (by omega), hat]
    simp only [zb1_some]
    refine Ok.b2 (CX_move a3 (insV_r hC.2.1.1 hC.2.1.2.2 hp).1 (insP_500 hC.2.1.1 hC.2.1.2.2 hp)) (fun v2 M2 ⟨b1, b2, b3⟩ => Ok.ret ⟨_, b2, a4.trans b3, Or.inr ⟨i, rfl, q.2, _, rfl, r, hg, b1, rfl⟩⟩)
  · obtain ⟨b1, r, b2, b3, b4⟩ := a2 i h1 (by omega)
    exact ⟨b1, _, b4, r, b2, b3, rfl⟩
theorem L_reduce (hC : clsW B G ax cur R M S) (hM : mdlW G ax cur R M) (hb : (0 : Int) ≤ w (v5 + 1) ∧ w (v5 + 1) < ln) (hn : lxt B G ax R ln scr v5 P) : Ok (F_L_law_J1486 ln scr v5 M S) P := by
  unfold F_L_law_J1486 F_L_law_J1539
  simp only [zchk_pos hb]
  generalize scr (w (v5 + 1)) = t
  refine blkV (mnMv.fnl (cur := cur) (len := ((redL G cur).length : Int)) (t := t) (W := fun i v k => ∃ r, rkd G cur i r ∧ v = ((r / 100 : Nat) : Int) ∧ k = redV G cur r) (fun i v k v2 k2 ⟨r, a1, a2, a3⟩ ⟨r2, b1, b2, b3⟩ => by
    have e := a1.eq hC.2.1.1 b1; subst e; exact ⟨by omega, by rw [a3, b3]⟩)) hC hM ?_ (fun M1 hst hM1 => mdlMv hM1 ((FX11_reduce (t := t) hst).mono (fun e ⟨a1, a2⟩ => ⟨a1, fun i h1 h2 => ?_⟩))) hn
  · unfold F_L_reduce
    refine wrapMv ?_
    unfold F_X10_reduce
    refine Ok.b2 (CX_findRed hC) (fun v M1 ⟨a1, a2, a3, a4⟩ => ?_)
    dsimp only at a1 a2 a3 a4
    subst a1
    refine CX_i a3 a4 (fun q => Or.inl ⟨q, rfl, rfl⟩) (fun q => ?_)
    have hG := hC.2.1.1
    have hlen := len_redL hG (x := cur)
    have hkl : (ksR G cur).length = (redL G cur).length := List.length_map ..
    obtain ⟨i, hi⟩ : ∃ i : Nat, t = i := ⟨t.toNat, by omega⟩
    subst hi
    obtain ⟨k1, k2⟩ := xk a3.1 40 20 225 rfl
    have hs := FX6_sort (M := M1) k1 (by rw [k2]; decide) (by rw [k2]; omega) a2
    rw [hkl] at hs
    refine Ok.b1 hs (fun M2 ⟨⟨s, s1, s2, s3⟩, s4⟩ => ?_)
    have hcf : cfr (fun b => b = 40) S M1 M2 := ⟨fun b hb _ => s4 b hb, fun p L R pr q => by
      have hp := q.1.1
      exact q.same (s4 _ (by omega)) (s4 _ (by omega)) (s4 _ (by omega)) (s4 _ (by omega))⟩
    obtain ⟨c1, c2⟩ := cls_40 a3 hcf
    have hsl : s.length = (redL G cur).length := by rw [s1.length_eq, hkl]
    have hil : i < s.length := by omega
    have hg := List.getElem?_eq_getElem hil
    generalize s[i] = u at hg
    have hnd : s.Nodup := s1.nodup_iff.mpr (ksR_nd hG)
    have hpw : s.Pairwise (· < ·) := by
      have := List.pairwise_and_iff.mpr ⟨s2, hnd⟩
      exact this.imp (fun h => by have := h.1; have := h.2; omega)
    have hrk : rkn (ksR G cur) u = i := by
      have h1 := srt_rk hpw hg
      have h2 : rkn s u = rkn (ksR G cur) u := (s1.filter _).length_eq
      omega
    obtain ⟨r, r1, r2⟩ := List.mem_map.mp (s1.mem_iff.mp (List.mem_of_getElem? hg))
    have r2 : mvc (redV G cur r) r = u := r2
    subst r2
    have hp := (mem_redL hG).mp r1
    rw [xat c1.1 40 225 rfl (by omega) (by omega), s3 i _ hg]
    simp only [zb1_some]
    refine Ok.b2 (CX_move c1 (redV_r hG hp).1 (redP_500 hG hp)) (fun v2 M3 ⟨b1, b2, b3⟩ => Ok.ret ⟨_, b2, (a4.trans c2).trans b3, Or.inr ⟨i, rfl, q.2, _, rfl, r, ⟨hp, hrk⟩, b1, rfl⟩⟩)
  · obtain ⟨b1, r, b2, b3, b4⟩ := a2 i h1 (by omega)
    exact ⟨b1, _, b4, r, b2, b3, rfl⟩
theorem CX_find (h : clsW B G ax cur R M S) (hB : B < 1000000) : Ok (F_X5_find (M 1 8) M S) (fun M1 => clsW (B + 1) G ax cur R M1 S ∧ keepM M M1 ∧ fms G cur M1) := by
  obtain ⟨a1, a2, a3, a4, a5, a6, a7, a8, a9⟩ := id h
  rw [a6]
  refine (FX5_find a1 a2.1 a3 a2.2.2 a8 hB).mono (fun M1 ⟨b1, b2, b3⟩ => ?_)
  have e : ∀ b : Nat, b ≤ 24 → M1 b = M b := fun b hb => b3.1 b (by unfold nfB; omega) (Or.inl (by omega))
  have e1 := e 1 (by decide)
  exact ⟨h.qry (b3.mono (fun b q => by unfold nfB at q; unfold qA; omega)) (fun k _ _ => by rw [e1]) (a7.fr (by rw [e1]) (fun b hb => e b hb.2)) b1 (by rw [e1]; exact a6) a2.2.2, keepM.of b3 (fun b q => by unfold nfB at q; omega), b2⟩
theorem L_normalForms (hC : clsW B G ax cur R M S) (hB : B < 1000000) (hM : mdlW G ax cur R M) (hn : lxt (B + 1) G ax R ln scr v5 P) : Ok (F_L_law_J1542 ln scr v5 M S) P := by
  unfold F_L_law_J1542 F_X10_normalForms
  refine Ok.b2 (Ok.b1 (CX_find hC hB) (P := fun r => r.1 = (nfc G cur : Int) ∧ clsW (B + 1) G ax cur R r.2 S ∧ keepM M r.2) (fun M1 ⟨a1, a2, a3⟩ => Ok.ret ⟨a3.2, a1, a2⟩)) (fun v M1 ⟨a1, a2, a3⟩ => ?_)
  dsimp only at a1 a2 a3
  have hM1 := hM.keep a3
  refine Ok.b2 (FX11_normalForms (a2.mst hM1)) (fun v2 M2 ⟨b1, b2, b3⟩ => ?_)
  dsimp only at b1 b2 b3
  exact Ok.pos (by omega) (hn cur M2 S (a2.keep (keepC.scr b1)) (hM1.scr b1))
theorem L_normalize (hC : clsW B G ax cur R M S) (hB : B < 1000000) (hM : mdlW G ax cur R M) (hb : (0 : Int) ≤ w (v5 + 1) ∧ w (v5 + 1) < ln) (hn : lxt (B + 1) G ax R ln scr v5 P) : Ok (F_L_law_J1555 ln scr v5 M S) P := by
  unfold F_L_law_J1555
  simp only [zchk_pos hb]
  generalize scr (w (v5 + 1)) = t
  refine blkN (B1 := B + 1) (mean := mnMv cur (nfc G cur : Int) t (fun i v k => v = 0 ∧ (wl_ (nfs G cur))[i]? = some k)) (mnMv.fnl (fun i v k v2 k2 ⟨a0, a1⟩ ⟨b0, b1⟩ => by rw [a1] at b1; cases b1; exact ⟨by omega, rfl⟩)) hC hM ?_ (fun M1 hst hM1 => (FX11_normalize (t := t) hst).mono (fun r ⟨a1, a2⟩ => ?_)) hn
  · unfold F_L_normalize
    refine wrapN (V := fun r k => (¬ (0 ≤ t ∧ t < (nfc G cur : Int)) ∧ r = .inl 2 ∧ k = cur) ∨ (∃ i : Nat, t = i ∧ t < (nfc G cur : Int) ∧ r = .inr () ∧ (wl_ (nfs G cur))[i]? = some k)) ?_ (fun e k M S q => ?_) (fun k q => ?_)
    · unfold F_X10_normalize
      refine Ok.b1 (CX_find hC hB) (fun M1 ⟨a1, a2, a3⟩ => ?_)
      rw [a3.2]
      refine CX_i a1 a2 (fun q => Or.inl ⟨q, rfl, rfl⟩) (fun q => ?_)
      obtain ⟨i, hi⟩ : ∃ i : Nat, t = i := ⟨t.toNat, by omega⟩
      subst hi
      have h512 := nfc_512 hC.2.1.1 hC.2.1.2.2
      have hil : i < (wl_ (nfs G cur)).length := by rw [wl_nfc]; omega
      have hg := List.getElem?_eq_getElem hil
      generalize (wl_ (nfs G cur))[i] = y at hg
      have hy := (wl_idx hg).2.1
      unfold F_X5_form
      rw [xat a1.1 26 512 rfl (by omega) (by omega), a3.1 i y hg]
      simp only [zb1_some]
      obtain ⟨c1, c2⟩ := cls_cur a1 hy
      exact Ok.lett (Ok.ret ⟨y, c1, a2.trans c2, Or.inr ⟨i, rfl, q.2, rfl, hg⟩⟩)
    · rcases q with ⟨q1, q2, q3⟩ | ⟨i, _, _, q2, _⟩
      · cases q2; exact ⟨1, rfl, Or.inl ⟨q1, rfl, q3⟩⟩
      · cases q2
    · rcases q with ⟨q1, q2, q3⟩ | ⟨i, q1, q2, q3, q4⟩
      · cases q2
      · exact Or.inr ⟨i, q1, q2, rfl, rfl, q4⟩
  · by_cases q : 0 ≤ t ∧ t < (nfc G cur : Int)
    · obtain ⟨b1, y, b2, b3, b4⟩ := a2 t.toNat (by omega) (by omega)
      exact ⟨y, hM1.cur ⟨b3, b4⟩, keepC.mcur ⟨b3, b4⟩, Or.inr ⟨t.toNat, by omega, q.2, b1, rfl, b2⟩⟩
    · obtain ⟨b1, b2⟩ := a1 q
      exact ⟨cur, hM1.scr b2, keepC.scr b2, Or.inl ⟨q, b1, rfl⟩⟩
def mnTk (G : zGr) (ax : List Int) (cur t c v k : Int) : Prop := (¬ fewA G ax ∧ c = 1 ∧ k = cur) ∨ (fewA G ax ∧ ¬ (0 ≤ t ∧ t < ((wl_ (lcA G ax)).length : Int)) ∧ c = 2 ∧ k = cur) ∨ (fewA G ax ∧ (0 ≤ t ∧ t < ((wl_ (lcA G ax)).length : Int)) ∧ c = 0 ∧ v = 0 ∧ (wl_ (lcA G ax))[t.toNat]? = some k)
theorem mnTk.fnl {t : Int} : fnl (mnTk G ax cur t) := by
  rintro c v k c2 v2 k2 a b
  rcases a with ⟨a1, a2, a3⟩ | ⟨a1, a2, a3, a4⟩ | ⟨a1, a2, a3, a4, a5⟩
  · rcases b with ⟨b1, b2, b3⟩ | ⟨b1, b2, b3, b4⟩ | ⟨b1, b2, b3, b4, b5⟩
    · exact ⟨by omega, fun q => by omega, by omega⟩
    · exact absurd b1 a1
    · exact absurd b1 a1
  · rcases b with ⟨b1, b2, b3⟩ | ⟨b1, b2, b3, b4⟩ | ⟨b1, b2, b3, b4, b5⟩
    · exact absurd a1 b1
    · exact ⟨by omega, fun q => by omega, by omega⟩
    · exact absurd b2 a2
  · rcases b with ⟨b1, b2, b3⟩ | ⟨b1, b2, b3, b4⟩ | ⟨b1, b2, b3, b4, b5⟩
    · exact absurd a1 b1
    · exact absurd a2 b2
    · rw [a5] at b5; cases b5
      exact ⟨by omega, fun _ => by omega, rfl⟩
theorem L_takeWord (hC : clsW B G ax cur R M S) (hM : mdlW G ax cur R M) (hb : (0 : Int) ≤ w (v5 + 1) ∧ w (v5 + 1) < ln) (hn : lxt B G ax R ln scr v5 P) : Ok (F_L_law_J1049 ln scr v5 M S) P := by
  unfold F_L_law_J1049
  simp only [zchk_pos hb]
  generalize scr (w (v5 + 1)) = t
  refine blkN (mnTk.fnl (G := G) (ax := ax) (cur := cur) (t := t)) hC hM ?_ (fun M1 hst hM1 => (FX11_takeWord (i := t) hst).mono (fun r ⟨a1, a2, a3⟩ => ?_)) hn
  · unfold F_L_takeWord
    refine wrapN (V := fun r k => (¬ fewA G ax ∧ r = .inl 3 ∧ k = cur) ∨ (fewA G ax ∧ ¬ (0 ≤ t ∧ t < ((wl_ (lcA G ax)).length : Int)) ∧ r = .inl 2 ∧ k = cur) ∨ (fewA G ax ∧ (0 ≤ t ∧ t < ((wl_ (lcA G ax)).length : Int)) ∧ r = .inr () ∧ (wl_ (lcA G ax))[t.toNat]? = some k)) ?_ (fun e k M S q => ?_) (fun k q => ?_)
    · unfold F_X10_takeWord
      refine CX_q hC (fun f => Or.inl ⟨f, rfl, rfl⟩) (fun M1 b1 b2 b3 b4 b5 => ?_)
      rw [b3.1.1]
      refine CX_i b2 b5 (fun q => Or.inr (Or.inl ⟨b1, q, rfl, rfl⟩)) (fun q => ?_)
      obtain ⟨i, hi⟩ : ∃ i : Nat, t = i := ⟨t.toNat, by omega⟩
      subst hi
      have hil : i < (wl_ (lcA G ax)).length := by omega
      have hg := List.getElem?_eq_getElem hil
      generalize (wl_ (lcA G ax))[i] = y at hg
      have hy := (wl_idx hg).2.1
      rw [FX3_wordAt b2.1 b3.1 hg]
      simp only [zb1_some]
      obtain ⟨c1, c2⟩ := cls_cur b2 hy
      exact Ok.lett (Ok.ret ⟨y, c1, b5.trans c2, Or.inr (Or.inr ⟨b1, q, rfl, by rw [Int.toNat_natCast]; exact hg⟩)⟩)
    · rcases q with ⟨q1, q2, q3⟩ | ⟨q1, q2, q3, q4⟩ | ⟨_, _, q3, _⟩
      · cases q2; exact ⟨1, rfl, Or.inl ⟨q1, rfl, q3⟩⟩
      · cases q3; exact ⟨2, rfl, Or.inr (Or.inl ⟨q1, q2, rfl, q4⟩)⟩
      · cases q3
    · rcases q with ⟨q1, q2, q3⟩ | ⟨q1, q2, q3, q4⟩ | ⟨q1, q2, q3, q4⟩
      · cases q2
      · cases q3
      · exact Or.inr (Or.inr ⟨q1, q2, rfl, rfl, q4⟩)
  · by_cases f : fewA G ax
    · by_cases q : 0 ≤ t ∧ t < ((wl_ (lcA G ax)).length : Int)
      · obtain ⟨M2, y, b1, b2, b3, rfl⟩ := a3 f q
        exact ⟨y, hM1.cur (mcur.of b1), keepC.mcur (mcur.of b1), Or.inr (Or.inr ⟨f, q, by rw [zs_off _ _ (Or.inr (by decide))]; exact b2, rfl, b3⟩)⟩
      · obtain ⟨b1, b2⟩ := a2 f q
        exact ⟨cur, hM1.scr b1, keepC.scr b1, Or.inr (Or.inl ⟨f, q, b2, rfl⟩)⟩
    · obtain ⟨b1, b2⟩ := a1 f
      exact ⟨cur, hM1.scr b1, keepC.scr b1, Or.inl ⟨f, b2, rfl⟩⟩
end
