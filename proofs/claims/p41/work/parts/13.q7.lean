/-! PURE 86: the law's own texts: picks, letters -/
theorem zushr_8 (x : Int) : 0 ≤ zushr x 8 ∧ zushr x 8 < 16777216 := by
  unfold zushr
  have e : ((zi 8).toUInt32 &&& Int32.toUInt32 31) = 8 := by decide +kernel
  rw [e]
  generalize (zi x).toUInt32 = u
  have h : (u >>> 8).toNat = u.toNat / 256 := by
    rw [UInt32.toNat_shiftRight]
    show u.toNat >>> 8 = _
    rw [Nat.shiftRight_eq_div_pow]
  have hu := u.toNat_lt
  have h2 : (u >>> 8).toNat < 16777216 := by rw [h]; omega
  have h3 : (u >>> 8).toInt32.toInt = ((u >>> 8).toNat : Int) := by
    show (u >>> 8).toBitVec.toInt = _
    rw [BitVec.toInt_eq_toNat_of_lt]
    · rfl
    · show 2 * (u >>> 8).toNat < 2 ^ 32
      omega
  rw [h3]
  omega
section
variable {ln : Int} {scr : Int → Int}
theorem PK {i m : Int} {S : zS} (h0 : 0 ≤ i) (h1 : 0 < m) (h2 : m < 100) : Ok (F_L_pick ln scr i m S) (fun r => 0 ≤ r ∧ r < m) := by
  unfold F_L_pick
  have hc : ∃ x, F_L_cell ln scr i = some x := by
    unfold F_L_cell F_L_cell_J15
    by_cases q : i < ln
    · rw [if_pos q, zchk_pos ⟨h0, q⟩]; exact ⟨_, rfl⟩
    · rw [if_neg q]; exact ⟨_, rfl⟩
  obtain ⟨x, hx⟩ := hc
  rw [hx]
  simp only [zb1_some]
  have hu := zushr_8 x
  refine Ok.chk (by omega) (Ok.ret ?_)
  rw [zrem_e hu.1 (by omega) h1 (by omega)]
  exact ⟨Int.emod_nonneg _ (by omega), Int.emod_lt_of_pos _ h1⟩
end
/-- a text under way since a state -/
def SBx (S0 : zS) (M0 : zM) (q : Nat) (T : List Int) (M : zM) (S : zS) (d : Nat) : Prop := kp S0.1 S0 M0 S M ∧ sbO S0.1 q T M S ∧ S.1 ≤ S0.1 + d
theorem csT_ls : (csT 0).length = 6 ∧ (csT 1).length = 8 ∧ (csT 2).length = 5 ∧ (csT 3).length = 6 ∧ (csT 4).length = 8 ∧ (csT 5).length = 8 ∧ (csT 6).length = 7 ∧ (csT 7).length = 7 ∧ (csT 8).length = 4 ∧ (csT 9).length = 1 ∧ (csT 10).length = 2 ∧ (csT 11).length = 1 ∧ (csT 12).length = 2 ∧ (csT 13).length = 3 ∧ (csT 14).length = 3 ∧ (csT 15).length = 5 ∧ (csT 16).length = 5 ∧ (csT 17).length = 6 ∧ (csT 18).length = 1 ∧ (csT 19).length = 1 ∧ (csT 20).length = 0 := ⟨rfl, rfl, rfl, rfl, rfl, rfl, rfl, rfl, rfl, rfl, rfl, rfl, rfl, rfl, rfl, rfl, rfl, rfl, rfl, rfl, rfl⟩
theorem txC {M : zM} {S : zS} (i : Nat) (h : i < 21) : txO (48 + i) (csT i) M S := Or.inl ⟨i, h, rfl, rfl⟩
section
variable {β : Type} {P : β → Prop} {S S0 : zS} {M M0 : zM} {q d : Nat} {T : List Int}
theorem St_new {k : Nat → zM → zS → Option β} (hs : S.1 + 110 ≤ 6000) (h89 : 89 ≤ S.1) (hy : ∀ M1 S1, SBx S M (S.1 + 1) [] M1 S1 2 → Ok (k (S.1 + 1) M1 S1) P) : Ok (zlet (S.1 + 1) fun q => zchk (S.1 + 100 ≤ 6000) (zlet (up M q (fun _ => 0)) fun M' => zlet (zn S (8, 4)) fun S' => zchk (S'.1 + 100 ≤ 6000) (zb2 (F_J4_init_da8c8 q M' S') fun M2 S3 => k q M2 S3))) P := by
  have e1 : (zn S (8, 4)).1 = S.1 + 1 := rfl
  refine Ok.lett (Ok.chk (by omega) (Ok.lett (Ok.lett (Ok.chk (by omega) ?_))))
  exact Ok.b2 (SB_new (Nat.le_refl _) h89) (fun M1 S1 ⟨g1, g2, g3⟩ => hy M1 S1 ⟨g1, g2, by dsimp only at g3; omega⟩)
theorem St_app {k : Nat → zM → zS → Option β} {v : Nat} {U : List Int} (g : SBx S0 M0 q T M S d) (ht : txO v U M S) (hl : T.length + U.length ≤ 34) (hs : S0.1 + d + 100 ≤ 6000) (hy : ∀ M1 S1, SBx S0 M0 q (T ++ U) M1 S1 (d + 1) → Ok (k q M1 S1) P) : Ok (zchk (S.1 + 100 ≤ 6000) (zchk (zkd S q = 8) (zb3 (F_J4_append_15ec4 q v M S) k))) P := by
  obtain ⟨g1, g2, g3⟩ := g
  refine Ok.chk (by omega) (Ok.chk g2.2.1 (Ok.b3 (SB_app g2 ht hl) (fun a M1 S1 ⟨h1, h2, h3, h4⟩ => ?_)))
  dsimp only at h1 h2 h3 h4
  subst h1
  exact hy M1 S1 ⟨g1.trans h2, h3, by omega⟩
theorem St_int {k : Nat → zM → zS → Option β} {v : Int} (g : SBx S0 M0 q T M S d) (h0 : 0 ≤ v) (h1 : v ≤ 9) (hl : T.length + 1 ≤ 34) (hs : S0.1 + d + 100 ≤ 6000) (hy : ∀ M1 S1, SBx S0 M0 q (T ++ [48 + v]) M1 S1 (d + 1) → Ok (k q M1 S1) P) : Ok (zchk (S.1 + 100 ≤ 6000) (zchk (zkd S q = 8) (zb3 (F_J4_append_bf812 q v M S) k))) P := by
  obtain ⟨g1, g2, g3⟩ := g
  refine Ok.chk (by omega) (Ok.chk g2.2.1 (Ok.b3 (SB_int g2 h0 h1 hl) (fun a M1 S1 ⟨h1, h2, h3, h4⟩ => ?_)))
  dsimp only at h1 h2 h3 h4
  subst h1
  exact hy M1 S1 ⟨g1.trans h2, h3, by omega⟩
theorem St_str {k : Nat → zM → zS → Option β} (g : SBx S0 M0 q T M S d) (hs : S0.1 + d + 100 ≤ 6000) (hy : ∀ r M1 S1, kp S0.1 S0 M0 S1 M1 → stO r T M1 S1 → S1.1 ≤ S0.1 + d + 2 → Ok (k r M1 S1) P) : Ok (zchk (S.1 + 100 ≤ 6000) (zchk (zkd S q = 8) (zb3 (F_J4_toString_0e30d q M S) k))) P := by
  obtain ⟨g1, g2, g3⟩ := g
  refine Ok.chk (by omega) (Ok.chk g2.2.1 (Ok.b3 (SB_str g2) (fun a M1 S1 ⟨h1, h2, h3, h4, _⟩ => ?_)))
  dsimp only at h1 h2 h3 h4
  exact hy a M1 S1 (g1.trans (h3.down g1.1.1)) h2 (by omega)
theorem St_pick {ln : Int} {scr : Int → Int} {k : Int → Option β} {i m : Int} (hs : S.1 + 100 ≤ 6000) (h0 : 0 ≤ i) (h1 : 0 < m) (h2 : m < 100) (hy : ∀ r, 0 ≤ r → r < m → Ok (k r) P) : Ok (zchk (S.1 + 100 ≤ 6000) (zb1 (F_L_pick ln scr i m S) k)) P :=
  Ok.chk hs (Ok.b1 (PK h0 h1 h2) (fun r h => hy r h.1 h.2))
end
section
variable {ln : Int} {scr : Int → Int}
theorem LT {M : zM} {S : zS} {i many : Int} (hs : S.1 + 120 ≤ 6000) (h89 : 89 ≤ S.1) (h0 : 0 ≤ i ∧ i ≤ 1000) (hm : 0 ≤ many ∧ many ≤ 3) : Ok (F_L_letters ln scr i many 2 M S) (fun r => ∃ U : List Int, (U.length : Int) = many ∧ stO r.1 U r.2.1 r.2.2 ∧ kp S.1 S M r.2.2 r.2.1 ∧ r.2.2.1 ≤ S.1 + 7) := by
  unfold F_L_letters
  refine St_new (k := fun q M S => F_L_letters_L12 ln scr i many 2 q 0 M S) (by omega) h89 (fun M1 S1 g => ?_)
  unfold F_L_letters_L12
  refine Ok.loop (fun s : Int × zM × zS => ∃ T : List Int, s.1 = (T.length : Int) ∧ (T.length : Int) ≤ many ∧ SBx S M (S.1 + 1) T s.2.1 s.2.2 (2 + T.length)) (fun s => many.toNat - s.1.toNat) (fun e : zM × zS => ∃ T : List Int, (T.length : Int) = many ∧ SBx S M (S.1 + 1) T e.1 e.2 5) ⟨[], rfl, hm.1, g⟩ (by show many.toNat - 0 < 1000000; omega) (fun s ⟨T, h1, h2, h3⟩ => ?_) (fun e ⟨T, h1, h2⟩ => ?_)
  · obtain ⟨s1, M2, S2⟩ := s
    dsimp only at h1 h2 h3 ⊢
    subst h1
    obtain ⟨g1, g2, g3⟩ := id h3
    unfold F_L_letters_B12
    refine Ok.ite (fun c => ?_) (fun c => Ok.ret ⟨T, by omega, g1, g2, by dsimp only; omega⟩)
    rw [w_id (a := i + (T.length : Int)) ⟨by omega, by omega⟩]
    refine St_pick (by omega) (by omega) (by decide) (by decide) (fun r r0 r1 => ?_)
    have hz := zi2c_3 r.toNat (by omega)
    rw [show ((r.toNat : Nat) : Int) = r by omega] at hz
    rw [hz]
    refine Ok.chk (by omega) (Ok.chk g2.2.1 (Ok.b3 (SB_chr g2 (c := 97 + r) (by omega) (by omega) (by omega)) (fun a M3 S3 ⟨h1, h2, h3, h4, _⟩ => Ok.lett (Ok.ret ?_))))
    dsimp only at h1 h2 h3 h4
    rw [w_id (a := (T.length : Int) + 1) ⟨by omega, by omega⟩]
    have hl : (T ++ [97 + r]).length = T.length + 1 := by simp
    refine ⟨⟨T ++ [97 + r], by dsimp only; omega, by omega, g1.trans h2, h3, by dsimp only; omega⟩, by dsimp only; omega⟩
  · obtain ⟨M2, S2⟩ := e
    dsimp only at h1 h2 ⊢
    unfold F_L_letters_J43
    exact St_str h2 (by omega) (fun r M3 S3 k1 k2 k3 => Ok.chk (by omega) (Ok.ret ⟨T, h1, k2, k1, by dsimp only; omega⟩))
end
section
variable {β : Type} {P : β → Prop} {S S0 : zS} {M M0 : zM} {q d : Nat} {T : List Int} {ln : Int} {scr : Int → Int}
theorem SBx.on {S1 : zS} {M1 : zM} {e : Nat} (g : SBx S0 M0 q T M S d) (k : kp S.1 S M S1 M1) (h : S1.1 ≤ S.1 + e) : SBx S0 M0 q T M1 S1 (d + e) := ⟨g.1.trans (k.down g.1.1.1), g.2.1.kp k, by have := g.2.2; omega⟩
theorem St_let {k : Nat → zM → zS → Option β} {i many : Int} (g : SBx S0 M0 q T M S d) (hs : S0.1 + d + 120 ≤ 6000) (h0 : 0 ≤ i ∧ i ≤ 1000) (hm : 0 ≤ many ∧ many ≤ 3) (hy : ∀ r U M1 S1, ((U.length : Nat) : Int) = many → txO r U M1 S1 → SBx S0 M0 q T M1 S1 (d + 7) → Ok (k r M1 S1) P) : Ok (zchk (S.1 + 100 ≤ 6000) (zb3 (F_L_letters ln scr i many 2 M S) k)) P := by
  have g3 := g.2.2
  have g4 := g.2.1.1
  refine Ok.chk (by omega) (Ok.b3 (LT (by omega) (by omega) h0 hm) (fun r M1 S1 ⟨U, u1, u2, u3, u4⟩ => hy r U M1 S1 u1 (Or.inr u2) (g.on u3 u4)))
end
