/-! PURE 76: define: a new context, the class -/
/-- cells have been added, and references at one place of array 7 -/
theorem ctxok.grow {M M1 : zM} {S S1 : zS} {q : Nat} {L R : Int} {pr : List Int} (h : ctxok M S q L R pr) (hq : q + 4 ≤ S.1) (hk : ∀ a, a ≤ S.1 → S1.2.1 a = S.2.1 a) (hr : ∀ (a : Nat) (k : Int), 89 < a → a ≤ S.1 → S1.2.2 a k = S.2.2 a k) (hM : ∀ b, 89 < b → b ≤ S.1 → M1 b = M b) : ctxok M1 S1 q L R pr := by
  obtain ⟨⟨h1, h2, h3, h4, h5, h6, h7, h8, h9, h10, h11, h12⟩, ⟨a1, a2, a3⟩, r1, r2, r3, r4, r5⟩ := h
  have ek : ∀ a, a ≤ S.1 → zkd S1 a = zkd S a ∧ zlen S1 a = zlen S a := fun a ha => by unfold zkd zlen; rw [hk a ha]; exact ⟨rfl, rfl⟩
  have er : ∀ (a : Nat) (k : Int), 89 < a → a ≤ S.1 → zrf S1 a k = zrf S a k := fun a k h1 h2 => hr a k h1 h2
  refine ⟨⟨h1, ?_, ?_, ?_, ?_, ?_, ?_, ?_, ?_, ?_, ?_, ?_⟩, ⟨?_, ?_, ?_⟩, r1, ?_, r3, r4, ?_⟩
  · rw [(ek q (by omega)).1]; exact h2
  · rw [(ek (q + 1) (by omega)).1]; exact h3
  · rw [(ek (q + 2) (by omega)).1]; exact h4
  · rw [(ek (q + 3) (by omega)).1]; exact h5
  · rw [(ek (q + 4) (by omega)).1]; exact h6
  · rw [(ek (q + 3) (by omega)).2]; exact h7
  · rw [(ek (q + 4) (by omega)).2]; exact h8
  · rw [er q 4 h1 (by omega)]; exact h9
  · rw [er (q + 1) 0 (by omega) (by omega)]; exact h10
  · rw [er (q + 1) 1 (by omega) (by omega)]; exact h11
  · rw [er (q + 1) 2 (by omega) (by omega)]; exact h12
  · rw [(ek (q + 2) (by omega)).1]; exact a1
  · rw [(ek (q + 2) (by omega)).2]; exact a2
  · rw [hM (q + 2) (by omega) (by omega)]; exact a3
  · rw [hM q h1 (by omega)]; exact r2
  · unfold cac at *
    rw [hM (q + 3) (by omega) (by omega), hM (q + 4) (by omega) (by omega)]
    exact r5
theorem zkd_zn {S : zS} {kd : Nat × Nat} {a : Nat} : zkd (zn S kd) a = if a = S.1 + 1 then kd.1 else zkd S a := by
  unfold zkd
  show (up S.2.1 (S.1 + 1) kd a).1 = _
  by_cases e : a = S.1 + 1
  · rw [if_pos e, e, up_eq]
  · rw [if_neg e, up_ne _ _ e]
theorem zkd_zq {S : zS} {b : Nat} {k : Int} {v a : Nat} : zkd (zq S b k v) a = zkd S a := rfl
/-- what the class's new context leaves: p its first cell -/
def nCtx (M M1 : zM) (S S1 : zS) (L R : Int) (n : Nat) (len : Nat) : Prop :=
  S1.1 = S.1 + 5 ∧ (∀ a, a ≤ S.1 → S1.2.1 a = S.2.1 a) ∧ (∀ (a : Nat) (k : Int), a ≤ S.1 → (a ≠ 7 ∨ k ≠ (n : Int)) → S1.2.2 a k = S.2.2 a k) ∧ S1.2.2 7 (n : Int) = S.1 + 1 ∧ ctxS S1 (S.1 + 1) ∧ (zkd S1 (S.1 + 1 + 2) = 20 ∧ zlen S1 (S.1 + 1 + 2) = (len : Int)) ∧ (∀ b, b ≤ S.1 → b ≠ 5 → M1 b = M b) ∧ (∀ k : Int, k ≠ 3 → M1 5 k = M 5 k) ∧ M1 5 3 = (n : Int) + 1 ∧ (M1 (S.1 + 1) 0 = L ∧ M1 (S.1 + 1) 1 = ln L ∧ M1 (S.1 + 1) 2 = R ∧ M1 (S.1 + 1) 3 = ln R) ∧ (∀ i : Int, 0 ≤ i → i < (len : Int) → M1 (S.1 + 1 + 2) i = M 4 i) ∧ M1 (S.1 + 1 + 3) = (fun _ => 0) ∧ M1 (S.1 + 1 + 4) = fun _ => 0
theorem CD_new {M : zM} {S : zS} {L R : Int} {n len : Nat} (hF : zFx S) (h53 : M 5 3 = (n : Int)) (hn : n < 5) (h22 : M 2 2 = (len : Int)) (hl : len < 60) (h6 : M 2 6 = L) (h7 : M 2 7 = R) (hL : 1 ≤ L ∧ L < 40) (hR : 0 ≤ R ∧ R < 40) {P : ((Nat ⊕ Int) × zM × zS) → Prop} (hP : ∀ M1 S1, nCtx M M1 S S1 L R n len → Ok (zb1 (F_X10_grammarChanged M1) fun M27 => some ((Sum.inr (w ((M27 5 3) - 1)) : Nat ⊕ Int), M27, S1)) P) : Ok (F_X10_defineContext M S) P := by
  have h77 := hF.1
  unfold F_X10_defineContext
  refine Ok.pos (by omega) (Ok.lett (Ok.lett (Ok.lett (Ok.lett ?_))))
  have ez1 : (zn S (0, 5)).1 = S.1 + 1 := rfl
  have ez2 : (zn (zn S (0, 5)) (5, 3)).1 = S.1 + 2 := rfl
  rw [ez1]
  have k4 : zkd (zn (zn S (0, 5)) (5, 3)) 4 = 20 := by
    rw [zkd_zn, if_neg (by rw [ez1]; omega), zkd_zn, if_neg (by omega)]
    exact zFx_kd hF 4 rfl
  have l4 : zlen (zn (zn S (0, 5)) (5, 3)) 4 = 60 := by
    have h1 : (zn (zn S (0, 5)) (5, 3)).2.1 4 = S.2.1 4 := by
      show up (up S.2.1 (S.1 + 1) (0, 5)) (S.1 + 1 + 1) (5, 3) 4 = _
      rw [up_ne _ _ (by omega), up_ne _ _ (by omega)]
    unfold zlen
    rw [h1]
    exact zFx_ln hF 4 rfl
  have hsel : F_X1_selectorProgram M (zn (zn S (0, 5)) (5, 3)) = some (S.1 + 3, zcpy M 4 0 (S.1 + 3) 0 (len : Int), zn (zn (zn S (0, 5)) (5, 3)) (20, len)) := by
    unfold F_X1_selectorProgram F_X1_selectorProgram_J19 F_J7_copyOf_59c91
    have e4 : zkd (zn (zn (zn S (0, 5)) (5, 3)) (20, len)) 4 = 20 := by rw [zkd_zn, if_neg (by rw [ez2]; omega)]; exact k4
    have e5 : zkd (zn (zn (zn S (0, 5)) (5, 3)) (20, len)) (S.1 + 3) = 20 := by rw [zkd_zn, if_pos (by rw [ez2])]
    have e6 : zlen (zn (zn (zn S (0, 5)) (5, 3)) (20, len)) 4 = 60 := by
      have h1 : (zn (zn (zn S (0, 5)) (5, 3)) (20, len)).2.1 4 = (zn (zn S (0, 5)) (5, 3)).2.1 4 := up_ne _ _ (by rw [ez2]; omega)
      unfold zlen at l4 ⊢
      rw [h1]
      exact l4
    have e7 : zlen (zn (zn (zn S (0, 5)) (5, 3)) (20, len)) (S.1 + 3) = (len : Int) := by
      have h1 : (zn (zn (zn S (0, 5)) (5, 3)) (20, len)).2.1 (S.1 + 3) = (20, len) := up_eq _ _ _
      unfold zlen
      rw [h1]
    have emin : zmin 60 (len : Int) = (len : Int) := by unfold zmin; rw [if_pos (by omega)]
    rw [h22, if_neg (by omega), zchk_pos k4, l4, if_neg (by omega), zchk_pos ⟨by omega, by omega⟩]
    simp only [zlet_eq]
    rw [ez2, Int.toNat_natCast]
    show zb3 (zchk (zkd (zn (zn (zn S (0, 5)) (5, 3)) (20, len)) 4 = 20) (zchk (zkd (zn (zn (zn S (0, 5)) (5, 3)) (20, len)) 4 = 20) (zchk (zkd (zn (zn (zn S (0, 5)) (5, 3)) (20, len)) (S.1 + 3) = 20) (zchk _ _)))) _ = _
    rw [zchk_pos e4, zchk_pos e4, zchk_pos e5, e6, e7, emin, zchk_pos (by omega), zb3_some]
  rw [hsel]
  simp only [zb3_some]
  refine Ok.lett ?_
  have ez3 : (zn (zn (zn S (0, 5)) (5, 3)) (20, len)).1 = S.1 + 3 := rfl
  rw [ez3]
  obtain ⟨S3, hS3⟩ : ∃ S3, S3 = zn (zn (zn S (0, 5)) (5, 3)) (20, len) := ⟨_, rfl⟩
  rw [← hS3] at ez3 ⊢
  have s3k : ∀ a, zkd S3 a = if a = S.1 + 3 then 20 else if a = S.1 + 2 then 5 else if a = S.1 + 1 then 0 else zkd S a := fun a => by
    rw [hS3, zkd_zn, ez2, zkd_zn, ez1, zkd_zn]
  have s3o : ∀ a, a ≤ S.1 → S3.2.1 a = S.2.1 a := fun a ha => by
    rw [hS3]
    show up (up (up S.2.1 (S.1 + 1) (0, 5)) (S.1 + 1 + 1) (5, 3)) (S.1 + 1 + 1 + 1) (20, len) a = _
    rw [up_ne _ _ (by omega), up_ne _ _ (by omega), up_ne _ _ (by omega)]
  have s3p : S3.2.1 (S.1 + 3) = (20, len) := by rw [hS3]; exact up_eq _ _ _
  have s3r : S3.2.2 = S.2.2 := by rw [hS3]; rfl
  clear hS3
  -- the selector
  have hini : F_X7_init (S.1 + 1 + 1) (S.1 + 3) S3 = some (zq (zq (zn (zq (zn S3 (21, 462)) (S.1 + 2) 1 (S.1 + 4)) (21, 462)) (S.1 + 2) 2 (S.1 + 5)) (S.1 + 2) 0 (S.1 + 3)) := by
    unfold F_X7_init
    rw [zchk_pos (by omega)]
    simp only [zlet_eq]
    have f1 : zkd (zn S3 (21, 462)) (S.1 + 1 + 1) = 5 := by rw [zkd_zn, if_neg (by omega), s3k, if_neg (by omega), if_pos (by omega)]
    have f2 : zkd (zn (zq (zn S3 (21, 462)) (S.1 + 1 + 1) 1 (S3.1 + 1)) (21, 462)) (S.1 + 1 + 1) = 5 := by
      rw [zkd_zn, if_neg (by show ¬ (S.1 + 1 + 1 = S3.1 + 1 + 1); omega), zkd_zq]
      exact f1
    rw [zchk_pos (show 89 ≤ S3.1 by omega), zchk_pos f1, zchk_pos (show 89 ≤ (zq (zn S3 (21, 462)) (S.1 + 1 + 1) 1 (S3.1 + 1)).1 from (by show 89 ≤ S3.1 + 1; omega)), zchk_pos f2, zchk_pos (by rw [zkd_zq]; exact f2)]
    have g1 : (zq (zn S3 (21, 462)) (S.1 + 1 + 1) 1 (S3.1 + 1)).1 = S3.1 + 1 := rfl
    rw [g1, ez3]
  rw [hini]
  simp only [zb1_some]
  obtain ⟨S5, hS5⟩ : ∃ S5, S5 = zq (zq (zn (zq (zn S3 (21, 462)) (S.1 + 2) 1 (S.1 + 4)) (21, 462)) (S.1 + 2) 2 (S.1 + 5)) (S.1 + 2) 0 (S.1 + 3) := ⟨_, rfl⟩
  rw [← hS5]
  have s5n : S5.1 = S.1 + 5 := by rw [hS5]; show S3.1 + 1 + 1 = _; omega
  have s5o : ∀ a, a ≤ S.1 + 3 → S5.2.1 a = S3.2.1 a := fun a ha => by
    rw [hS5]
    show up (up S3.2.1 (S3.1 + 1) (21, 462)) (S3.1 + 1 + 1) (21, 462) a = _
    rw [up_ne _ _ (by omega), up_ne _ _ (by omega)]
  have s54 : S5.2.1 (S.1 + 4) = (21, 462) := by
    rw [hS5]
    show up (up S3.2.1 (S3.1 + 1) (21, 462)) (S3.1 + 1 + 1) (21, 462) (S.1 + 4) = _
    rw [up_ne _ _ (by omega), show S.1 + 4 = S3.1 + 1 by omega, up_eq]
  have s55 : S5.2.1 (S.1 + 5) = (21, 462) := by
    rw [hS5]
    show up (up S3.2.1 (S3.1 + 1) (21, 462)) (S3.1 + 1 + 1) (21, 462) (S.1 + 5) = _
    rw [show S.1 + 5 = S3.1 + 1 + 1 by omega, up_eq]
  have s5r : ∀ (a : Nat) (k : Int), a ≠ S.1 + 2 → S5.2.2 a k = S.2.2 a k := fun a k ha => by
    rw [hS5]
    show up (up (up S3.2.2 (S.1 + 2) _) (S.1 + 2) _) (S.1 + 2) _ a k = _
    rw [up_ne _ _ ha, up_ne _ _ ha, up_ne _ _ ha, s3r]
  have s5r0 : S5.2.2 (S.1 + 2) 0 = S.1 + 3 := by
    rw [hS5]
    show up _ (S.1 + 2) (up _ 0 (S.1 + 3)) (S.1 + 2) 0 = _
    rw [up_eq, up_eq]
  have s5r2 : S5.2.2 (S.1 + 2) 2 = S.1 + 5 := by
    rw [hS5]
    show up (up _ (S.1 + 2) (up _ 2 (S.1 + 5))) (S.1 + 2) (up (up _ (S.1 + 2) (up _ 2 (S.1 + 5)) (S.1 + 2)) 0 (S.1 + 3)) (S.1 + 2) 2 = _
    rw [up_eq, up_ne _ _ (by decide), up_eq, up_eq]
  have s5r1 : S5.2.2 (S.1 + 2) 1 = S.1 + 4 := by
    rw [hS5]
    show up (up (up S3.2.2 (S.1 + 2) (up (S3.2.2 (S.1 + 2)) 1 (S.1 + 4))) (S.1 + 2) (up (up S3.2.2 (S.1 + 2) (up (S3.2.2 (S.1 + 2)) 1 (S.1 + 4)) (S.1 + 2)) 2 (S.1 + 5))) (S.1 + 2) (up (up (up S3.2.2 (S.1 + 2) (up (S3.2.2 (S.1 + 2)) 1 (S.1 + 4))) (S.1 + 2) (up (up S3.2.2 (S.1 + 2) (up (S3.2.2 (S.1 + 2)) 1 (S.1 + 4)) (S.1 + 2)) 2 (S.1 + 5)) (S.1 + 2)) 0 (S.1 + 3)) (S.1 + 2) 1 = _
    rw [up_eq, up_ne _ _ (by decide), up_eq, up_ne _ _ (by decide), up_eq, up_eq]
  clear hS5
  -- the memory before
  obtain ⟨M4, hM4⟩ : ∃ M4, M4 = up (up (zcpy M 4 0 (S.1 + 3) 0 (len : Int)) (S.1 + 3 + 1) (fun _ => 0)) (S.1 + 3 + 2) (fun _ => 0) := ⟨_, rfl⟩
  rw [← hM4]
  have m4o : ∀ b, b ≤ S.1 + 2 → M4 b = M b := fun b hb => by
    rw [hM4, up_ne _ _ (by omega), up_ne _ _ (by omega)]
    unfold zcpy
    rw [up_ne _ _ (by omega)]
  have m4p : ∀ i : Int, 0 ≤ i → i < (len : Int) → M4 (S.1 + 3) i = M 4 i := fun i i0 i1 => by
    rw [hM4, up_ne _ _ (by omega), up_ne _ _ (by omega)]
    unfold zcpy
    rw [up_eq, if_pos ⟨i0, by omega⟩]
    congr 1
    omega
  have m43 : M4 (S.1 + 4) = fun _ => 0 := by rw [hM4, up_ne _ _ (by omega)]; exact up_eq _ _ _
  have m44 : M4 (S.1 + 5) = fun _ => 0 := by rw [hM4]; exact up_eq _ _ _
  clear hM4
  -- the context
  have wL : wd L := ⟨by omega, by omega⟩
  have wR : wd R := ⟨hR.1, by omega⟩
  rw [h6, h7]
  have hctx : F_X0_init (S.1 + 1) L R (S.1 + 1 + 1) M4 S5 = some (zs (zs (zs (zs M4 (S.1 + 1) 0 L) (S.1 + 1) 1 (ln L)) (S.1 + 1) 2 R) (S.1 + 1) 3 (ln R), zq S5 (S.1 + 1) 4 (S.1 + 2)) := by
    unfold F_X0_init
    have k0 : zkd S5 (S.1 + 1) = 0 := by
      unfold zkd
      rw [s5o _ (by omega)]
      have h := s3k (S.1 + 1)
      rw [if_neg (by omega), if_neg (by omega), if_pos rfl] at h
      exact h
    rw [zchk_pos (by omega), zchk_pos k0, FX9_length wL, FX9_length wR]
    simp only [zlet_eq, zb1_some]
    rw [zchk_pos k0, zchk_pos k0, zchk_pos k0, zchk_pos k0]
  rw [hctx]
  simp only [zb2_some]
  obtain ⟨M6, hM6⟩ : ∃ M6, M6 = zs (zs (zs (zs M4 (S.1 + 1) 0 L) (S.1 + 1) 1 (ln L)) (S.1 + 1) 2 R) (S.1 + 1) 3 (ln R) := ⟨_, rfl⟩
  rw [← hM6]
  have m6o : ∀ b, b ≠ S.1 + 1 → M6 b = M4 b := fun b hb => by rw [hM6, zs_ne _ _ _ hb, zs_ne _ _ _ hb, zs_ne _ _ _ hb, zs_ne _ _ _ hb]
  have m60 : M6 (S.1 + 1) 0 = L := by rw [hM6, zs_off _ _ (Or.inr (by decide)), zs_off _ _ (Or.inr (by decide)), zs_off _ _ (Or.inr (by decide)), zs_at]
  have m61 : M6 (S.1 + 1) 1 = ln L := by rw [hM6, zs_off _ _ (Or.inr (by decide)), zs_off _ _ (Or.inr (by decide)), zs_at]
  have m62 : M6 (S.1 + 1) 2 = R := by rw [hM6, zs_off _ _ (Or.inr (by decide)), zs_at]
  have m63 : M6 (S.1 + 1) 3 = ln R := by rw [hM6, zs_at]
  clear hM6
  have m53 : M6 5 3 = (n : Int) := by rw [m6o 5 (by omega), m4o 5 (by omega)]; exact h53
  have hput : F_X2_putContext (S.1 + 1) M6 (zq S5 (S.1 + 1) 4 (S.1 + 2)) = some (zs M6 5 3 ((n : Int) + 1), zq (zq S5 (S.1 + 1) 4 (S.1 + 2)) 7 (n : Int) (S.1 + 1)) := by
    unfold F_X2_putContext
    have k0 : zkd (zq S5 (S.1 + 1) 4 (S.1 + 2)) (S.1 + 1) = 0 := by
      rw [zkd_zq]
      unfold zkd
      rw [s5o _ (by omega)]
      have h := s3k (S.1 + 1)
      rw [if_neg (by omega), if_neg (by omega), if_pos rfl] at h
      exact h
    rw [m53, if_neg (by omega), if_pos (by omega), zchk_pos ⟨by omega, by omega⟩, zchk_pos (Or.inr k0)]
    simp only [zlet_eq]
    rw [w_id (by omega)]
  rw [hput]
  simp only [zb2_some]
  refine hP _ _ ⟨s5n, fun a ha => ?_, fun a k ha hk => ?_, ?_, ⟨by omega, ?_, ?_, ?_, ?_, ?_, ?_, ?_, ?_, ?_, ?_, ?_⟩, ⟨?_, ?_⟩, fun b hb h5 => ?_, fun k hk => ?_, zs_at M6 5 3 _, ⟨?_, ?_, ?_, ?_⟩, fun i i0 i1 => ?_, ?_, ?_⟩
  · show S5.2.1 a = _
    rw [s5o a (by omega), s3o a ha]
  · show up (up S5.2.2 (S.1 + 1) _) 7 (up (up S5.2.2 (S.1 + 1) _ 7) (n : Int) (S.1 + 1)) a k = _
    by_cases e : a = 7
    · rw [e, up_eq, up_ne _ _ (hk.resolve_left (fun q => q e)), up_ne _ _ (by omega)]
      exact s5r 7 k (by omega)
    · rw [up_ne _ _ e, up_ne _ _ (by omega)]
      exact s5r a k (by omega)
  · show up (zq S5 (S.1 + 1) 4 (S.1 + 2)).2.2 7 (up ((zq S5 (S.1 + 1) 4 (S.1 + 2)).2.2 7) (n : Int) (S.1 + 1)) 7 (n : Int) = _
    rw [up_eq, up_eq]
  · show (S5.2.1 (S.1 + 1)).1 = 0
    rw [s5o _ (by omega)]
    have h := s3k (S.1 + 1)
    rw [if_neg (by omega), if_neg (by omega), if_pos rfl] at h
    exact h
  · show (S5.2.1 (S.1 + 1 + 1)).1 = 5
    rw [s5o _ (by omega)]
    have h := s3k (S.1 + 2)
    rw [if_neg (by omega), if_pos rfl] at h
    exact h
  · show (S5.2.1 (S.1 + 1 + 2)).1 = 20
    rw [s5o _ (by omega)]
    show (S3.2.1 (S.1 + 3)).1 = 20
    rw [s3p]
  · show (S5.2.1 (S.1 + 4)).1 = 21
    rw [s54]
  · show (S5.2.1 (S.1 + 5)).1 = 21
    rw [s55]
  · show ((S5.2.1 (S.1 + 4)).2 : Int) = 462
    rw [s54]; rfl
  · show ((S5.2.1 (S.1 + 5)).2 : Int) = 462
    rw [s55]; rfl
  · show up (up S5.2.2 (S.1 + 1) (up (S5.2.2 (S.1 + 1)) 4 (S.1 + 2))) 7 _ (S.1 + 1) 4 = _
    rw [up_ne _ _ (by omega), up_eq, up_eq]
  · show up (up S5.2.2 (S.1 + 1) _) 7 _ (S.1 + 2) 0 = _
    rw [up_ne _ _ (by omega), up_ne _ _ (by omega)]
    exact s5r0
  · show up (up S5.2.2 (S.1 + 1) _) 7 _ (S.1 + 2) 1 = _
    rw [up_ne _ _ (by omega), up_ne _ _ (by omega)]
    exact s5r1
  · show up (up S5.2.2 (S.1 + 1) _) 7 _ (S.1 + 2) 2 = _
    rw [up_ne _ _ (by omega), up_ne _ _ (by omega)]
    exact s5r2
  · show (S5.2.1 (S.1 + 3)).1 = 20
    rw [s5o _ (by omega), s3p]
  · show ((S5.2.1 (S.1 + 3)).2 : Int) = _
    rw [s5o _ (by omega), s3p]
  · rw [zs_ne _ _ _ h5, m6o b (by omega), m4o b (by omega)]
  · rw [zs_off _ _ (Or.inr hk), m6o 5 (by omega), m4o 5 (by omega)]
  · rw [zs_ne _ _ _ (by omega)]; exact m60
  · rw [zs_ne _ _ _ (by omega)]; exact m61
  · rw [zs_ne _ _ _ (by omega)]; exact m62
  · rw [zs_ne _ _ _ (by omega)]; exact m63
  · rw [zs_ne _ _ _ (by omega), m6o _ (by omega)]; exact m4p i i0 i1
  · rw [zs_ne _ _ _ (by omega), m6o _ (by omega)]; exact m43
  · rw [zs_ne _ _ _ (by omega), m6o _ (by omega)]; exact m44
