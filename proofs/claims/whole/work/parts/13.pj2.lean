/-! PURE 79: the law answers 1 -/
def Gz : zGr := (6, 1, [])
def Rz : zRst := (none, [], -1, fun _ => (-1, 0, fun _ => 0))
theorem sE_r7 : ∀ i : Nat, i < 5 → sE.2.2 7 (i : Int) = 0 := by decide +kernel
theorem sE_r10 : ∀ i : Nat, i < 5 → sE.2.2 10 (i : Int) = 0 := by decide +kernel
theorem Gz_ok : grok Gz := ⟨by decide, by decide, by decide, fun c hc => by simp [Gz] at hc⟩
theorem nil_at {α : Type} {i : Nat} {v : α} {P : Prop} (h : ([] : List α)[i]? = some v) : P := by simp at h
theorem MMa_z (b : Nat) (h : b ≠ 1 ∧ b ≠ 5 ∧ b ≠ 8 ∧ b ≠ 25 ∧ b ≠ 42 ∧ b ≠ 44 ∧ b ≠ 46 ∧ b ≠ 48 ∧ b ≠ 67) : MMa b = fun _ => 0 := by
  obtain ⟨h1, h2, h3, h4, h5, h6, h7, h8, h9⟩ := h
  unfold MMa MCa
  rw [zs_ne _ _ _ h9, zs_ne _ _ _ h9, zs_ne _ _ _ h9, zs_ne _ _ _ h8, zs_ne _ _ _ h8, zs_ne _ _ _ h8, zs_ne _ _ _ h1, zs_ne _ _ _ h1, zs_ne _ _ _ h7, zs_ne _ _ _ h6, zs_ne _ _ _ h5, zs_ne _ _ _ h4, zs_ne _ _ _ h4, zs_ne _ _ _ h3, zs_ne _ _ _ h3, zs_ne _ _ _ h2, zs_ne _ _ _ h2]
  rfl
theorem slC_z : sltC (fun _ => (-1, 0, fun _ => 0)) MMa := fun i hi => by
  have e1 : MMa (42 + 2 * i) 1 = -1 ∧ MMa (42 + 2 * i) 2 = 0 := by
    obtain e | e | e : i = 0 ∨ i = 1 ∨ i = 2 := by omega
    · rw [e]; decide +kernel
    · rw [e]; decide +kernel
    · rw [e]; decide +kernel
  refine ⟨e1.1, e1.2, fun j _ _ => ?_, Or.inl rfl, Int.le_refl 0, by show (0 : Int) ≤ 20; decide⟩
  rw [MMa_z (43 + 2 * i) (by omega)]
theorem slM_z : sltM (fun _ => (-1, 0, fun _ => 0)) MMa := fun i hi => by
  have e1 : MMa 67 (i : Int) = -1 := by
    obtain e | e | e : i = 0 ∨ i = 1 ∨ i = 2 := by omega
    · rw [e]; decide +kernel
    · rw [e]; decide +kernel
    · rw [e]; decide +kernel
  refine ⟨e1, ?_, fun j _ _ => ?_⟩
  · rw [MMa_z 68 (by omega)]
  · rw [MMa_z 69 (by omega)]
theorem cls_z : clsW 0 Gz [] 0 Rz MMa sE := by
  refine ⟨sE_fx, ⟨Gz_ok, ⟨by decide, fun a ha => by simp at ha⟩, wd_z⟩, ⟨by decide +kernel, by decide +kernel, by decide +kernel, fun j L R pr q => nil_at q⟩, ⟨fun i hi => Or.inl (sE_r7 i hi), fun i hi => Or.inl (sE_r10 i hi)⟩, ⟨by decide +kernel, fun i a q => nil_at q⟩, by decide +kernel, ⟨⟨⟨[], by decide +kernel, by decide, fun i a q => nil_at q, List.Pairwise.nil, fun y hy => by simp at hy, fun y _ => ?_⟩, by decide +kernel⟩, fun q => absurd q (by decide +kernel)⟩, ⟨⟨by decide +kernel, by decide +kernel⟩, fun y _ => ?_, Or.inl (by decide +kernel), Or.inl (by decide +kernel)⟩, Or.inl ⟨by decide +kernel, rfl⟩, ⟨by decide +kernel, by decide, fun i a q => nil_at q, fun c q => by simp [Rz] at q⟩, by decide +kernel, slC_z⟩
  · rw [MMa_z 13 (by omega)]
    exact ⟨fun q => absurd rfl q, fun q => by simp at q⟩
  · rw [MMa_z 27 (by omega)]
    show (0 : Int) ≤ MMa 25 4
    decide +kernel
theorem mdl_z : mdlW Gz [] 0 Rz MMa := ⟨⟨by decide +kernel, by decide +kernel, by decide +kernel, fun j L R pr q => nil_at q⟩, ⟨by decide +kernel, fun i a q => nil_at q⟩, by decide +kernel, Or.inl ⟨by decide +kernel, rfl⟩, ⟨by decide +kernel, fun i a q => nil_at q⟩, by decide +kernel, slM_z⟩
/-- on every script of at most 2048 numbers the law answers 1 -/
theorem law_one {lnS : Int} (scr : Int → Int) (h0 : 0 ≤ lnS) (h1 : lnS ≤ 2048) : ∃ M1 S1, F_L_law lnS scr Mz Sz = some (1, M1, S1) := by
  have h : Ok (F_L_law lnS scr Mz Sz) (fun r => r.1 = 1) := by
    unfold F_L_law
    refine Ok.chk rfl (Ok.lett ?_)
    have eA : F_X10_init 1 Mz (zn Sz (7, 12)) = some (MCa, sA) := oA_eq
    rw [eA]
    simp only [zb2_some]
    have eB : F_X11_init 48 MCa (zn sA (8, 44)) = some (MMa, sB) := oB_eq
    refine Ok.chk (by rw [sA_n]) (Ok.lett ?_)
    rw [eB]
    simp only [zb2_some]
    refine Ok.chk (by rw [sB_n]) (Ok.lett (Ok.chk (by show sB.1 + 1 + 1 = 77; rw [sB_n]) (Ok.lett (Ok.chkP sE_fx ?_))))
    exact (law_all h0 h1 cls_z mdl_z).mono (fun r q => q.1)
  obtain ⟨⟨r, M1, S1⟩, a1, a2⟩ := h
  dsimp only at a2
  exact ⟨M1, S1, by rw [a1, a2]⟩
