/-! PURE 98: the start -/
def Mz : zM := fun _ _ => 0
def Sz : zS := (0, fun _ => (28, 0), fun _ _ => 0)
/-- the class's numbers behind its constructor -/
def MCa : zM := zs (zs (zs (zs (zs (zs (zs (zs (zs (zs (zs Mz 5 4 1) 5 5 6) 8 4 1) 8 5 6) 25 2 (-1)) 25 6 0) 42 1 (-1)) 44 1 (-1)) 46 1 (-1)) 1 7 (-1)) 1 11 1
def oA : Option (zM × zS) := F_X10_init 1 Mz (zn Sz (7, 12))
def sA : zS := match oA with | some r => r.2 | none => Sz
set_option maxRecDepth 100000 in
set_option maxHeartbeats 4000000 in
theorem oA_eq : oA = some (MCa, sA) := rfl
theorem sA_n : sA.1 = 47 := by decide +kernel
def sE : zS := (89, sA.2)
theorem sE_k : ∀ q : Nat, q < 90 → 0 < q → sE.2.1 q = zKL.getD q (0, 0) := by decide +kernel
theorem sE_r : ∀ a : Nat, a < 90 → ∀ k : Nat, k < 45 → (zRT.getD a []).getD k 0 ≠ 0 → sE.2.2 a (k : Int) = (zRT.getD a []).getD k 0 := by decide +kernel
theorem zRT_len : ∀ a : Nat, a < 90 → (zRT.getD a []).length ≤ 44 := by decide +kernel
theorem nm_out2 {l : List Nat} {k : Nat} (h : l.length ≤ k) : l.getD k 0 = 0 := by
  rw [List.getD_eq_getElem?_getD, List.getElem?_eq_none h]; rfl
theorem sE_fx : zFx sE := by
  refine ⟨by decide +kernel, fun q h0 h1 => sE_k q h1 h0, fun a k h => ?_⟩
  have ha : a < 90 := by
    rcases Nat.lt_or_ge a 90 with q | q
    · exact q
    · rw [zRT_big (by omega)] at h
      exact absurd rfl h
  have hk : k < 45 := by
    rcases Nat.lt_or_ge k 45 with q | q
    · exact q
    · have hl := zRT_len a ha
      rw [nm_out2 (by omega)] at h
      exact absurd rfl h
  exact sE_r a ha k hk h
def Gz : zGr := (6, 1, [])
def Rz : zRst := (none, [], -1, fun _ => (-1, 0, fun _ => 0))
theorem sE_r7 : ∀ i : Nat, i < 5 → sE.2.2 7 (i : Int) = 0 := by decide +kernel
theorem sE_r10 : ∀ i : Nat, i < 5 → sE.2.2 10 (i : Int) = 0 := by decide +kernel
theorem Gz_ok : grok Gz := ⟨by decide, by decide, by decide, fun c hc => by simp [Gz] at hc⟩
theorem nil_at {α : Type} {i : Nat} {v : α} {P : Prop} (h : ([] : List α)[i]? = some v) : P := by simp at h
theorem MCa_z (b : Nat) (h : b ≠ 1 ∧ b ≠ 5 ∧ b ≠ 8 ∧ b ≠ 25 ∧ b ≠ 42 ∧ b ≠ 44 ∧ b ≠ 46) : MCa b = fun _ => 0 := by
  obtain ⟨h1, h2, h3, h4, h5, h6, h7⟩ := h
  unfold MCa
  rw [zs_ne _ _ _ h1, zs_ne _ _ _ h1, zs_ne _ _ _ h7, zs_ne _ _ _ h6, zs_ne _ _ _ h5, zs_ne _ _ _ h4, zs_ne _ _ _ h4, zs_ne _ _ _ h3, zs_ne _ _ _ h3, zs_ne _ _ _ h2, zs_ne _ _ _ h2]
  rfl
theorem slC_z : sltC (fun _ => (-1, 0, fun _ => 0)) MCa := fun i hi => by
  have e1 : MCa (42 + 2 * i) 1 = -1 ∧ MCa (42 + 2 * i) 2 = 0 := by
    obtain e | e | e : i = 0 ∨ i = 1 ∨ i = 2 := by omega
    · rw [e]; decide +kernel
    · rw [e]; decide +kernel
    · rw [e]; decide +kernel
  refine ⟨e1.1, e1.2, fun j _ _ => ?_, Or.inl rfl, Int.le_refl 0, by show (0 : Int) ≤ 20; decide⟩
  rw [MCa_z (43 + 2 * i) (by omega)]
theorem cls_z : clsW 0 Gz [] 0 Rz MCa sE := by
  refine ⟨sE_fx, ⟨Gz_ok, ⟨by decide, fun a ha => by simp at ha⟩, ⟨by decide, by decide⟩⟩, ⟨by decide +kernel, by decide +kernel, by decide +kernel, fun j L R pr q => nil_at q⟩, ⟨fun i hi => Or.inl (sE_r7 i hi), fun i hi => Or.inl (sE_r10 i hi)⟩, ⟨by decide +kernel, fun i a q => nil_at q⟩, by decide +kernel, ⟨⟨⟨[], by decide +kernel, by decide, fun i a q => nil_at q, List.Pairwise.nil, fun y hy => by simp at hy, fun y _ => ?_⟩, by decide +kernel⟩, fun q => absurd q (by decide +kernel)⟩, ⟨⟨by decide +kernel, by decide +kernel⟩, fun y _ => ?_, Or.inl (by decide +kernel), Or.inl (by decide +kernel)⟩, Or.inl ⟨by decide +kernel, rfl⟩, ⟨by decide +kernel, by decide, fun i a q => nil_at q, fun c q => by simp [Rz] at q⟩, by decide +kernel, slC_z⟩
  · rw [MCa_z 13 (by omega)]
    exact ⟨fun q => absurd rfl q, fun q => by simp at q⟩
  · rw [MCa_z 27 (by omega)]
    show (0 : Int) ≤ MCa 25 4
    decide +kernel
/-- the start's language is empty -/
theorem lc_z {y : Int} (h : lcA Gz [] y) : False := h (fun _ => False) (fun a ha _ => by cases ha) (fun x r hx _ _ => hx)
theorem cnt_none {D : Int → Prop} (h : ∀ y, ¬ D y) : ∀ n : Nat, cnt D n = 0 := by
  intro n
  induction n with
  | zero => rfl
  | succ n ih => rw [cnt_f (h n)]; exact ih
theorem few_z : fewA Gz [] := by
  unfold fewA
  rw [cnt_none (fun y => lc_z)]
  omega
