/-! PURE 25: the class: sets of contexts that generate; loops; words of a length -/
theorem lang1.fr {G : zGr} {ax : List Int} {A : Nat → Prop} {F : Int → Prop} {M M1 : zM} (h : lang1 G ax M) (hf : lfr A F M M1) (hA : ∀ b, A b → b ≠ 12 ∧ b ≠ 13 ∧ b ≠ 14 ∧ b ≠ 15 ∧ b ≠ 17) (hF : ¬ F 13) : lang1 G ax M1 := by
  unfold lang1
  rw [hf.2 13 hF, hf.1 12 (fun a => (hA _ a).1 rfl) (by decide), hf.1 13 (fun a => (hA _ a).2.1 rfl) (by decide), hf.1 14 (fun a => (hA _ a).2.2.1 rfl) (by decide), hf.1 15 (fun a => (hA _ a).2.2.2.1 rfl) (by decide), hf.1 17 (fun a => (hA _ a).2.2.2.2 rfl) (by decide)]
  exact h
theorem FX3_wordsOfLength {M : zM} {S : zS} {G : zGr} {ax : List Int} {n : Int} (hF : zFx S) (hL : lang1 G ax M) : F_X3_wordsOfLength n M S = some (cln G ax n) := by
  obtain ⟨l1, l2, l3, l4, l5, l6, l7⟩ := hL
  have hend : cln G ax n = ((wl_ (lcA G ax)).countP (fun y => decide (ln y = n)) : Nat) := by
    unfold cln
    rw [← len_wl, List.countP_eq_length_filter]
    have : wl_ (fun y => lcA G ax y ∧ ln y = n) = (wl_ (lcA G ax)).filter (fun y => decide (ln y = n)) := by
      refine pw_ext (pw_wl _) (List.Pairwise.filter _ (pw_wl _)) (fun u => ?_)
      rw [mem_wl, List.mem_filter, mem_wl, decide_eq_true_eq, and_assoc]
    rw [this]
  refine Ok.eqs ?_
  unfold F_X3_wordsOfLength F_X3_wordsOfLength_L4
  refine Ok.loop (fun z => ∃ i : Nat, z.2 = i ∧ i ≤ (wl_ (lcA G ax)).length ∧ z.1 = (((wl_ (lcA G ax)).take i).countP (fun y => decide (ln y = n)) : Nat)) (fun z => (400 - z.2).toNat) (fun e => e = cln G ax n) ⟨0, rfl, by omega, rfl⟩ (by show (400 - (0 : Int)).toNat < zN; decide) ?_ (fun e he => Ok.ret he)
  rintro ⟨v2, v3⟩ ⟨i, i1, i2, i3⟩
  dsimp only at i1 i2 i3 ⊢
  subst i1 i3
  unfold F_X3_wordsOfLength_B4
  rw [l1]
  refine Ok.ite (fun q => ?_) (fun q => Ok.ret (by show (((List.countP _ _ : Nat)) : Int) = _; rw [show i = (wl_ (lcA G ax)).length by omega, List.take_length]; exact hend.symm))
  have hi : i < (wl_ (lcA G ax)).length := by omega
  have hg := List.getElem?_eq_getElem hi
  have htk : (wl_ (lcA G ax)).take (i + 1) = (wl_ (lcA G ax)).take i ++ [(wl_ (lcA G ax))[i]] := List.take_succ_eq_append_getElem hi
  have hcl := List.countP_le_length (p := fun y => decide (ln y = n)) (l := (wl_ (lcA G ax)).take i)
  rw [List.length_take] at hcl
  unfold F_X3_wordAt
  rw [xat hF 12 300 rfl (by omega) (by omega)]
  simp only [zb1_some]
  rw [l3 i _ hg]
  generalize (wl_ (lcA G ax))[i] = x at hg htk
  rw [FX9_length (wl_idx hg).2.1]
  simp only [zb1_some]
  unfold F_X3_wordsOfLength_J27
  rw [w_id (a := (i : Int) + 1) (by omega)]
  refine Ok.ite (fun q1 => Ok.lett (Ok.lett (Ok.ret ?_))) (fun q1 => Ok.lett (Ok.ret ?_))
  · rw [w_id (by omega)]
    exact ⟨⟨i + 1, by show (i : Int) + 1 = _; omega, by omega, by show ((List.countP _ _ : Nat) : Int) + 1 = _; rw [htk, List.countP_append, List.countP_singleton, decide_eq_true q1]; simp⟩, by show (400 - ((i : Int) + 1)).toNat < (400 - (i : Int)).toNat; omega⟩
  · exact ⟨⟨i + 1, by show (i : Int) + 1 = _; omega, by omega, by show ((List.countP _ _ : Nat) : Int) = _; rw [htk, List.countP_append, List.countP_singleton, decide_eq_false q1]; simp⟩, by show (400 - ((i : Int) + 1)).toNat < (400 - (i : Int)).toNat; omega⟩
