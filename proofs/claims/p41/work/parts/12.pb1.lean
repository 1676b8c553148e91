/-! PURE 19: the reference: all contexts; derivations counted -/
def fewA (G : zGr) (ax : List Int) : Prop := cnt (lcA G ax) 29524 ≤ 300
theorem all_w : ∀ n : Nat, n ≤ 5 → w (zshl 1 (n : Int) - 1) = 2 ^ n - 1 := by decide +kernel
theorem lc_congr {G : zGr} {ax : List Int} {C E : Nat → Prop} {y : Int} (hG : grok G) (i : ∀ c, c < G.2.2.length → C c → E c) (h : lc G ax C y) : lc G ax E y := h _ (fun a ha hl => lc_ax ha hl) (fun x r hx hp hc => lc_ins hx hp (i _ (by
  obtain ⟨L, R, pr, h1, _⟩ := hp
  exact (List.getElem?_eq_some_iff.mp h1).1) hc))
theorem bs_all {n c : Nat} (hn : n ≤ 5) (hc : c < n) : bs ((2 : Int) ^ n - 1) c := by
  have e : (2 : Int) ^ n - 1 = ((2 ^ n - 1 : Nat) : Int) := by
    have := Nat.one_le_two_pow (n := n)
    rw [Int.natCast_sub this, Int.natCast_pow]
    rfl
  unfold bs
  rw [e, Int.toNat_natCast, Nat.testBit_two_pow_sub_one, decide_eq_true hc]
theorem lcA_all {G : zGr} {ax : List Int} {y : Int} (hG : grok G) : lc G ax (bs ((2 : Int) ^ G.2.2.length - 1)) y ↔ lcA G ax y := ⟨lc_congr hG (fun _ _ _ => trivial), lc_congr hG (fun c hc _ => bs_all hG.2.2.1 hc)⟩
theorem pow5 {n : Nat} (h : n ≤ 5) : 0 ≤ (2 : Int) ^ n - 1 ∧ (2 : Int) ^ n - 1 < 32 := by
  have : n = 0 ∨ n = 1 ∨ n = 2 ∨ n = 3 ∨ n = 4 ∨ n = 5 := by omega
  rcases this with rfl | rfl | rfl | rfl | rfl | rfl <;> decide
theorem axM.fr {A : Nat → Prop} {F : Int → Prop} {M M1 : zM} {ax : List Int} (h : axM M ax) (hf : mfr A F M M1) (hA : ¬ A 49) (hF : ¬ F 2) : axM M1 ax := by
  unfold axM
  rw [hf.2 2 hF (by decide) (by decide), hf.1 49 hA (by decide) (by decide) (by decide)]
  exact h
/-- only the reference's notes have changed -/
def mscr (M M1 : zM) : Prop := mfr (fun b => 58 ≤ b ∧ b ≤ 66) (fun k => k = 0 ∨ k = 23 ∨ k = 26) M M1
theorem mscr.of {A : Nat → Prop} {F : Int → Prop} {M M1 : zM} (h : mfr A F M M1) (i : ∀ b, A b → 58 ≤ b ∧ b ≤ 66) (j : ∀ k, F k → k = 0 ∨ k = 23 ∨ k = 26) : mscr M M1 := h.mono i j
theorem mrk.fr {A : Nat → Prop} {F : Int → Prop} {M M1 : zM} {D : Int → Prop} (h : mrk M D) (hf : mfr A F M M1) (hA : ¬ A 58) (hF : ¬ F 23) : mrk M1 D := by
  unfold mrk
  rw [hf.1 58 hA (by decide) (by decide) (by decide), hf.2 23 hF (by decide) (by decide)]
  exact h
