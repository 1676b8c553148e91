/-! PURE 41: a place in order -/
noncomputable def rkn (ks : List Int) (v : Int) : Nat := (ks.filter (fun u => decide (u < v))).length
theorem srt_rk : ∀ {s : List Int} {t : Nat} {v : Int}, s.Pairwise (· < ·) → s[t]? = some v → rkn s v = t
  | a :: s, 0, v, hs, h => by
    have e : a = v := by simpa using h
    subst e
    have hs2 := (List.pairwise_cons.mp hs).1
    unfold rkn
    rw [List.length_eq_zero_iff, List.filter_eq_nil_iff]
    intro u hu
    rcases List.mem_cons.mp hu with e | hu
    · rw [e]; simp
    · have := hs2 u hu; simp; omega
  | a :: s, t + 1, v, hs, h => by
    have h : s[t]? = some v := by simpa using h
    obtain ⟨hs1, hs2⟩ := List.pairwise_cons.mp hs
    have ih := srt_rk hs2 h
    have := hs1 v (List.mem_of_getElem? h)
    unfold rkn at ih ⊢
    rw [List.filter_cons, if_pos (by simpa using this), List.length_cons, ih]
