/-! PURE 82: texts: the library's strings as the law builds them -/
/-- the cells up to n stand -/
def kp (n : Nat) (S : zS) (M : zM) (S1 : zS) (M1 : zM) : Prop := (S.1 ≤ S1.1 ∧ n ≤ S.1) ∧ ∀ b, b ≤ n → S1.2.1 b = S.2.1 b ∧ S1.2.2 b = S.2.2 b ∧ M1 b = M b
theorem kp.refl {n : Nat} {S : zS} {M : zM} (h : n ≤ S.1) : kp n S M S M := ⟨⟨Nat.le_refl _, h⟩, fun _ _ => ⟨rfl, rfl, rfl⟩⟩
theorem kp.trans {n : Nat} {S S1 S2 : zS} {M M1 M2 : zM} (h : kp n S M S1 M1) (i : kp n S1 M1 S2 M2) : kp n S M S2 M2 := ⟨⟨Nat.le_trans h.1.1 i.1.1, h.1.2⟩, fun b hb => ⟨(i.2 b hb).1.trans (h.2 b hb).1, (i.2 b hb).2.1.trans (h.2 b hb).2.1, (i.2 b hb).2.2.trans (h.2 b hb).2.2⟩⟩
theorem kp.down {n m : Nat} {S S1 : zS} {M M1 : zM} (h : kp n S M S1 M1) (i : m ≤ n) : kp m S M S1 M1 := ⟨⟨h.1.1, Nat.le_trans i h.1.2⟩, fun b hb => h.2 b (Nat.le_trans hb i)⟩
theorem kp.kd {n : Nat} {S S1 : zS} {M M1 : zM} (h : kp n S M S1 M1) {b : Nat} (hb : b ≤ n) : zkd S1 b = zkd S b ∧ zlen S1 b = zlen S b ∧ ∀ k, zrf S1 b k = zrf S b k := by
  obtain ⟨h1, h2, h3⟩ := h.2 b hb
  unfold zkd zlen zrf
  rw [h1, h2]
  exact ⟨rfl, rfl, fun _ => rfl⟩
theorem clsW.kp {B : Int} {G : zGr} {ax : List Int} {cur : Int} {R : zRst} {M M1 : zM} {S S1 : zS} (h : clsW B G ax cur R M S) (i : kp S.1 S M S1 M1) : clsW B G ax cur R M1 S1 := h.tr (A := fun _ => False) i.1.1 (fun b hb => (i.2 b hb).1) (fun b hb _ => (i.2 b hb).2.1) (fun b hb _ => (i.2 b hb).2.2) (fun b q => q.elim)
def byt (T : List Int) : Prop := ∀ c ∈ T, 0 ≤ c ∧ c < 128
/-- a text under way -/
def sbO (n q : Nat) (T : List Int) (M : zM) (S : zS) : Prop := (n < q ∧ q ≤ S.1 ∧ 89 ≤ n) ∧ zkd S q = 8 ∧ M q 1 = 0 ∧ M q 3 = (T.length : Int) ∧ (n < zrf S q 0 ∧ zrf S q 0 ≤ S.1) ∧ zkd S (zrf S q 0) = 24 ∧ (zlen S (zrf S q 0) = 16 ∨ zlen S (zrf S q 0) = 34) ∧ (T.length : Int) ≤ zlen S (zrf S q 0) ∧ rowl (M (zrf S q 0)) T ∧ byt T
/-- a text -/
def stO (r : Nat) (T : List Int) (M : zM) (S : zS) : Prop := (89 < r ∧ r ≤ S.1) ∧ zkd S r = 9 ∧ M r 1 = 0 ∧ (89 < zrf S r 0 ∧ zrf S r 0 ≤ S.1) ∧ zkd S (zrf S r 0) = 24 ∧ zlen S (zrf S r 0) = (T.length : Int) ∧ rowl (M (zrf S r 0)) T ∧ byt T
def csT (i : Nat) : List Int := (zST.getD i []).map (fun k : Nat => (k : Int))
/-- a text, also a constant -/
def txO (v : Nat) (T : List Int) (M : zM) (S : zS) : Prop := (∃ i, i < 21 ∧ v = 48 + i ∧ T = csT i) ∨ stO v T M S
theorem sbO.kp {n q : Nat} {T : List Int} {M M1 : zM} {S S1 : zS} (h : sbO n q T M S) (k : kp S.1 S M S1 M1) : sbO n q T M1 S1 := by
  obtain ⟨⟨a1, a2, a3⟩, b1, b2, b3, ⟨c1, c2⟩, c3, c4, c5, c6, c7⟩ := h
  have k1 := k.kd a2
  have k2 := k.kd c2
  have hn := k.1.1
  refine ⟨⟨a1, by omega, a3⟩, k1.1.trans b1, by rw [(k.2 q a2).2.2]; exact b2, by rw [(k.2 q a2).2.2]; exact b3, ?_, ?_, ?_, ?_, ?_, c7⟩ <;> rw [k1.2.2]
  · exact ⟨c1, by omega⟩
  · exact k2.1.trans c3
  · rw [k2.2.1]; exact c4
  · rw [k2.2.1]; exact c5
  · rw [(k.2 _ c2).2.2]; exact c6
theorem stO.kp {r n : Nat} {T : List Int} {M M1 : zM} {S S1 : zS} (h : stO r T M S) (k : kp n S M S1 M1) (h1 : r ≤ n) (h2 : zrf S r 0 ≤ n) : stO r T M1 S1 := by
  obtain ⟨⟨a1, a2⟩, b1, b2, ⟨c1, c2⟩, c3, c4, c6, c7⟩ := h
  have k1 := k.kd h1
  have k2 := k.kd h2
  have hn := k.1.1
  refine ⟨⟨a1, by omega⟩, k1.1.trans b1, by rw [(k.2 r h1).2.2]; exact b2, ?_, ?_, ?_, ?_, c7⟩ <;> rw [k1.2.2]
  · exact ⟨c1, by omega⟩
  · exact k2.1.trans c3
  · rw [k2.2.1]; exact c4
  · rw [(k.2 _ h2).2.2]; exact c6
theorem txO.kp {v : Nat} {T : List Int} {M M1 : zM} {S S1 : zS} (h : txO v T M S) (k : kp S.1 S M S1 M1) : txO v T M1 S1 := by
  rcases h with h | h
  · exact Or.inl h
  · exact Or.inr (h.kp k h.1.2 h.2.2.2.1.2)
theorem csT_len (i : Nat) : ((csT i).length : Int) = zsl i := by
  unfold csT zsl
  rw [List.length_map]
theorem csT_byt : ∀ i, i < 21 → byt (csT i) := by
  unfold byt csT
  decide +kernel
theorem csT_at (i : Nat) : ∀ (k : Nat) (v : Int), (csT i)[k]? = some v → zsc i (k : Int) = v := by
  intro k v h
  unfold csT at h
  rw [List.getElem?_map] at h
  unfold zsc
  rw [Int.toNat_natCast, List.getD_eq_getElem?_getD]
  cases e : (zST.getD i [])[k]? with
  | none => rw [e] at h; cases h
  | some x => rw [e] at h; cases h; rfl
theorem zshr_0 {a : Int} (h0 : 0 ≤ a) (h1 : a < 2147483648) : zshr a 0 = a := by
  rw [zshr_k h0 h1 0 0 (by decide)]; omega
theorem zshl_0 {a : Int} (h0 : 0 ≤ a) (h1 : a < 2147483648) : zshl a 0 = a := by
  rw [zshl_k h0 0 0 (by decide) (by omega)]; omega
theorem txO.byt {v : Nat} {T : List Int} {M : zM} {S : zS} (h : txO v T M S) : byt T := by
  rcases h with ⟨i, h1, -, rfl⟩ | h
  · exact csT_byt i h1
  · exact h.2.2.2.2.2.2.2
theorem tx_len {v : Nat} {T : List Int} {M : zM} {S : zS} (h : txO v T M S) (hT : T.length ≤ 100) : F_J0_lenM v M S = some (T.length : Int) := by
  unfold F_J0_lenM
  rcases h with ⟨i, h1, rfl, rfl⟩ | ⟨⟨a1, a2⟩, b1, b2, ⟨c1, c2⟩, c3, c4, c6, c7⟩
  · rw [if_pos ⟨by omega, by omega⟩, show 48 + i - 48 = i by omega, csT_len]
  · rw [if_neg (by omega), zchk_pos b1]
    unfold F_J0_length_8abf5 F_J0_coder_7d493
    rw [zchk_pos b1, zchk_pos c3, zchk_pos b1, if_neg (by decide), zchk_pos b1, b2, zchk_pos ⟨by decide, by decide⟩]
    simp only [zb1_some]
    rw [c4, zshr_0 (by omega) (by omega)]
theorem tx_cod {v : Nat} {T : List Int} {M : zM} {S : zS} (h : txO v T M S) : F_J0_codM v M S = some 0 := by
  unfold F_J0_codM
  rcases h with ⟨i, h1, rfl, rfl⟩ | ⟨⟨a1, a2⟩, b1, b2, -⟩
  · rw [if_pos ⟨by omega, by omega⟩]
  · rw [if_neg (by omega), zchk_pos b1]
    unfold F_J0_coder_7d493
    rw [if_neg (by decide), zchk_pos b1, b2, zchk_pos ⟨by decide, by decide⟩]
theorem tx_gby {v a : Nat} {T : List Int} {M : zM} {S : zS} {j : Int} (h : txO v T M S) (hT : T.length ≤ 100) (ha : zkd S a = 24) (h0 : 0 ≤ j) (h1 : j + (T.length : Int) ≤ zlen S a) (h2 : zlen S a ≤ 100) : Ok (F_J0_gbyM v a j 0 M S) (fun M1 => (∀ b, b ≠ a → M1 b = M b) ∧ (∀ k : Int, ¬ (j ≤ k ∧ k < j + (T.length : Int)) → M1 a k = M a k) ∧ ∀ (i : Nat) (c : Int), T[i]? = some c → M1 a (j + i) = c) := by
  unfold F_J0_gbyM
  rcases h with ⟨i, g1, rfl, rfl⟩ | ⟨⟨a1, a2⟩, b1, b2, ⟨c1, c2⟩, c3, c4, c6, c7⟩
  · rw [if_pos ⟨by omega, by omega⟩, show 48 + i - 48 = i by omega]
    rw [csT_len] at h1
    refine Ok.chk ⟨rfl, ha, h0, h1⟩ (Ok.ret ⟨fun b hb => up_ne _ _ hb, fun k hk => ?_, fun k c hk => ?_⟩)
    · unfold zcpk
      rw [up_eq]
      rw [csT_len] at hk
      exact if_neg hk
    · have hl := (List.getElem?_eq_some_iff.mp hk).1
      have hl2 : ((csT i).length : Int) = zsl i := csT_len i
      unfold zcpk
      rw [up_eq]
      show (if j ≤ j + (k : Int) ∧ j + (k : Int) < j + zsl i then zsc i (j + (k : Int) - j) else M a (j + (k : Int))) = c
      rw [if_pos ⟨by omega, by omega⟩, show j + (k : Int) - j = (k : Int) by omega]
      exact csT_at i k c hk
  · rw [if_neg (by omega)]
    refine Ok.chk b1 ?_
    unfold F_J0_getBytes_840e7 F_J0_coder_7d493
    refine Ok.chk b1 ?_
    rw [if_neg (by decide), zchk_pos b1, b2, zchk_pos ⟨by decide, by decide⟩]
    simp only [zb1_some]
    rw [if_pos trivial, c4, zshl_0 h0 (by omega)]
    refine Ok.chk b1 (Ok.chk b1 (Ok.chk c3 (Ok.chk c3 (Ok.chk ha (Ok.chk ⟨by omega, by omega, by omega, by omega, by omega⟩ (Ok.lett (Ok.ret ⟨fun b hb => up_ne _ _ hb, fun k hk => ?_, fun k c hk => ?_⟩)))))))
    · unfold zcpy
      rw [up_eq]
      exact if_neg hk
    · have hl := (List.getElem?_eq_some_iff.mp hk).1
      unfold zcpy
      rw [up_eq]
      show (if j ≤ j + (k : Int) ∧ j + (k : Int) < j + (T.length : Int) then M (zrf S v 0) (0 + (j + (k : Int) - j)) else M a (j + (k : Int))) = c
      rw [if_pos ⟨by omega, by omega⟩, show 0 + (j + (k : Int) - j) = (k : Int) by omega]
      exact c6 k c hk
