/-! PURE 43: the two sides together -/
/-- what stands beside the grammar and the word: what is saved, the text, the fault's position, the slots -/
def zRst : Type := Option (zGr × List Int × Int) × List Int × Int × (Nat → Int × Int × (Int → Int))
def gS (M : zM) (S : zS) (G : zGr) : Prop := M 8 3 = (G.2.2.length : Int) ∧ M 8 4 = G.2.1 ∧ M 8 5 = G.1 ∧ ∀ (i : Nat) (L R : Int) (pr : List Int), G.2.2[i]? = some (L, R, pr) → ctxok M S (zrf S 10 i) L R pr
def axS (M : zM) (ax : List Int) : Prop := M 8 2 = (ax.length : Int) ∧ rowl (M 9) ax
/-- the references to contexts are good -/
def refS (S : zS) (q : Nat) : Prop := ∀ i : Nat, i < 5 → zrf S q i = 0 ∨ (zkd S (zrf S q i) = 0 ∧ zrf S q i + 4 ≤ S.1)
def savC (o : Option (zGr × List Int × Int)) (M : zM) (S : zS) : Prop := (M 1 10 = 0 ∧ o = none) ∨ (M 1 10 = 1 ∧ ∃ G ax cur, o = some (G, ax, cur) ∧ (grok G ∧ axok ax ∧ wd cur) ∧ gS M S G ∧ axS M ax ∧ M 1 9 = cur)
def sltC (f : Nat → Int × Int × (Int → Int)) (M : zM) : Prop := ∀ i : Nat, i < 3 → M (42 + 2 * i) 1 = (f i).1 ∧ M (42 + 2 * i) 2 = (f i).2.1 ∧ (∀ j : Int, 0 ≤ j → j < 20 → M (43 + 2 * i) j = (f i).2.2 j) ∧ ((f i).1 = -1 ∨ (0 ≤ (f i).1 ∧ (f i).1 ≤ 2)) ∧ 0 ≤ (f i).2.1 ∧ (f i).2.1 ≤ 20
def restC (R : zRst) (M : zM) (S : zS) : Prop := savC R.1 M S ∧ (M 2 3 = (R.2.1.length : Int) ∧ R.2.1.length ≤ 60 ∧ rowl (M 3) R.2.1 ∧ ∀ c ∈ R.2.1, 0 ≤ c ∧ c < 65536) ∧ M 1 7 = R.2.2.1 ∧ sltC R.2.2.2 M
noncomputable def clsW (B : Int) (G : zGr) (ax : List Int) (cur : Int) (R : zRst) (M : zM) (S : zS) : Prop := zFx S ∧ (grok G ∧ axok ax ∧ wd cur) ∧ gC M S G ∧ (refS S 7 ∧ refS S 10) ∧ axC M ax ∧ M 1 8 = cur ∧ lgI G ax M ∧ nfI G ax B M ∧ restC R M S
def savM (o : Option (zGr × List Int × Int)) (M : zM) : Prop := (M 48 37 = 0 ∧ o = none) ∨ (M 48 37 = 1 ∧ ∃ G ax cur, o = some (G, ax, cur) ∧ M 75 0 = (ax.length : Int) ∧ M 75 1 = (G.2.2.length : Int) ∧ M 75 2 = G.2.1 ∧ M 75 3 = G.1 ∧ M 75 4 = cur ∧ (∀ (i : Nat) (a : Int), ax[i]? = some a → M 70 i = a) ∧ ∀ (i : Nat) (L R : Int) (pr : List Int), G.2.2[i]? = some (L, R, pr) → M 71 i = L ∧ M 72 i = R ∧ M 74 i = (pr.length : Int) ∧ ∀ (j : Nat) (v : Int), pr[j]? = some v → M 73 (60 * (i : Int) + j) = v)
def sltM (f : Nat → Int × Int × (Int → Int)) (M : zM) : Prop := ∀ i : Nat, i < 3 → M 67 i = (f i).1 ∧ M 68 i = (f i).2.1 ∧ ∀ j : Int, 0 ≤ j → j < 20 → M 69 (20 * (i : Int) + j) = (f i).2.2 j
def restM (R : zRst) (M : zM) : Prop := savM R.1 M ∧ (M 48 11 = (R.2.1.length : Int) ∧ ∀ (i : Nat) (c : Int), R.2.1[i]? = some c → M 54 i = c) ∧ M 48 14 = R.2.2.1 ∧ sltM R.2.2.2 M
def mdlW (G : zGr) (ax : List Int) (cur : Int) (R : zRst) (M : zM) : Prop := gM M G ∧ axM M ax ∧ M 48 29 = cur ∧ restM R M
/-- the class's cells stand -/
def keepC (M M1 : zM) : Prop := ∀ b, b < 48 ∨ 89 < b → M1 b = M b
/-- what stands beside the class's cells keeps its numbers -/
def keepM (S : zS) (M M1 : zM) : Prop := ∀ b, 89 < b → (b ≤ S.1 ∧ zkd S b ≠ 21) → M1 b = M b
theorem keepC.trans {M M1 M2 : zM} (h : keepC M M1) (i : keepC M1 M2) : keepC M M2 := fun b hb => (i b hb).trans (h b hb)
theorem keepM.trans {S : zS} {M M1 M2 : zM} (h : keepM S M M1) (i : keepM S M1 M2) : keepM S M M2 := fun b h1 h2 => (i b h1 h2).trans (h b h1 h2)
theorem keepC.of {A : Nat → Prop} {F : Int → Prop} {M M1 : zM} (h : mfr A F M M1) (hA : ∀ b, A b → 48 ≤ b ∧ b ≤ 77) : keepC M M1 := fun b hb => h.1 b (fun a => by have := hA b a; omega) (by omega) (by omega) (by omega)
theorem keepM.of {A : Nat → Prop} {S : zS} {M M1 : zM} (h : cfr A S M M1) (hA : ∀ b, A b → b ≤ 89) : keepM S M M1 := fun b h1 h2 => h.1 b (fun a => by have := hA b a; omega) (Or.inr h2.2)
/-- S with an exception more -/
theorem ctxS.zer {S : zS} {p : Nat} (h : ctxS S p) (hp : p + 4 ≤ S.1) (kd : Nat × Nat) : ctxS (zn S kd) p := by
  have e : ∀ q : Nat, q ≤ S.1 → zkd (zn S kd) q = zkd S q ∧ zlen (zn S kd) q = zlen S q := fun q hq => by
    have e1 : (zn S kd).2.1 q = S.2.1 q := up_ne _ _ (by omega)
    unfold zkd zlen
    rw [e1]
    exact ⟨rfl, rfl⟩
  have er : ∀ (q : Nat) (k : Int), zrf (zn S kd) q k = zrf S q k := fun q k => rfl
  obtain ⟨h1, h2, h3, h4, h5, h6, h7, h8, h9⟩ := h
  refine ⟨h1, ?_, ?_, ?_, ?_, ?_, ?_, ?_, h9⟩
  · rw [(e p (by omega)).1]; exact h2
  · rw [(e (p + 1) (by omega)).1]; exact h3
  · rw [(e (p + 2) (by omega)).1]; exact h4
  · rw [(e (p + 3) (by omega)).1]; exact h5
  · rw [(e (p + 4) (by omega)).1]; exact h6
  · rw [(e (p + 3) (by omega)).2]; exact h7
  · rw [(e (p + 4) (by omega)).2]; exact h8
theorem ctxok.zer {M : zM} {S : zS} {p : Nat} {L R : Int} {pr : List Int} (h : ctxok M S p L R pr) (hp : p + 4 ≤ S.1) (kd : Nat × Nat) : ctxok M (zn S kd) p L R pr := by
  obtain ⟨h1, ⟨a1, a2, a3⟩, h3⟩ := h
  have e1 : (zn S kd).2.1 (p + 2) = S.2.1 (p + 2) := up_ne _ _ (by omega)
  refine ⟨h1.zer hp kd, ⟨?_, ?_, a3⟩, h3⟩
  · unfold zkd at *; rw [e1]; exact a1
  · unfold zlen at *; rw [e1]; exact a2
theorem refS.zer {S : zS} {q : Nat} (h : refS S q) (kd : Nat × Nat) : refS (zn S kd) q := fun i hi => by
  rcases h i hi with a | ⟨a, b⟩
  · exact Or.inl a
  · refine Or.inr ⟨?_, Nat.le_succ_of_le b⟩
    have e1 : (zn S kd).2.1 (zrf S q i) = S.2.1 (zrf S q i) := up_ne _ _ (by omega)
    show ((zn S kd).2.1 (zrf S q i)).1 = 0
    rw [e1]; exact a
theorem zFx.zer {S : zS} (h : zFx S) (kd : Nat × Nat) : zFx (zn S kd) := by
  obtain ⟨h1, h2, h3⟩ := h
  refine ⟨Nat.le_succ_of_le h1, fun q a b => ?_, h3⟩
  show up S.2.1 (S.1 + 1) kd q = _
  rw [up_ne _ _ (by omega)]
  exact h2 q a b
theorem ctx_ref {M : zM} {S : zS} {q i : Nat} {L R : Int} {pr : List Int} (hr : refS S q) (hi : i < 5) (h : ctxok M S (zrf S q i) L R pr) : zrf S q i + 4 ≤ S.1 := by
  rcases hr i hi with a | a
  · have := h.1.1; omega
  · exact a.2
theorem clsW.zer {B : Int} {G : zGr} {ax : List Int} {cur : Int} {R : zRst} {M : zM} {S : zS} (h : clsW B G ax cur R M S) (kd : Nat × Nat) : clsW B G ax cur R M (zn S kd) := by
  obtain ⟨h1, h2, ⟨g1, g2, g3, g4⟩, ⟨f1, f2⟩, h5, h6, h7, h8, r1, r2⟩ := h
  have hl : ∀ {G : zGr} {i : Nat} {c : Int × Int × List Int}, grok G → G.2.2[i]? = some c → i < 5 := fun hG q => by have := (List.getElem?_eq_some_iff.mp q).1; have := hG.2.2.1; omega
  refine ⟨h1.zer kd, h2, ⟨g1, g2, g3, fun j L R pr q => (g4 j L R pr q).zer (ctx_ref f1 (hl h2.1 q) (g4 j L R pr q)) kd⟩, ⟨f1.zer kd, f2.zer kd⟩, h5, h6, h7, h8, ?_, r2⟩
  rcases r1 with a | ⟨a1, G1, ax1, cur1, a2, a3, ⟨b1, b2, b3, b4⟩, a5⟩
  · exact Or.inl a
  · exact Or.inr ⟨a1, G1, ax1, cur1, a2, a3, ⟨b1, b2, b3, fun j L R pr q => (b4 j L R pr q).zer (ctx_ref f2 (hl a3.1 q) (b4 j L R pr q)) kd⟩, a5⟩
/-- what queries of the class may change -/
def qA (b : Nat) : Prop := b = 1 ∨ (11 ≤ b ∧ b ≤ 40)
theorem clsW.qry {B B1 : Int} {G : zGr} {ax : List Int} {cur cur1 : Int} {R : zRst} {M M1 : zM} {S : zS} (h : clsW B G ax cur R M S) (hf : cfr qA S M M1) (h1 : ∀ k, k ≠ 11 → k ≠ 8 → M1 1 k = M 1 k) (hl : lgI G ax M1) (hn : nfI G ax B1 M1) (hc : M1 1 8 = cur1) (hw : wd cur1) : clsW B1 G ax cur1 R M1 S := by
  obtain ⟨a1, a2, a3, a4, a5, a6, a7, a8, r1, r2, r3, r4⟩ := h
  have e : ∀ b : Nat, b ≤ 89 → ¬ qA b → M1 b = M b := fun b q1 q2 => hf.1 b q2 (Or.inl q1)
  refine ⟨a1, ⟨a2.1, a2.2.1, hw⟩, a3.fr hf (by unfold qA; omega), a4, ?_, hc, hl, hn, ?_, ?_, ?_, ?_⟩
  · unfold axC; rw [e 5 (by decide) (by unfold qA; omega), e 6 (by decide) (by unfold qA; omega)]; exact a5
  · unfold savC gS axS at *
    rw [h1 10 (by decide) (by decide), h1 9 (by decide) (by decide), e 8 (by decide) (by unfold qA; omega), e 9 (by decide) (by unfold qA; omega)]
    rcases r1 with b | ⟨b1, G1, ax1, cur1, b2, b3, ⟨c1, c2, c3, c4⟩, b5⟩
    · exact Or.inl b
    · exact Or.inr ⟨b1, G1, ax1, cur1, b2, b3, ⟨c1, c2, c3, fun j L R pr q => hf.2 _ _ _ _ (c4 j L R pr q)⟩, b5⟩
  · rw [e 2 (by decide) (by unfold qA; omega), e 3 (by decide) (by unfold qA; omega)]; exact r2
  · rw [h1 7 (by decide) (by decide)]; exact r3
  · intro k hk
    rw [e (42 + 2 * k) (by omega) (by unfold qA; omega), e (43 + 2 * k) (by omega) (by unfold qA; omega)]
    exact r4 k hk
