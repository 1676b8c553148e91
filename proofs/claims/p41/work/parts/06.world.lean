/-! THE WORLD: the cells that the law's run makes have places 1 .. 47 (the class's fixed ones) and 90, 91, .. behind the start's heap; places 48 .. 89 stand for the law's String constants (48 ..) and their byte rows (69 ..); memory M (numbers), shape S: how many, kinds (code, size), references -/
abbrev zM : Type := Nat → Int → Int
abbrev zS : Type := Nat × (Nat → Nat × Nat) × (Nat → Int → Nat)
/-- geometry: the place before the first, classes and field slots, array classes, string constants and their byte rows, the script -/
abbrev zG : Type := Nat × va_G × (Nat → ClassId) × (Nat → Nat) × (Nat → Nat) × Nat × Nat × (Nat → Int32)
abbrev zb (g : zG) : Nat := g.1
abbrev zD (g : zG) : va_G := g.2.1
abbrev zc (g : zG) : Nat → ClassId := g.2.2.1
abbrev zk (g : zG) : Nat → Nat := g.2.2.2.1
abbrev zw2 (g : zG) : Nat → Nat := g.2.2.2.2.1
abbrev zgb (g : zG) : Nat := g.2.2.2.2.2.1
abbrev zgL (g : zG) : Nat := g.2.2.2.2.2.2.1
abbrev zgx (g : zG) : Nat → Int32 := g.2.2.2.2.2.2.2
abbrev zA (g : zG) : Nat → Prop := fun q => zb g < q
def ztc (ty : FieldType) : Nat := match ty with
  | .long => 1
  | .double => 2
  | .object _ => 3
  | .array _ => 3
  | _ => 0
/-- the numbers that a slot of a type may hold -/
def zrg (ty : FieldType) (z : Int) : Prop := match ty with
  | .long => inL z
  | .double => 0 ≤ z ∧ z < 18446744073709551616
  | .boolean => 0 ≤ z ∧ z ≤ 1
  | .char => 0 ≤ z ∧ z < 65536
  | .byte => -128 ≤ z ∧ z < 128
  | .object _ => True
  | .array _ => True
  | _ => inR z
/-- field types by class number -/
def zft (c k : Nat) : FieldType := match c with
  | 0 => tyX0 k
  | 1 => tyX1 k
  | 2 => tyX2 k
  | 3 => tyX3 k
  | 4 => tyX5 k
  | 5 => tyX7 k
  | 6 => tyX8 k
  | 7 => tyX10 k
  | 8 => tyJ4 k
  | _ => tyJ0 k
/-- element types by array code -/
def zat (c : Nat) : FieldType := match c with
  | 20 => .int
  | 21 => .long
  | 22 => .boolean
  | 23 => .char
  | 24 => .byte
  | 25 => .object "ContextualGrammarLab$Context"
  | 26 => .object "ContextualGrammarLab$Slot"
  | _ => .array .int
/-- the type of slot k of a cell of kind c -/
def zty (c : Nat) (k : Nat) : FieldType := if c < 20 then zft c k else zat c
/-- the places that stand for constants -/
abbrev zcst (q : Nat) : Prop := 47 < q ∧ q < 90
/-- addresses: a constant's lies in the start's heap -/
def zad (g : zG) (q : Nat) : Nat := if 47 < q ∧ q < 90 then min (if q < 69 then zk g (q - 47) else zw2 g (q - 69)) (zb g) else zb g + (if q < 48 then q else q - 42)
/-- how many cells there are, by the last place -/
def zcn (n : Nat) : Nat := if n < 48 then n else n - 42
theorem zad_gt {g : zG} {a : Nat} (h0 : a ≠ 0) (hc : ¬ zcst a) : zb g < zad g a := by
  unfold zad
  rw [if_neg hc]
  split <;> omega
theorem zad_ne {g : zG} {a b : Nat} (h0 : a ≠ 0) (hc : ¬ zcst a) (h : b ≠ a) : zad g b ≠ zad g a := by
  unfold zad
  rw [if_neg hc]
  by_cases hb : 47 < b ∧ b < 90
  · rw [if_pos hb]
    have h1 : min (if b < 69 then zk g (b - 47) else zw2 g (b - 69)) (zb g) ≤ zb g := Nat.min_le_right _ _
    generalize min (if b < 69 then zk g (b - 47) else zw2 g (b - 69)) (zb g) = x at h1 ⊢
    have hc2 : ¬ (47 < a ∧ a < 90) := hc
    split <;> omega
  · rw [if_neg hb]
    have hc2 : ¬ (47 < a ∧ a < 90) := hc
    split <;> split <;> omega
def zr (g : zG) (q : Nat) : Value := if q = 0 then .null else .ref (zad g q)
def zv (g : zG) (t : Nat) (z : Int) (q : Nat) : Value := match t with
  | 0 => .int (zi z)
  | 1 => .long (zl z)
  | 2 => .double (zd z)
  | _ => zr g q
/-- a cell -/
def zAt (g : zG) (M : zM) (S : zS) (a : Nat) (H : Heap) : Prop :=
  ((S.2.1 a).1 < 20 → ∃ r : vw_C, vwCl[(S.2.1 a).1]? = some r ∧ t_OB (zad g a) ((zD g).1 (S.2.1 a).1) r.2.2 ((zD g).2 (S.2.1 a).1) H (fun k => zv g (ztc (zft (S.2.1 a).1 k)) (M a k) (S.2.2 a k))) ∧
  (20 ≤ (S.2.1 a).1 → (S.2.1 a).1 < 28 → H[zad g a]? = some (arrV (zc g (S.2.1 a).1) (S.2.1 a).2 (fun j => zv g (ztc (zat (S.2.1 a).1)) (M a j) (S.2.2 a j))))
def zVal (M : zM) (S : zS) : Prop := ∀ (a : Nat) (k : Nat), (S.2.1 a).1 < 28 → zrg (zty (S.2.1 a).1 k) (M a k)
/-- how large the cells are that were made -/
def zSz (g : zG) (S : zS) (H : Heap) : Prop := (∀ a : Nat, 0 < a → a ≤ S.1 → ¬ zcst a → ∃ cell : Cell, H[zad g a]? = some cell ∧ cell.slots.size ≤ max 1000 (S.2.1 a).2) ∧ ∀ a : Nat, 89 < a → (S.2.1 a).2 ≤ 1000
/-- the heap holds M and S -/
def zR (g : zG) (M : zM) (S : zS) (H : Heap) : Prop := H.size = zb g + zcn S.1 + 1 ∧ (∀ a : Nat, zAt g M S a H) ∧ ((∀ a : Nat, a = 0 ∨ S.1 < a → 28 ≤ (S.2.1 a).1 ∧ M a = (fun _ => 0) ∧ S.2.2 a = (fun _ => 0)) ∧ (∀ a : Nat, zcst a → 28 ≤ (S.2.1 a).1) ∧ zSz g S H ∧ (S.1 < 48 ∨ 89 ≤ S.1)) ∧ zVal M S ∧ ∀ a : Nat, (S.2.1 a).1 < 28 → (S.2.1 a).2 < 100000
/-- what the tables say of the classes -/
def zT (g : zG) (U : State) : Prop := va_K (zD g) vwCl [] U ∧ ∀ c : Nat, 20 ≤ c → c < 28 → ArrOfT U (zc g c) (zat c) ∧ va_RA U (zc g c) (zat c)
theorem zT.moved {g : zG} {u U : State} (hvm : u.vm.Alike U.vm) (h : zT g u) : zT g U := ⟨h.1.moved hvm, fun c h1 h2 => ⟨arrOfT_moved hvm (h.2 c h1 h2).1, (h.2 c h1 h2).2.moved hvm⟩⟩
/-- M with v at place k of cell a -/
def zs (M : zM) (a : Nat) (k : Int) (v : Int) : zM := up M a (up (M a) k v)
theorem zs_eq (M : zM) (a : Nat) (k v : Int) : zs M a k v a = up (M a) k v := up_eq _ _ _
theorem zs_ne (M : zM) {a b : Nat} (k v : Int) (h : b ≠ a) : zs M a k v b = M b := up_ne _ _ h
theorem zs_at (M : zM) (a : Nat) (k v : Int) : zs M a k v a k = v := by rw [zs_eq, up_eq]
theorem zs_off (M : zM) {a b : Nat} {k j : Int} (v : Int) (h : b ≠ a ∨ j ≠ k) : zs M a k v b j = M b j := by
  by_cases hb : b = a
  · subst hb
    rw [zs_eq, up_ne _ _ (h.resolve_left (fun q => q rfl))]
  · rw [zs_ne _ _ _ hb]
/-- S with reference v at place k of cell a -/
def zq (S : zS) (a : Nat) (k : Int) (v : Nat) : zS := (S.1, S.2.1, up S.2.2 a (up (S.2.2 a) k v))
/-- S with one cell more -/
def zn (S : zS) (kd : Nat × Nat) : zS := (S.1 + 1, up S.2.1 (S.1 + 1) kd, S.2.2)
/-- room for a cell of n slots at the next place -/
def zst (S : zS) (n : Nat) : Prop := S.1 < 47 ∨ (89 ≤ S.1 ∧ n ≤ 1000)
theorem zAt.kept {g : zG} {M M1 : zM} {S S1 : zS} {a : Nat} {H H1 : Heap} (h : zAt g M S a H) (hH : H1[zad g a]? = H[zad g a]?) (hk : S1.2.1 a = S.2.1 a) (hM : M1 a = M a) (hS : S1.2.2 a = S.2.2 a) : zAt g M1 S1 a H1 := by
  refine ⟨fun h1 => ?_, fun h1 h2 => ?_⟩
  · rw [hk] at h1 ⊢
    obtain ⟨r, r1, r2⟩ := h.1 h1
    refine ⟨r, r1, ?_⟩
    rw [hM, hS]
    exact r2.kept hH
  · rw [hk] at h1 h2 ⊢
    rw [hM, hS, hH]
    exact h.2 h1 h2
theorem zR.pos {g : zG} {M : zM} {S : zS} {H : Heap} (h : zR g M S H) {a : Nat} (hk : (S.2.1 a).1 < 28) : a ≠ 0 ∧ a ≤ S.1 ∧ ¬ zcst a := by
  have := h.2.2.1.1 a
  refine ⟨?_, ?_, ?_⟩
  · intro e
    have := (this (Or.inl e)).1
    omega
  · by_cases e : S.1 < a
    · have := (this (Or.inr e)).1
      omega
    · omega
  · intro e
    have := h.2.2.1.2.1 a e
    omega
theorem zR.size {g : zG} {M : zM} {S : zS} {H : Heap} (h : zR g M S H) : H.size = zb g + zcn S.1 + 1 := h.1
/-- the next cell's place and address -/
theorem zad_new {g : zG} {S : zS} {n : Nat} (h : zst S n) : zad g (S.1 + 1) = zb g + zcn S.1 + 1 ∧ zcn (S.1 + 1) = zcn S.1 + 1 ∧ ¬ zcst (S.1 + 1) := by
  unfold zst at h
  unfold zad zcn
  refine ⟨?_, ?_, by unfold zcst; omega⟩
  · rw [if_neg (by omega)]
    repeat' split
    all_goals omega
  · repeat' split
    all_goals omega
theorem zr_new {g : zG} {M : zM} {S : zS} {H : Heap} {n : Nat} (hR : zR g M S H) (h : zst S n) : zr g (S.1 + 1) = .ref H.size := by
  unfold zr
  rw [if_neg (by omega), (zad_new h).1, hR.1]
theorem zad_old {g : zG} {S : zS} {b : Nat} (hb : b ≤ S.1) (hs : S.1 < 48 ∨ 89 ≤ S.1) : zad g b < zb g + zcn S.1 + 1 := by
  unfold zad zcn
  by_cases h : 47 < b ∧ b < 90
  · rw [if_pos h]
    have h1 : min (if b < 69 then zk g (b - 47) else zw2 g (b - 69)) (zb g) ≤ zb g := Nat.min_le_right _ _
    omega
  · rw [if_neg h]
    repeat' split
    all_goals omega
theorem zSz.kept {g : zG} {S S1 : zS} {H H1 : Heap} {a : Nat} (h : zSz g S H) (h1 : S1.1 = S.1) (h2 : S1.2.1 = S.2.1) (ho : ∀ q, q ≠ zad g a → H1[q]? = H[q]?) (hs : ∀ c1, H1[zad g a]? = some c1 → ∃ c0 : Cell, H[zad g a]? = some c0 ∧ c1.slots.size = c0.slots.size) (hz : H1.size = H.size) : zSz g S1 H1 := by
  refine ⟨fun b b0 b1 b2 => ?_, by rw [h2]; exact h.2⟩
  rw [h1] at b1
  rw [h2]
  obtain ⟨c0, e0, e1⟩ := h.1 b b0 b1 b2
  by_cases e : zad g b = zad g a
  · have hlt := (Array.getElem?_eq_some_iff.mp e0).1
    obtain ⟨c1, hc1⟩ : ∃ c1, H1[zad g b]? = some c1 := ⟨_, Array.getElem?_eq_getElem (by rw [hz]; exact hlt)⟩
    obtain ⟨c2, hc2, hc3⟩ := hs c1 (by rw [← e]; exact hc1)
    rw [← e, e0] at hc2
    cases hc2
    exact ⟨c1, hc1, by rw [hc3]; exact e1⟩
  · exact ⟨c0, by rw [ho _ e]; exact e0, e1⟩
/-- one cell's numbers have changed -/
theorem zR.cell {g : zG} {M M1 : zM} {S : zS} {H H1 : Heap} (h : zR g M S H) {a : Nat} (hk0 : (S.2.1 a).1 < 28) (hz : H1.size = H.size) (ho : ∀ q, q ≠ zad g a → H1[q]? = H[q]?) (hs : ∀ c1, H1[zad g a]? = some c1 → ∃ c0 : Cell, H[zad g a]? = some c0 ∧ c1.slots.size = c0.slots.size) (hM : ∀ b, b ≠ a → M1 b = M b) (ha : zAt g M1 S a H1) (hv : ∀ k : Nat, (S.2.1 a).1 < 28 → zrg (zty (S.2.1 a).1 k) (M1 a k)) : zR g M1 S H1 := by
  have hp := h.pos hk0
  refine ⟨by rw [hz]; exact h.1, fun b => ?_, ⟨fun b hb => ?_, h.2.2.1.2.1, h.2.2.1.2.2.1.kept rfl rfl ho hs hz, h.2.2.1.2.2.2⟩, fun b k hk => ?_, h.2.2.2.2⟩
  · by_cases e : b = a
    · subst e; exact ha
    · exact (h.2.1 b).kept (ho _ (zad_ne hp.1 hp.2.2 e)) rfl (hM b e) rfl
  · obtain ⟨h1, h2⟩ := h.2.2.1.1 b hb
    by_cases e : b = a
    · subst e; exact absurd hk0 (by omega)
    · exact ⟨h1, by rw [hM b e]; exact h2.1, h2.2⟩
  · by_cases e : b = a
    · subst e; exact hv k hk
    · rw [hM b e]; exact h.2.2.2.1 b k hk
/-- one cell's references have changed -/
theorem zR.rcell {g : zG} {M : zM} {S : zS} {H H1 : Heap} (h : zR g M S H) {a v : Nat} {k : Int} (hk0 : (S.2.1 a).1 < 28) (hz : H1.size = H.size) (ho : ∀ q, q ≠ zad g a → H1[q]? = H[q]?) (hs : ∀ c1, H1[zad g a]? = some c1 → ∃ c0 : Cell, H[zad g a]? = some c0 ∧ c1.slots.size = c0.slots.size) (ha : zAt g M (zq S a k v) a H1) : zR g M (zq S a k v) H1 := by
  have hp := h.pos hk0
  refine ⟨by rw [hz]; exact h.1, fun b => ?_, ⟨fun b hb => ?_, h.2.2.1.2.1, h.2.2.1.2.2.1.kept rfl rfl ho hs hz, h.2.2.1.2.2.2⟩, h.2.2.2.1, h.2.2.2.2⟩
  · by_cases e : b = a
    · subst e; exact ha
    · exact (h.2.1 b).kept (ho _ (zad_ne hp.1 hp.2.2 e)) rfl rfl (up_ne _ _ e)
  · obtain ⟨h1, h2⟩ := h.2.2.1.1 b hb
    by_cases e : b = a
    · subst e; exact absurd hk0 (by omega)
    · exact ⟨h1, h2.1, (up_ne _ _ e).trans h2.2⟩
/-- a cell has come -/
theorem zR.more {g : zG} {M : zM} {S : zS} {H H1 : Heap} (h : zR g M S H) {kd : Nat × Nat} {n : Nat} (hst : zst S n) (hkn : kd.2 ≤ n) (hsz : ∃ c1 : Cell, H1[H.size]? = some c1 ∧ c1.slots.size ≤ max 1000 kd.2) (hz : H1.size = H.size + 1) (ho : ∀ q, q < H.size → H1[q]? = H[q]?) (ha : zAt g M (zn S kd) (S.1 + 1) H1) (hn : kd.2 < 100000) : zR g M (zn S kd) H1 := by
  have hM : M (S.1 + 1) = fun _ => 0 := (h.2.2.1.1 (S.1 + 1) (Or.inr (Nat.lt_succ_self _))).2.1
  obtain ⟨n1, n2, n3⟩ := zad_new (g := g) hst
  have hs8 := h.2.2.1.2.2.2
  refine ⟨by rw [hz, h.1]; show _ = zb g + zcn (S.1 + 1) + 1; omega, fun b => ?_, ⟨fun b hb => ?_, fun b hb => ?_, ⟨fun b b0 b1 b2 => ?_, fun b b0 => ?_⟩, ?_⟩, fun b k hk => ?_, fun b hb => ?_⟩
  · by_cases e : b = S.1 + 1
    · subst e; exact ha
    · by_cases e2 : S.1 < b
      · have h28 : 28 ≤ ((zn S kd).2.1 b).1 := by
          show 28 ≤ (up S.2.1 (S.1 + 1) kd b).1
          rw [up_ne _ _ e]; exact (h.2.2.1.1 b (Or.inr e2)).1
        exact ⟨fun q => absurd q (by omega), fun _ q => absurd q (by omega)⟩
      · exact (h.2.1 b).kept (ho _ (by rw [h.1]; exact zad_old (by omega) hs8)) (up_ne _ _ e) rfl rfl
  · have hb2 : b = 0 ∨ S.1 + 1 < b := hb
    have e : b ≠ S.1 + 1 := by omega
    have h3 := h.2.2.1.1 b (by omega)
    refine ⟨?_, h3.2⟩
    show 28 ≤ (up S.2.1 (S.1 + 1) kd b).1
    rw [up_ne _ _ e]; exact h3.1
  · show 28 ≤ (up S.2.1 (S.1 + 1) kd b).1
    rw [up_ne _ _ (fun e => by subst e; exact n3 hb)]
    exact h.2.2.1.2.1 b hb
  · show ∃ cell : Cell, H1[zad g b]? = some cell ∧ cell.slots.size ≤ max 1000 (up S.2.1 (S.1 + 1) kd b).2
    have b1 : b ≤ S.1 + 1 := b1
    by_cases e : b = S.1 + 1
    · subst e
      rw [up_eq, n1, ← h.1]
      exact hsz
    · rw [up_ne _ _ e]
      obtain ⟨c0, q1, q2⟩ := h.2.2.1.2.2.1.1 b b0 (by omega) b2
      exact ⟨c0, by rw [ho _ (by rw [h.1]; exact zad_old (by omega) hs8)]; exact q1, q2⟩
  · show (up S.2.1 (S.1 + 1) kd b).2 ≤ 1000
    by_cases e : b = S.1 + 1
    · subst e
      rw [up_eq]
      rcases hst with q | q <;> omega
    · rw [up_ne _ _ e]
      exact h.2.2.1.2.2.1.2 b b0
  · show S.1 + 1 < 48 ∨ 89 ≤ S.1 + 1
    rcases hst with q | q <;> omega
  · by_cases e : b = S.1 + 1
    · subst e
      rw [hM]
      show zrg _ 0
      unfold zrg
      split <;> first | trivial | decide
    · have hk2 : (S.2.1 b).1 < 28 := by have := hk; show (S.2.1 b).1 < 28; rw [show (zn S kd).2.1 b = S.2.1 b from up_ne _ _ e] at this; exact this
      show zrg (zty ((zn S kd).2.1 b).1 k) _
      rw [show (zn S kd).2.1 b = S.2.1 b from up_ne _ _ e]
      exact h.2.2.2.1 b k hk2
  · by_cases e : b = S.1 + 1
    · subst e
      show (up S.2.1 (S.1 + 1) kd (S.1 + 1)).2 < _
      rw [up_eq]; exact hn
    · rw [show (zn S kd).2.1 b = S.2.1 b from up_ne _ _ e] at hb ⊢
      exact h.2.2.2.2 b hb
/-- the places of the constants are passed over -/
theorem zR.jump {g : zG} {M : zM} {S : zS} {H : Heap} (h : zR g M S H) (e : S.1 = 47) : zR g M (89, S.2) H := by
  obtain ⟨h1, h2, ⟨h3, h4, ⟨h5, h6⟩, -⟩, h8, h9⟩ := h
  refine ⟨by rw [h1, e]; rfl, fun a => ⟨(h2 a).1, (h2 a).2⟩, ⟨fun a ha => h3 a ?_, h4, ⟨fun a a0 a1 a2 => h5 a a0 ?_ a2, h6⟩, Or.inr (Nat.le_refl _)⟩, h8, h9⟩
  · have ha : a = 0 ∨ 89 < a := ha
    omega
  · have a1 : a ≤ 89 := a1
    have a2 : ¬ (47 < a ∧ a < 90) := a2
    omega
theorem zA_put {g : zG} {H0 H H1 : Heap} {locs : List Loc} {a k : Nat} (h : va_S (zA g) H0 H locs) (z : H1.size = H.size) (oq : ∀ q : Nat, q ≠ zad g a → H1[q]? = H[q]?) (ha : a ≠ 0 ∧ ¬ zcst a) : va_S (zA g) H0 H1 (locs ++ [⟨zad g a, k⟩]) := h.put z oq (show zb g < zad g a from zad_gt ha.1 ha.2)
