/-! THE JUDGEMENT J: a point of a method, its locals, stack, and the world M, S -/
def w (a : Int) : Int := (zi a).toInt
def wl (a : Int) : Int := (zl a).toInt
theorem w_id {a : Int} (h : inR a) : w a = a := zi_toInt h
theorem wl_id {a : Int} (h : inL a) : wl a = a := zl_toInt h
theorem inR_w (a : Int) : inR (w a) := inR_i _
theorem inL_wl (a : Int) : inL (wl a) := inL_l _
theorem zi_w (a : Int) : zi (w a) = zi a := zi_asI _
theorem zl_wl (a : Int) : zl (wl a) = zl a := zl_asL _
theorem zi_ltw (a b : Int) : zi a < zi b ↔ w a < w b := Int32.lt_iff_toInt_lt
theorem zi_lew (a b : Int) : zi a ≤ zi b ↔ w a ≤ w b := Int32.le_iff_toInt_le
theorem zi_eqw (a b : Int) : zi a = zi b ↔ w a = w b := Int32.toInt_inj.symm
theorem zi_lw (a : Int) : (zi a).toInt64 = zl (w a) := by
  rw [← zi_w a]
  rw [zi_l (inR_w a)]
def zdiv (a b : Int) : Int := (zi a / zi b).toInt
def zrem (a b : Int) : Int := (zi a - zi a / zi b * zi b).toInt
def zushr (a b : Int) : Int := ((zi a).toUInt32 >>> ((zi b).toUInt32 &&& Int32.toUInt32 31)).toInt32.toInt
def zlen (S : zS) (a : Nat) : Int := ((S.2.1 a).2 : Int)
def zkd (S : zS) (a : Nat) : Nat := (S.2.1 a).1
def zrf (S : zS) (a : Nat) (k : Int) : Nat := S.2.2 a k
def zchk {α : Type} (c : Prop) [Decidable c] (x : Option α) : Option α := if c then x else none
theorem zchk_ex {α : Type} {c : Prop} [Decidable c] {x : Option α} {o : α} (h : zchk c x = some o) : c ∧ x = some o := by
  unfold zchk at h
  by_cases hc : c
  · rw [if_pos hc] at h; exact ⟨hc, h⟩
  · rw [if_neg hc] at h; cases h
theorem zt {α : Type} {c : Prop} [Decidable c] {x y : α} {o : α} (hc : c) (h : (if c then x else y) = o) : x = o := by rwa [if_pos hc] at h
theorem zf {α : Type} {c : Prop} [Decidable c] {x y : α} {o : α} (hc : ¬ c) (h : (if c then x else y) = o) : y = o := by rwa [if_neg hc] at h
def zlet {α β : Type} (v : β) (k : β → α) : α := k v
theorem zlet_ex {α β : Type} {v : β} {k : β → α} {o : α} (h : zlet v k = o) : ∃ x : β, x = v ∧ k x = o := ⟨v, rfl, h⟩
def zb1 {α β : Type} (x : Option α) (k : α → Option β) : Option β := match x with | none => none | some a => k a
def zb2 {α γ β : Type} (x : Option (α × γ)) (k : α → γ → Option β) : Option β := match x with | none => none | some a => k a.1 a.2
def zb3 {α γ δ β : Type} (x : Option (α × γ × δ)) (k : α → γ → δ → Option β) : Option β := match x with | none => none | some a => k a.1 a.2.1 a.2.2
theorem zb1_ex {α β : Type} {x : Option α} {k : α → Option β} {o : β} (h : zb1 x k = some o) : ∃ a, x = some a ∧ k a = some o := by
  cases x with
  | none => cases h
  | some a => exact ⟨a, rfl, h⟩
theorem zb2_ex {α γ β : Type} {x : Option (α × γ)} {k : α → γ → Option β} {o : β} (h : zb2 x k = some o) : ∃ a c, x = some (a, c) ∧ k a c = some o := by
  cases x with
  | none => cases h
  | some a => exact ⟨a.1, a.2, rfl, h⟩
theorem zb3_ex {α γ δ β : Type} {x : Option (α × γ × δ)} {k : α → γ → δ → Option β} {o : β} (h : zb3 x k = some o) : ∃ a c d, x = some (a, c, d) ∧ k a c d = some o := by
  cases x with
  | none => cases h
  | some a => exact ⟨a.1, a.2.1, a.2.2, rfl, h⟩
/-- a method that may throw: its answer, or which exception -/
def zbx {α β : Type} (x : Option ((Nat ⊕ α) × zM × zS)) (kx : Nat → zM → zS → Option β) (k : α → zM → zS → Option β) : Option β := match x with
  | none => none
  | some (.inl e, M, S) => kx e M S
  | some (.inr a, M, S) => k a M S
theorem zbx_ex {α β : Type} {x : Option ((Nat ⊕ α) × zM × zS)} {kx : Nat → zM → zS → Option β} {k : α → zM → zS → Option β} {o : β} (h : zbx x kx k = some o) : ∃ r M1 S1, x = some (r, M1, S1) ∧ (∀ e, r = .inl e → kx e M1 S1 = some o) ∧ (∀ a, r = .inr a → k a M1 S1 = some o) := by
  match x, h with
  | none, h => cases h
  | some (.inl e, M, S), h => exact ⟨_, M, S, rfl, (fun e2 q => by cases q; exact h), (fun a q => by cases q)⟩
  | some (.inr a, M, S), h => exact ⟨_, M, S, rfl, (fun e q => by cases q), (fun a2 q => by cases q; exact h)⟩
def zloop {σ ε : Type} (body : σ → Option (σ ⊕ ε)) : Nat → σ → Option ε
  | 0, _ => none
  | n + 1, s => match body s with
    | none => none
    | some (.inl s1) => zloop body n s1
    | some (.inr e) => some e
/-- what a turn of a loop is good for: the loop goes on to the end ex, or it is its end -/
def zAft {σ ε : Type} (body : σ → Option (σ ⊕ ε)) (n : Nat) (ex : ε) (o : σ ⊕ ε) : Prop := match o with
  | .inl s1 => zloop body n s1 = some ex
  | .inr e => e = ex
theorem zloop_ex {σ ε : Type} {body : σ → Option (σ ⊕ ε)} {n : Nat} {s : σ} {ex : ε} (h : zloop body (n + 1) s = some ex) : ∃ o, body s = some o ∧ zAft body n ex o := by
  unfold zloop at h
  cases hb : body s with
  | none => rw [hb] at h; cases h
  | some o =>
    rw [hb] at h
    refine ⟨o, rfl, ?_⟩
    cases o with
    | inl s1 => exact h
    | inr e => exact Option.some.inj h
theorem zloop_0 {σ ε : Type} {body : σ → Option (σ ⊕ ε)} {s : σ} {ex : ε} {P : Prop} (h : zloop body 0 s = some ex) : P := by cases h
def zN : Nat := 1000000
def zFu : Nat := 40
theorem zNw_warm {s U : State} (hW : s.WarmedH U.vm) (h : ∀ w ∈ zTn, va_Nw w s) : ∀ w ∈ zTn, va_Nw w U := by
  intro w hw
  have h1 := h w hw
  have h2 := (List.mem_filter.mp hw).2
  cases w <;> first | (exact va_Nw.warmF hW h1) | (exact va_Nw.warmM hW h1) | (exact va_Nw.warmC hW h1) | (exact va_Nw.warmD hW h1) | (exact va_tabs rfl (rfl : (s.setVm U.vm).vm = U.vm) (by rw [Cond.privateMethod_setVm hW.alike]; exact h1)) | (cases h2)
/-- what the start's heap holds for good: POWERS, the two statics that a throw reads -/
abbrev zSL : List (String × Nat × String) := [("ContextualGrammarLab", 65, "the text buffer is full"), ("ContextualGrammarLab", 82, "the text is no definition text"), ("ContextualGrammarLab", 109, "no place for this axiom"), ("ContextualGrammarLab", 121, "no place for this context"), ("ContextualGrammarLab", 171, "there is no such number"), ("ContextualGrammarLab", 306, "there is no such array"), ("ContextualGrammarLab", 325, "the array holds no ints"), ("ContextualGrammarLab", 337, "there is no snapshot"), ("ContextualGrammarLab", 341, "there is nothing with this number"), ("ContextualGrammarLab", 344, "the length is out of range"), ("ContextualGrammarLab", 354, "the language is too large"), ("ContextualGrammarLab", 357, "the current word is not in the language"), ("ContextualGrammarLab", 359, "there is no such slot"), ("ContextualGrammarLab", 361, "the slot is empty")]
def zpw (k : Nat) : Int32 := nI (3 ^ k)
def zSln : List Nat := [6, 8, 5, 6, 8, 8, 7, 7, 4, 1, 2, 1, 2, 3, 3, 5, 5, 6, 1, 1, 0]
def zSby : List (List Int32) := [[97, 120, 105, 111, 109, 32], [99, 111, 110, 116, 101, 120, 116, 32], [109, 111, 100, 101, 32], [108, 105, 109, 105, 116, 32], [101, 120, 116, 101, 114, 110, 97, 108], [105, 110, 116, 101, 114, 110, 97, 108], [109, 97, 120, 105, 109, 97, 108], [109, 105, 110, 105, 109, 97, 108], [108, 101, 102, 116], [42], [35, 60], [94], [33, 126], [40, 97, 62], [124, 35, 61], [41, 38, 33, 98, 61], [36, 98, 124, 97, 61], [35, 62, 48, 38, 35, 60], [44], [32], []]
abbrev zSR : List (String × Nat × String × Nat) := [("ContextualGrammarLab$DefinitionText", 50, "axiom ", 0), ("ContextualGrammarLab$DefinitionText", 52, "context ", 1), ("ContextualGrammarLab$DefinitionText", 54, "mode ", 2), ("ContextualGrammarLab$DefinitionText", 56, "limit ", 3), ("ContextualGrammarLab$DefinitionText", 58, "external", 4), ("ContextualGrammarLab$DefinitionText", 60, "internal", 5), ("ContextualGrammarLab$DefinitionText", 62, "maximal", 6), ("ContextualGrammarLab$DefinitionText", 64, "minimal", 7), ("ContextualGrammarLab$DefinitionText", 66, "left", 8), ("ContextualGrammarLabLaw", 52, "*", 9), ("ContextualGrammarLabLaw", 54, "#<", 10), ("ContextualGrammarLabLaw", 62, "^", 11), ("ContextualGrammarLabLaw", 68, "!~", 12), ("ContextualGrammarLabLaw", 70, "(a>", 13), ("ContextualGrammarLabLaw", 72, "|#=", 14), ("ContextualGrammarLabLaw", 74, ")&!b=", 15), ("ContextualGrammarLabLaw", 76, "$b|a=", 16), ("ContextualGrammarLabLaw", 78, "#>0&#<", 17), ("ContextualGrammarLabLaw", 80, "external", 4), ("ContextualGrammarLabLaw", 82, "internal", 5), ("ContextualGrammarLabLaw", 84, "maximal", 6), ("ContextualGrammarLabLaw", 86, "minimal", 7), ("ContextualGrammarLabLaw", 88, "left", 8), ("ContextualGrammarLabLaw", 101, "mode ", 2), ("ContextualGrammarLabLaw", 110, "limit ", 3), ("ContextualGrammarLabLaw", 112, "axiom ", 0), ("ContextualGrammarLabLaw", 114, "context ", 1), ("ContextualGrammarLabLaw", 116, ",", 18), ("ContextualGrammarLabLaw", 118, " ", 19), ("ContextualGrammarLabLaw", 144, "", 20)]
def zAI (U : State) : Prop := (Cond.arrayOver (.array .int)).before #[] U = true
theorem zAI.moved {u U : State} (hvm : u.vm.Alike U.vm) (h : zAI u) : zAI U := by
  have h1 : (Cond.arrayOver (.array .int)).before #[] (u.setVm U.vm) = true := by rw [Cond.arrayOver_setVmC hvm]; exact h
  exact h1
abbrev zNcE : List String := ["java/lang/IllegalStateException", "java/lang/IllegalArgumentException", "java/lang/IndexOutOfBoundsException", "java/lang/UnsupportedOperationException", "java/util/NoSuchElementException"]
/-- exceptions that are not caught as others -/
abbrev zNcL : List (String × String) := (zNcE.flatMap fun a => (zNcE.filter fun b => b != a).map fun b => (a, b))
def zO (g : zG) (U : State) : Prop := va_Z "ContextualGrammarLab$Words" "POWERS" "[I" (.ref (zk g 0)) (zA g) U U.heap ∧ va_T .int (zk g 0) 10 (fun j => .int (zpw j)) (zA g) U U.heap ∧ zk g 0 < U.heap.size ∧ zk g 0 ≤ zb g ∧ vx_Zq Bundle.tN "UNASSIGNED_STACK" Bundle.steD (zA g) U U.heap ∧ vx_Zq Bundle.tN "SUPPRESSED_SENTINEL" Bundle.listD (zA g) U U.heap ∧ (∀ x ∈ zSL, ∃ sa, vk_R x.1 x.2.1 x.2.2 sa U) ∧ (∀ C ∈ ["ContextualGrammarLab$Context", "ContextualGrammarLab$Slot"], va_AO C U) ∧ vk_S 21 zSln zSby (fun i => zk g (1 + i)) (zw2 g) (zA g) U U.heap ∧ va_Z "java/lang/String" "COMPACT_STRINGS" "Z" (.int (zi 1)) (zA g) U U.heap ∧ va_Zq "jdk/internal/util/Preconditions" "SIOOBE_FORMATTER" "Ljava/util/function/BiFunction;" (zA g) U U.heap ∧ (∀ x ∈ zSR, vk_R x.1 x.2.1 x.2.2.1 (zk g (1 + x.2.2.2)) U) ∧ zAI U ∧ (∀ x ∈ zNcL, va_Nc x.1 x.2 U) ∧ va_X (zgb g) (zgL g) (zgx g) U U.heap ∧ zgb g < U.heap.size ∧ ¬ zA g (zgb g) ∧ zgL g ≤ 260 ∧ va_Z "java/lang/Integer" "DigitOnes" "[B" (.ref (zk g 22)) (zA g) U U.heap ∧ va_T .byte (zk g 22) 100 (fun j => .int (zi (48 + ((j % 10 : Nat) : Int)))) (zA g) U U.heap
abbrev zK : Type := Program × Launch × Env × Room × State × MethodId × Array Value × List Frame × Method × Code × (State → Prop)
def zJ (K : zK) (g : zG) (nc ns pc nL : Nat) (lv : List (Nat × Value)) (st : List Value) (M : zM) (S : zS) : Prop := match K with
  | (p, l, e, R, s, m, args, below, meth, c, Q) => ∀ (H : Heap) (locs : List Loc) (ls : Array Slot), zR g M S H → va_S (zA g) s.heap H locs → lv_has ls nL lv → W p l e R s m args below meth c H locs nc ns Q (F0 m pc ls st)
def zC (K : zK) (l0 : Launch) (g : zG) (cc : ByteArray) (nL : Nat) (own : String) : Prop := match K with
  | (p, l, e, R, s, m, args, below, meth, c, Q) => l = l0 ∧ p.tables.exec = Jvm.exec ∧ c.code = cc ∧ c.maxLocals = nL ∧ s.vm.findClass own = some m.cls ∧ (∀ w ∈ zTs, w.before args s = true) ∧ zT g s ∧ zO g s ∧ (∀ w ∈ zTn, va_Nw w s) ∧ meth.locks = false ∧ l.stackTraces = false
theorem zr_cat (g : zG) (q : Nat) : (zr g q).category = 1 := by unfold zr; split <;> rfl
theorem bi_ok {n : Int} (h : (decide (-128 ≤ n) && decide (n < 128)) = true) : (Int8.ofInt n).toInt32 = zi n := by
  simp only [Bool.and_eq_true, decide_eq_true_eq] at h
  rw [← Int32.toInt_inj, Int8.toInt_toInt32, Int8.toInt_ofInt_of_le h.1 (by have := h.2; omega), zi_toInt ⟨by omega, by omega⟩]
theorem si_ok {n : Int} (h : (decide (-32768 ≤ n) && decide (n < 32768)) = true) : (Int16.ofInt n).toInt32 = zi n := by
  simp only [Bool.and_eq_true, decide_eq_true_eq] at h
  rw [← Int32.toInt_inj, Int16.toInt_toInt32, Int16.toInt_ofInt_of_le h.1 (by have := h.2; omega), zi_toInt ⟨by omega, by omega⟩]
section ZJ
variable {K : zK} {l0 : Launch} {g : zG} {cc : ByteArray} {nL nc ns pc : Nat} {own : String} {lv lv1 : List (Nat × Value)} {rest : List Value} {M : zM} {S : zS}
theorem j_iconst (hC : zC K l0 g cc nL own) {n : Int} (hd : decode cc pc = .ok (.iconst n, 1)) (k : zJ K g nc ns (pc + 1) nL lv (.int (zi n) :: rest) M S) : zJ K g nc ns pc nL lv rest M S := by
  obtain ⟨p, l, e, R, s, m, args, below, meth, c, Q⟩ := K
  obtain ⟨rfl, hx, hb, hml, hown, hts, hT, hO, hNw, hlk, htr⟩ := hC
  exact fun H locs ls hR hS hl => lv_iconst hx hb hd rfl (k H locs ls hR hS hl)
theorem j_bipush (hC : zC K l0 g cc nL own) {n : Int} (hd : decode cc pc = .ok (.bipush n, 2)) (hn : (decide (-128 ≤ n) && decide (n < 128)) = true) (k : zJ K g nc ns (pc + 2) nL lv (.int (zi n) :: rest) M S) : zJ K g nc ns pc nL lv rest M S := by
  obtain ⟨p, l, e, R, s, m, args, below, meth, c, Q⟩ := K
  obtain ⟨rfl, hx, hb, hml, hown, hts, hT, hO, hNw, hlk, htr⟩ := hC
  exact fun H locs ls hR hS hl => lv_bipush hx hb hd (bi_ok hn) (k H locs ls hR hS hl)
theorem j_sipush (hC : zC K l0 g cc nL own) {n : Int} (hd : decode cc pc = .ok (.sipush n, 3)) (hn : (decide (-32768 ≤ n) && decide (n < 32768)) = true) (k : zJ K g nc ns (pc + 3) nL lv (.int (zi n) :: rest) M S) : zJ K g nc ns pc nL lv rest M S := by
  obtain ⟨p, l, e, R, s, m, args, below, meth, c, Q⟩ := K
  obtain ⟨rfl, hx, hb, hml, hown, hts, hT, hO, hNw, hlk, htr⟩ := hC
  exact fun H locs ls hR hS hl => lv_sipush hx hb hd (si_ok hn) (k H locs ls hR hS hl)
theorem j_ldc (hC : zC K l0 g cc nL own) {n : Int} {ix : Nat} {v : Int32} (hd : decode cc pc = .ok (.ldc ix, 2)) (hw : Cond.constant own ix v ∈ zTs) (hv : zi n = v) (k : zJ K g nc ns (pc + 2) nL lv (.int (zi n) :: rest) M S) : zJ K g nc ns pc nL lv rest M S := by
  obtain ⟨p, l, e, R, s, m, args, below, meth, c, Q⟩ := K
  obtain ⟨rfl, hx, hb, hml, hown, hts, hT, hO, hNw, hlk, htr⟩ := hC
  exact fun H locs ls hR hS hl => lv_ldc hx hb hown (hts _ hw) hd (by subst hv; exact (k H locs ls hR hS hl))
theorem j_ldcw (hC : zC K l0 g cc nL own) {n : Int} {ix : Nat} {v : Int32} (hd : decode cc pc = .ok (.ldc_w ix, 3)) (hw : Cond.constant own ix v ∈ zTs) (hv : zi n = v) (k : zJ K g nc ns (pc + 3) nL lv (.int (zi n) :: rest) M S) : zJ K g nc ns pc nL lv rest M S := by
  obtain ⟨p, l, e, R, s, m, args, below, meth, c, Q⟩ := K
  obtain ⟨rfl, hx, hb, hml, hown, hts, hT, hO, hNw, hlk, htr⟩ := hC
  exact fun H locs ls hR hS hl => lv_ldcw hx hb hown (hts _ hw) hd (by subst hv; exact (k H locs ls hR hS hl))
theorem j_lconst (hC : zC K l0 g cc nL own) {n : Fin 2} {z : Int} (hd : decode cc pc = .ok (.lconst n, 1)) (hv : Int64.ofNat (n : Nat) = zl z) (k : zJ K g nc ns (pc + 1) nL lv (.long (zl z) :: rest) M S) : zJ K g nc ns pc nL lv rest M S := by
  obtain ⟨p, l, e, R, s, m, args, below, meth, c, Q⟩ := K
  obtain ⟨rfl, hx, hb, hml, hown, hts, hT, hO, hNw, hlk, htr⟩ := hC
  exact fun H locs ls hR hS hl => lv_lconst hx hb hd hv (k H locs ls hR hS hl)
theorem j_ldc2 (hC : zC K l0 g cc nL own) {n : Int} {ix : Nat} {v : Int64} (hd : decode cc pc = .ok (.ldc2_w ix, 3)) (hw : Cond.constantLong own ix v ∈ zTs) (hv : zl n = v) (k : zJ K g nc ns (pc + 3) nL lv (.long (zl n) :: rest) M S) : zJ K g nc ns pc nL lv rest M S := by
  obtain ⟨p, l, e, R, s, m, args, below, meth, c, Q⟩ := K
  obtain ⟨rfl, hx, hb, hml, hown, hts, hT, hO, hNw, hlk, htr⟩ := hC
  exact fun H locs ls hR hS hl => lv_ldc2 hx hb hown (hts _ hw) hd (by subst hv; exact (k H locs ls hR hS hl))
theorem j_null (hC : zC K l0 g cc nL own) (hd : decode cc pc = .ok (.aconst_null, 1)) (k : zJ K g nc ns (pc + 1) nL lv (zr g 0 :: rest) M S) : zJ K g nc ns pc nL lv rest M S := by
  obtain ⟨p, l, e, R, s, m, args, below, meth, c, Q⟩ := K
  obtain ⟨rfl, hx, hb, hml, hown, hts, hT, hO, hNw, hlk, htr⟩ := hC
  exact fun H locs ls hR hS hl => lv_null hx hb hd (k H locs ls hR hS hl)
theorem j_dconst0 (hC : zC K l0 g cc nL own) (hd : decode cc pc = .ok (.dconst 0, 1)) (k : zJ K g nc ns (pc + 1) nL lv (.double 0 :: rest) M S) : zJ K g nc ns pc nL lv rest M S := by
  obtain ⟨p, l, e, R, s, m, args, below, meth, c, Q⟩ := K
  obtain ⟨rfl, hx, hb, hml, hown, hts, hT, hO, hNw, hlk, htr⟩ := hC
  exact fun H locs ls hR hS hl => lv_dconst0 hx hb hd (k H locs ls hR hS hl)
theorem j_iload_n (hC : zC K l0 g cc nL own) {k0 : Fin 4} {i : Nat} {x : Int32} (j : Nat) (hd : decode cc pc = .ok (.iload_n k0, 1)) (hi : (k0 : Nat) = i) (hj : lv[j]? = some (i, .int x)) (k : zJ K g nc ns (pc + 1) nL lv (.int x :: rest) M S) : zJ K g nc ns pc nL lv rest M S := by
  obtain ⟨p, l, e, R, s, m, args, below, meth, c, Q⟩ := K
  obtain ⟨rfl, hx, hb, hml, hown, hts, hT, hO, hNw, hlk, htr⟩ := hC
  exact fun H locs ls hR hS hl => lv_iload_n hx hb hd hi (lv_at hl j hj) (k H locs ls hR hS hl)
theorem j_iload (hC : zC K l0 g cc nL own) {i : Nat} {x : Int32} (j : Nat) (hd : decode cc pc = .ok (.iload i, 2)) (hj : lv[j]? = some (i, .int x)) (k : zJ K g nc ns (pc + 2) nL lv (.int x :: rest) M S) : zJ K g nc ns pc nL lv rest M S := by
  obtain ⟨p, l, e, R, s, m, args, below, meth, c, Q⟩ := K
  obtain ⟨rfl, hx, hb, hml, hown, hts, hT, hO, hNw, hlk, htr⟩ := hC
  exact fun H locs ls hR hS hl => lv_iload hx hb hd (lv_at hl j hj) (k H locs ls hR hS hl)
theorem j_lload_n (hC : zC K l0 g cc nL own) {k0 : Fin 4} {i : Nat} {x : Int64} (j : Nat) (hd : decode cc pc = .ok (.lload_n k0, 1)) (hi : (k0 : Nat) = i) (hj : lv[j]? = some (i, .long x)) (k : zJ K g nc ns (pc + 1) nL lv (.long x :: rest) M S) : zJ K g nc ns pc nL lv rest M S := by
  obtain ⟨p, l, e, R, s, m, args, below, meth, c, Q⟩ := K
  obtain ⟨rfl, hx, hb, hml, hown, hts, hT, hO, hNw, hlk, htr⟩ := hC
  exact fun H locs ls hR hS hl => lv_lload_n hx hb hd hi (lv_at hl j hj) (k H locs ls hR hS hl)
theorem j_lload (hC : zC K l0 g cc nL own) {i : Nat} {x : Int64} (j : Nat) (hd : decode cc pc = .ok (.lload i, 2)) (hj : lv[j]? = some (i, .long x)) (k : zJ K g nc ns (pc + 2) nL lv (.long x :: rest) M S) : zJ K g nc ns pc nL lv rest M S := by
  obtain ⟨p, l, e, R, s, m, args, below, meth, c, Q⟩ := K
  obtain ⟨rfl, hx, hb, hml, hown, hts, hT, hO, hNw, hlk, htr⟩ := hC
  exact fun H locs ls hR hS hl => lv_lload hx hb hd (lv_at hl j hj) (k H locs ls hR hS hl)
theorem j_dload (hC : zC K l0 g cc nL own) {i : Nat} {x : UInt64} (j : Nat) (hd : decode cc pc = .ok (.dload i, 2)) (hj : lv[j]? = some (i, .double x)) (k : zJ K g nc ns (pc + 2) nL lv (.double x :: rest) M S) : zJ K g nc ns pc nL lv rest M S := by
  obtain ⟨p, l, e, R, s, m, args, below, meth, c, Q⟩ := K
  obtain ⟨rfl, hx, hb, hml, hown, hts, hT, hO, hNw, hlk, htr⟩ := hC
  exact fun H locs ls hR hS hl => lv_dload hx hb hd (lv_at hl j hj) (k H locs ls hR hS hl)
theorem j_dload_n (hC : zC K l0 g cc nL own) {k0 : Fin 4} {i : Nat} {x : UInt64} (j : Nat) (hd : decode cc pc = .ok (.dload_n k0, 1)) (hi : (k0 : Nat) = i) (hj : lv[j]? = some (i, .double x)) (k : zJ K g nc ns (pc + 1) nL lv (.double x :: rest) M S) : zJ K g nc ns pc nL lv rest M S := by
  obtain ⟨p, l, e, R, s, m, args, below, meth, c, Q⟩ := K
  obtain ⟨rfl, hx, hb, hml, hown, hts, hT, hO, hNw, hlk, htr⟩ := hC
  exact fun H locs ls hR hS hl => lv_dload_n hx hb hd hi (lv_at hl j hj) (k H locs ls hR hS hl)
theorem j_sload_n (hC : zC K l0 g cc nL own) {k0 : Fin 4} {i x : Nat} (j : Nat) (hd : decode cc pc = .ok (.aload_n k0, 1)) (hi : (k0 : Nat) = i) (hj : lv[j]? = some (i, .ref x)) (k : zJ K g nc ns (pc + 1) nL lv (.ref x :: rest) M S) : zJ K g nc ns pc nL lv rest M S := by
  obtain ⟨p, l, e, R, s, m, args, below, meth, c, Q⟩ := K
  obtain ⟨rfl, hx, hb, hml, hown, hts, hT, hO, hNw, hlk, htr⟩ := hC
  exact fun H locs ls hR hS hl => lv_aload_n hx hb hd hi (lv_at hl j hj) (k H locs ls hR hS hl)
theorem j_sload (hC : zC K l0 g cc nL own) {i x : Nat} (j : Nat) (hd : decode cc pc = .ok (.aload i, 2)) (hj : lv[j]? = some (i, .ref x)) (k : zJ K g nc ns (pc + 2) nL lv (.ref x :: rest) M S) : zJ K g nc ns pc nL lv rest M S := by
  obtain ⟨p, l, e, R, s, m, args, below, meth, c, Q⟩ := K
  obtain ⟨rfl, hx, hb, hml, hown, hts, hT, hO, hNw, hlk, htr⟩ := hC
  exact fun H locs ls hR hS hl => lv_aload hx hb hd (lv_at hl j hj) (k H locs ls hR hS hl)
theorem j_aload_n (hC : zC K l0 g cc nL own) {k0 : Fin 4} {i q : Nat} (j : Nat) (hd : decode cc pc = .ok (.aload_n k0, 1)) (hi : (k0 : Nat) = i) (hj : lv[j]? = some (i, zr g q)) (k : zJ K g nc ns (pc + 1) nL lv (zr g q :: rest) M S) : zJ K g nc ns pc nL lv rest M S := by
  obtain ⟨p, l, e, R, s, m, args, below, meth, c, Q⟩ := K
  obtain ⟨rfl, hx, hb, hml, hown, hts, hT, hO, hNw, hlk, htr⟩ := hC
  intro H locs ls hR hS hl
  by_cases q0 : q = 0
  · subst q0
    exact lv_aload_nN hx hb hd hi (lv_at hl j hj) (k H locs ls hR hS hl)
  · have e : zr g q = .ref (zad g q) := if_neg q0
    have k9 := k H locs ls hR hS hl
    rw [e] at hj k9
    exact lv_aload_n hx hb hd hi (lv_at hl j hj) k9
theorem j_aload (hC : zC K l0 g cc nL own) {i q : Nat} (j : Nat) (hd : decode cc pc = .ok (.aload i, 2)) (hj : lv[j]? = some (i, zr g q)) (k : zJ K g nc ns (pc + 2) nL lv (zr g q :: rest) M S) : zJ K g nc ns pc nL lv rest M S := by
  obtain ⟨p, l, e, R, s, m, args, below, meth, c, Q⟩ := K
  obtain ⟨rfl, hx, hb, hml, hown, hts, hT, hO, hNw, hlk, htr⟩ := hC
  intro H locs ls hR hS hl
  by_cases q0 : q = 0
  · subst q0
    exact lv_aloadN hx hb hd (lv_at hl j hj) (k H locs ls hR hS hl)
  · have e : zr g q = .ref (zad g q) := if_neg q0
    have k9 := k H locs ls hR hS hl
    rw [e] at hj k9
    exact lv_aload hx hb hd (lv_at hl j hj) k9
theorem j_istore_n (hC : zC K l0 g cc nL own) {k0 : Fin 4} {i : Nat} {x : Int32} (hd : decode cc pc = .ok (.istore_n k0, 1)) (hi : (k0 : Nat) = i) (hn : i < nL) (hf : (i, Value.int x) :: lv.filter (fun q => !(q.1 == i) && !(q.1 + 1 == i && q.2.category == 2)) = lv1) (k : zJ K g nc ns (pc + 1) nL lv1 rest M S) : zJ K g nc ns pc nL lv (.int x :: rest) M S := by
  obtain ⟨p, l, e, R, s, m, args, below, meth, c, Q⟩ := K
  obtain ⟨rfl, hx, hb, hml, hown, hts, hT, hO, hNw, hlk, htr⟩ := hC
  exact fun H locs ls hR hS hl => lv_istore_n hx hb hd hi hl hn hf (fun ls hl => k H locs ls hR hS hl)
theorem j_istore (hC : zC K l0 g cc nL own) {i : Nat} {x : Int32} (hd : decode cc pc = .ok (.istore i, 2)) (hn : i < nL) (hf : (i, Value.int x) :: lv.filter (fun q => !(q.1 == i) && !(q.1 + 1 == i && q.2.category == 2)) = lv1) (k : zJ K g nc ns (pc + 2) nL lv1 rest M S) : zJ K g nc ns pc nL lv (.int x :: rest) M S := by
  obtain ⟨p, l, e, R, s, m, args, below, meth, c, Q⟩ := K
  obtain ⟨rfl, hx, hb, hml, hown, hts, hT, hO, hNw, hlk, htr⟩ := hC
  exact fun H locs ls hR hS hl => lv_istore hx hb hd hl hn hf (fun ls hl => k H locs ls hR hS hl)
theorem j_lstore_n (hC : zC K l0 g cc nL own) {k0 : Fin 4} {i : Nat} {x : Int64} (hd : decode cc pc = .ok (.lstore_n k0, 1)) (hi : (k0 : Nat) = i) (hn : i + 1 < nL) (hf : (i, Value.long x) :: lv.filter (fun q => !(q.1 == i) && (!(q.1 == i + 1) && !(q.1 + 1 == i && q.2.category == 2))) = lv1) (k : zJ K g nc ns (pc + 1) nL lv1 rest M S) : zJ K g nc ns pc nL lv (.long x :: rest) M S := by
  obtain ⟨p, l, e, R, s, m, args, below, meth, c, Q⟩ := K
  obtain ⟨rfl, hx, hb, hml, hown, hts, hT, hO, hNw, hlk, htr⟩ := hC
  exact fun H locs ls hR hS hl => lv_lstore_n hx hb hd hi hl hn hf (fun ls hl => k H locs ls hR hS hl)
theorem j_lstore (hC : zC K l0 g cc nL own) {i : Nat} {x : Int64} (hd : decode cc pc = .ok (.lstore i, 2)) (hn : i + 1 < nL) (hf : (i, Value.long x) :: lv.filter (fun q => !(q.1 == i) && (!(q.1 == i + 1) && !(q.1 + 1 == i && q.2.category == 2))) = lv1) (k : zJ K g nc ns (pc + 2) nL lv1 rest M S) : zJ K g nc ns pc nL lv (.long x :: rest) M S := by
  obtain ⟨p, l, e, R, s, m, args, below, meth, c, Q⟩ := K
  obtain ⟨rfl, hx, hb, hml, hown, hts, hT, hO, hNw, hlk, htr⟩ := hC
  exact fun H locs ls hR hS hl => lv_lstore hx hb hd hl hn hf (fun ls hl => k H locs ls hR hS hl)
theorem j_dstore (hC : zC K l0 g cc nL own) {i : Nat} {x : UInt64} (hd : decode cc pc = .ok (.dstore i, 2)) (hn : i + 1 < nL) (hf : (i, Value.double x) :: lv.filter (fun q => !(q.1 == i) && (!(q.1 == i + 1) && !(q.1 + 1 == i && q.2.category == 2))) = lv1) (k : zJ K g nc ns (pc + 2) nL lv1 rest M S) : zJ K g nc ns pc nL lv (.double x :: rest) M S := by
  obtain ⟨p, l, e, R, s, m, args, below, meth, c, Q⟩ := K
  obtain ⟨rfl, hx, hb, hml, hown, hts, hT, hO, hNw, hlk, htr⟩ := hC
  exact fun H locs ls hR hS hl => lv_dstore hx hb hd hl hn hf (fun ls hl => k H locs ls hR hS hl)
theorem j_sstore_n (hC : zC K l0 g cc nL own) {k0 : Fin 4} {i x : Nat} (hd : decode cc pc = .ok (.astore_n k0, 1)) (hi : (k0 : Nat) = i) (hn : i < nL) (hf : (i, Value.ref x) :: lv.filter (fun q => !(q.1 == i) && !(q.1 + 1 == i && q.2.category == 2)) = lv1) (k : zJ K g nc ns (pc + 1) nL lv1 rest M S) : zJ K g nc ns pc nL lv (.ref x :: rest) M S := by
  obtain ⟨p, l, e, R, s, m, args, below, meth, c, Q⟩ := K
  obtain ⟨rfl, hx, hb, hml, hown, hts, hT, hO, hNw, hlk, htr⟩ := hC
  exact fun H locs ls hR hS hl => lv_astore_n hx hb hd hi hl hn hf (fun ls hl => k H locs ls hR hS hl)
theorem j_sstore (hC : zC K l0 g cc nL own) {i x : Nat} (hd : decode cc pc = .ok (.astore i, 2)) (hn : i < nL) (hf : (i, Value.ref x) :: lv.filter (fun q => !(q.1 == i) && !(q.1 + 1 == i && q.2.category == 2)) = lv1) (k : zJ K g nc ns (pc + 2) nL lv1 rest M S) : zJ K g nc ns pc nL lv (.ref x :: rest) M S := by
  obtain ⟨p, l, e, R, s, m, args, below, meth, c, Q⟩ := K
  obtain ⟨rfl, hx, hb, hml, hown, hts, hT, hO, hNw, hlk, htr⟩ := hC
  exact fun H locs ls hR hS hl => lv_astore hx hb hd hl hn hf (fun ls hl => k H locs ls hR hS hl)
theorem j_astore_n (hC : zC K l0 g cc nL own) {k0 : Fin 4} {i q : Nat} (hd : decode cc pc = .ok (.astore_n k0, 1)) (hi : (k0 : Nat) = i) (hn : i < nL) (hf : (i, zr g q) :: lv.filter (fun q => !(q.1 == i) && !(q.1 + 1 == i && q.2.category == 2)) = lv1) (k : zJ K g nc ns (pc + 1) nL lv1 rest M S) : zJ K g nc ns pc nL lv (zr g q :: rest) M S := by
  obtain ⟨p, l, e, R, s, m, args, below, meth, c, Q⟩ := K
  obtain ⟨rfl, hx, hb, hml, hown, hts, hT, hO, hNw, hlk, htr⟩ := hC
  intro H locs ls hR hS hl
  by_cases q0 : q = 0
  · subst q0
    exact lv_astore_nN hx hb hd hi hl hn hf (fun ls hl => k H locs ls hR hS hl)
  · have e : zr g q = .ref (zad g q) := if_neg q0
    rw [e] at hf ⊢
    exact lv_astore_n hx hb hd hi hl hn hf (fun ls hl => k H locs ls hR hS hl)
theorem j_astore (hC : zC K l0 g cc nL own) {i q : Nat} (hd : decode cc pc = .ok (.astore i, 2)) (hn : i < nL) (hf : (i, zr g q) :: lv.filter (fun q => !(q.1 == i) && !(q.1 + 1 == i && q.2.category == 2)) = lv1) (k : zJ K g nc ns (pc + 2) nL lv1 rest M S) : zJ K g nc ns pc nL lv (zr g q :: rest) M S := by
  obtain ⟨p, l, e, R, s, m, args, below, meth, c, Q⟩ := K
  obtain ⟨rfl, hx, hb, hml, hown, hts, hT, hO, hNw, hlk, htr⟩ := hC
  intro H locs ls hR hS hl
  by_cases q0 : q = 0
  · subst q0
    exact lv_astoreN hx hb hd hl hn hf (fun ls hl => k H locs ls hR hS hl)
  · have e : zr g q = .ref (zad g q) := if_neg q0
    rw [e] at hf ⊢
    exact lv_astore hx hb hd hl hn hf (fun ls hl => k H locs ls hR hS hl)
theorem j_iinc (hC : zC K l0 g cc nL own) {i : Nat} {n a v : Int} (j : Nat) (hd : decode cc pc = .ok (.iinc i n, 3)) (hj : lv[j]? = some (i, .int (zi a))) (hv : v = w (a + n)) (hn : i < nL) (hf : (i, Value.int (zi v)) :: lv.filter (fun q => !(q.1 == i) && !(q.1 + 1 == i && q.2.category == 2)) = lv1) (k : zJ K g nc ns (pc + 3) nL lv1 rest M S) : zJ K g nc ns pc nL lv rest M S := by
  obtain ⟨p, l, e, R, s, m, args, below, meth, c, Q⟩ := K
  obtain ⟨rfl, hx, hb, hml, hown, hts, hT, hO, hNw, hlk, htr⟩ := hC
  exact fun H locs ls hR hS hl => lv_iinc hx hb hd hl hj (by rw [hv, zi_w]; exact zi_add a n) hn hf (fun ls hl => k H locs ls hR hS hl)
theorem j_namei {a x : Int} (e : x = w a) (k : zJ K g nc ns pc nL lv (.int (zi x) :: rest) M S) : zJ K g nc ns pc nL lv (.int (zi a) :: rest) M S := by
  rw [e, zi_w] at k; exact k
theorem j_namel {a x : Int} (e : x = wl a) (k : zJ K g nc ns pc nL lv (.long (zl x) :: rest) M S) : zJ K g nc ns pc nL lv (.long (zl a) :: rest) M S := by
  rw [e, zl_wl] at k; exact k
theorem j_widen {k n : Nat} (h1 : nc ≤ k) (h2 : ns ≤ n) (kk : zJ K g k n pc nL lv rest M S) : zJ K g nc ns pc nL lv rest M S := by
  obtain ⟨p, l, e, R, s, m, args, below, meth, c, Q⟩ := K
  exact fun H locs ls hR hS hl => W.widen h1 h2 (kk H locs ls hR hS hl)
theorem j_sub {lv2 : List (Nat × Value)} (ks : List Nat) (hp : lv_pick lv ks = lv2) (kk : zJ K g nc ns pc nL lv2 rest M S) : zJ K g nc ns pc nL lv rest M S := by
  obtain ⟨p, l, e, R, s, m, args, below, meth, c, Q⟩ := K
  exact fun H locs ls hR hS hl => kk H locs ls hR hS (lv_sub hl ks hp)
theorem j_iadd (hC : zC K l0 g cc nL own) {a b : Int} (hd : decode cc pc = .ok (.iadd, 1)) (k : zJ K g nc ns (pc + 1) nL lv (.int (zi (a + b)) :: rest) M S) : zJ K g nc ns pc nL lv (.int (zi b) :: .int (zi a) :: rest) M S := by
  obtain ⟨p, l, e, R, s, m, args, below, meth, c, Q⟩ := K
  obtain ⟨rfl, hx, hb, hml, hown, hts, hT, hO, hNw, hlk, htr⟩ := hC
  exact fun H locs ls hR hS hl => z_iadd hx hb hd (k H locs ls hR hS hl)
theorem j_isub (hC : zC K l0 g cc nL own) {a b : Int} (hd : decode cc pc = .ok (.isub, 1)) (k : zJ K g nc ns (pc + 1) nL lv (.int (zi (a - b)) :: rest) M S) : zJ K g nc ns pc nL lv (.int (zi b) :: .int (zi a) :: rest) M S := by
  obtain ⟨p, l, e, R, s, m, args, below, meth, c, Q⟩ := K
  obtain ⟨rfl, hx, hb, hml, hown, hts, hT, hO, hNw, hlk, htr⟩ := hC
  exact fun H locs ls hR hS hl => z_isub hx hb hd (k H locs ls hR hS hl)
theorem j_imul (hC : zC K l0 g cc nL own) {a b : Int} (hd : decode cc pc = .ok (.imul, 1)) (k : zJ K g nc ns (pc + 1) nL lv (.int (zi (a * b)) :: rest) M S) : zJ K g nc ns pc nL lv (.int (zi b) :: .int (zi a) :: rest) M S := by
  obtain ⟨p, l, e, R, s, m, args, below, meth, c, Q⟩ := K
  obtain ⟨rfl, hx, hb, hml, hown, hts, hT, hO, hNw, hlk, htr⟩ := hC
  exact fun H locs ls hR hS hl => z_imul hx hb hd (k H locs ls hR hS hl)
theorem j_iand (hC : zC K l0 g cc nL own) {a b : Int} (hd : decode cc pc = .ok (.iand, 1)) (k : zJ K g nc ns (pc + 1) nL lv (.int (zi (zand a b)) :: rest) M S) : zJ K g nc ns pc nL lv (.int (zi b) :: .int (zi a) :: rest) M S := by
  obtain ⟨p, l, e, R, s, m, args, below, meth, c, Q⟩ := K
  obtain ⟨rfl, hx, hb, hml, hown, hts, hT, hO, hNw, hlk, htr⟩ := hC
  exact fun H locs ls hR hS hl => z_iand hx hb hd (k H locs ls hR hS hl)
theorem j_ior (hC : zC K l0 g cc nL own) {a b : Int} (hd : decode cc pc = .ok (.ior, 1)) (k : zJ K g nc ns (pc + 1) nL lv (.int (zi (zor a b)) :: rest) M S) : zJ K g nc ns pc nL lv (.int (zi b) :: .int (zi a) :: rest) M S := by
  obtain ⟨p, l, e, R, s, m, args, below, meth, c, Q⟩ := K
  obtain ⟨rfl, hx, hb, hml, hown, hts, hT, hO, hNw, hlk, htr⟩ := hC
  exact fun H locs ls hR hS hl => z_ior hx hb hd (k H locs ls hR hS hl)
theorem j_ixor (hC : zC K l0 g cc nL own) {a b : Int} (hd : decode cc pc = .ok (.ixor, 1)) (k : zJ K g nc ns (pc + 1) nL lv (.int (zi (zxor a b)) :: rest) M S) : zJ K g nc ns pc nL lv (.int (zi b) :: .int (zi a) :: rest) M S := by
  obtain ⟨p, l, e, R, s, m, args, below, meth, c, Q⟩ := K
  obtain ⟨rfl, hx, hb, hml, hown, hts, hT, hO, hNw, hlk, htr⟩ := hC
  exact fun H locs ls hR hS hl => z_ixor hx hb hd (k H locs ls hR hS hl)
theorem j_ishl (hC : zC K l0 g cc nL own) {a b : Int} (hd : decode cc pc = .ok (.ishl, 1)) (k : zJ K g nc ns (pc + 1) nL lv (.int (zi (zshl a b)) :: rest) M S) : zJ K g nc ns pc nL lv (.int (zi b) :: .int (zi a) :: rest) M S := by
  obtain ⟨p, l, e, R, s, m, args, below, meth, c, Q⟩ := K
  obtain ⟨rfl, hx, hb, hml, hown, hts, hT, hO, hNw, hlk, htr⟩ := hC
  exact fun H locs ls hR hS hl => z_ishl hx hb hd (k H locs ls hR hS hl)
theorem j_ishr (hC : zC K l0 g cc nL own) {a b : Int} (hd : decode cc pc = .ok (.ishr, 1)) (k : zJ K g nc ns (pc + 1) nL lv (.int (zi (zshr a b)) :: rest) M S) : zJ K g nc ns pc nL lv (.int (zi b) :: .int (zi a) :: rest) M S := by
  obtain ⟨p, l, e, R, s, m, args, below, meth, c, Q⟩ := K
  obtain ⟨rfl, hx, hb, hml, hown, hts, hT, hO, hNw, hlk, htr⟩ := hC
  exact fun H locs ls hR hS hl => z_ishr hx hb hd (k H locs ls hR hS hl)
theorem j_iushr (hC : zC K l0 g cc nL own) {a b : Int} (hd : decode cc pc = .ok (.iushr, 1)) (k : zJ K g nc ns (pc + 1) nL lv (.int (zi (zushr a b)) :: rest) M S) : zJ K g nc ns pc nL lv (.int (zi b) :: .int (zi a) :: rest) M S := by
  obtain ⟨p, l, e, R, s, m, args, below, meth, c, Q⟩ := K
  obtain ⟨rfl, hx, hb, hml, hown, hts, hT, hO, hNw, hlk, htr⟩ := hC
  exact fun H locs ls hR hS hl => lv_iushr hx hb hd (zi_asI _).symm (k H locs ls hR hS hl)
theorem j_idiv (hC : zC K l0 g cc nL own) {a b b1 : Int} (hd : decode cc pc = .ok (.idiv, 1)) (hb2 : w b = b1) (h0 : ¬ b1 = 0) (k : zJ K g nc ns (pc + 1) nL lv (.int (zi (zdiv a b)) :: rest) M S) : zJ K g nc ns pc nL lv (.int (zi b) :: .int (zi a) :: rest) M S := by
  obtain ⟨p, l, e, R, s, m, args, below, meth, c, Q⟩ := K
  obtain ⟨rfl, hx, hb, hml, hown, hts, hT, hO, hNw, hlk, htr⟩ := hC
  exact fun H locs ls hR hS hl => lv_idiv hx hb hd (fun q => h0 (by rw [zi_0] at q; rw [← hb2]; exact ((zi_eqw _ _).mp q).trans (by decide))) (by have k9 := k H locs ls hR hS hl; unfold zdiv at k9; rw [zi_asI] at k9; exact k9)
theorem j_irem (hC : zC K l0 g cc nL own) {a b b1 : Int} (hd : decode cc pc = .ok (.irem, 1)) (hb2 : w b = b1) (h0 : ¬ b1 = 0) (k : zJ K g nc ns (pc + 1) nL lv (.int (zi (zrem a b)) :: rest) M S) : zJ K g nc ns pc nL lv (.int (zi b) :: .int (zi a) :: rest) M S := by
  obtain ⟨p, l, e, R, s, m, args, below, meth, c, Q⟩ := K
  obtain ⟨rfl, hx, hb, hml, hown, hts, hT, hO, hNw, hlk, htr⟩ := hC
  exact fun H locs ls hR hS hl => lv_irem hx hb hd (fun q => h0 (by rw [zi_0] at q; rw [← hb2]; exact ((zi_eqw _ _).mp q).trans (by decide))) (by have k9 := k H locs ls hR hS hl; unfold zrem at k9; rw [zi_asI] at k9; exact k9)
theorem j_i2b (hC : zC K l0 g cc nL own) {a : Int} (hd : decode cc pc = .ok (.i2b, 1)) (k : zJ K g nc ns (pc + 1) nL lv (.int (zi (zi2b a)) :: rest) M S) : zJ K g nc ns pc nL lv (.int (zi a) :: rest) M S := by
  obtain ⟨p, l, e, R, s, m, args, below, meth, c, Q⟩ := K
  obtain ⟨rfl, hx, hb, hml, hown, hts, hT, hO, hNw, hlk, htr⟩ := hC
  exact fun H locs ls hR hS hl => lv_i2b hx hb hd (zi_asI _).symm (k H locs ls hR hS hl)
theorem j_i2s (hC : zC K l0 g cc nL own) {a : Int} (hd : decode cc pc = .ok (.i2s, 1)) (k : zJ K g nc ns (pc + 1) nL lv (.int (zi (zi2s a)) :: rest) M S) : zJ K g nc ns pc nL lv (.int (zi a) :: rest) M S := by
  obtain ⟨p, l, e, R, s, m, args, below, meth, c, Q⟩ := K
  obtain ⟨rfl, hx, hb, hml, hown, hts, hT, hO, hNw, hlk, htr⟩ := hC
  exact fun H locs ls hR hS hl => lv_i2s hx hb hd (zi_asI _).symm (k H locs ls hR hS hl)
theorem j_i2c (hC : zC K l0 g cc nL own) {a : Int} (hd : decode cc pc = .ok (.i2c, 1)) (k : zJ K g nc ns (pc + 1) nL lv (.int (zi (zi2c a)) :: rest) M S) : zJ K g nc ns pc nL lv (.int (zi a) :: rest) M S := by
  obtain ⟨p, l, e, R, s, m, args, below, meth, c, Q⟩ := K
  obtain ⟨rfl, hx, hb, hml, hown, hts, hT, hO, hNw, hlk, htr⟩ := hC
  exact fun H locs ls hR hS hl => lv_i2c hx hb hd (zi_asI _).symm (k H locs ls hR hS hl)
theorem j_i2l (hC : zC K l0 g cc nL own) {a a1 : Int} (hd : decode cc pc = .ok (.i2l, 1)) (ha : w a = a1) (k : zJ K g nc ns (pc + 1) nL lv (.long (zl a1) :: rest) M S) : zJ K g nc ns pc nL lv (.int (zi a) :: rest) M S := by
  obtain ⟨p, l, e, R, s, m, args, below, meth, c, Q⟩ := K
  obtain ⟨rfl, hx, hb, hml, hown, hts, hT, hO, hNw, hlk, htr⟩ := hC
  exact fun H locs ls hR hS hl => lv_i2l hx hb hd (by rw [← ha]; exact zi_lw a) (k H locs ls hR hS hl)
theorem j_i2d (hC : zC K l0 g cc nL own) {a : Int} (hd : decode cc pc = .ok (.i2d, 1)) (k : zJ K g nc ns (pc + 1) nL lv (.double (FP.i2d (zi a)) :: rest) M S) : zJ K g nc ns pc nL lv (.int (zi a) :: rest) M S := by
  obtain ⟨p, l, e, R, s, m, args, below, meth, c, Q⟩ := K
  obtain ⟨rfl, hx, hb, hml, hown, hts, hT, hO, hNw, hlk, htr⟩ := hC
  exact fun H locs ls hR hS hl => lv_i2d hx hb hd (k H locs ls hR hS hl)
theorem j_ddiv (hC : zC K l0 g cc nL own) {x y : UInt64} (hd : decode cc pc = .ok (.ddiv, 1)) (hne : vf_n64 (FP.ddiv x y)) (k : zJ K g nc ns (pc + 1) nL lv (.double (FP.ddiv x y) :: rest) M S) : zJ K g nc ns pc nL lv (.double y :: .double x :: rest) M S := by
  obtain ⟨p, l, e, R, s, m, args, below, meth, c, Q⟩ := K
  obtain ⟨rfl, hx, hb, hml, hown, hts, hT, hO, hNw, hlk, htr⟩ := hC
  exact fun H locs ls hR hS hl => lv_ddiv hx hb hd hne (k H locs ls hR hS hl)
theorem j_ladd (hC : zC K l0 g cc nL own) {a b : Int} (hd : decode cc pc = .ok (.ladd, 1)) (k : zJ K g nc ns (pc + 1) nL lv (.long (zl (zladd a b)) :: rest) M S) : zJ K g nc ns pc nL lv (.long (zl b) :: .long (zl a) :: rest) M S := by
  obtain ⟨p, l, e, R, s, m, args, below, meth, c, Q⟩ := K
  obtain ⟨rfl, hx, hb, hml, hown, hts, hT, hO, hNw, hlk, htr⟩ := hC
  exact fun H locs ls hR hS hl => z_ladd hx hb hd (k H locs ls hR hS hl)
theorem j_land (hC : zC K l0 g cc nL own) {a b : Int} (hd : decode cc pc = .ok (.land, 1)) (k : zJ K g nc ns (pc + 1) nL lv (.long (zl (zland a b)) :: rest) M S) : zJ K g nc ns pc nL lv (.long (zl b) :: .long (zl a) :: rest) M S := by
  obtain ⟨p, l, e, R, s, m, args, below, meth, c, Q⟩ := K
  obtain ⟨rfl, hx, hb, hml, hown, hts, hT, hO, hNw, hlk, htr⟩ := hC
  exact fun H locs ls hR hS hl => z_land hx hb hd (k H locs ls hR hS hl)
theorem j_lor (hC : zC K l0 g cc nL own) {a b : Int} (hd : decode cc pc = .ok (.lor, 1)) (k : zJ K g nc ns (pc + 1) nL lv (.long (zl (zlor a b)) :: rest) M S) : zJ K g nc ns pc nL lv (.long (zl b) :: .long (zl a) :: rest) M S := by
  obtain ⟨p, l, e, R, s, m, args, below, meth, c, Q⟩ := K
  obtain ⟨rfl, hx, hb, hml, hown, hts, hT, hO, hNw, hlk, htr⟩ := hC
  exact fun H locs ls hR hS hl => z_lor hx hb hd (k H locs ls hR hS hl)
theorem j_lxor (hC : zC K l0 g cc nL own) {a b : Int} (hd : decode cc pc = .ok (.lxor, 1)) (k : zJ K g nc ns (pc + 1) nL lv (.long (zl (zlxor a b)) :: rest) M S) : zJ K g nc ns pc nL lv (.long (zl b) :: .long (zl a) :: rest) M S := by
  obtain ⟨p, l, e, R, s, m, args, below, meth, c, Q⟩ := K
  obtain ⟨rfl, hx, hb, hml, hown, hts, hT, hO, hNw, hlk, htr⟩ := hC
  exact fun H locs ls hR hS hl => z_lxor hx hb hd (k H locs ls hR hS hl)
theorem j_lshl (hC : zC K l0 g cc nL own) {a b : Int} (hd : decode cc pc = .ok (.lshl, 1)) (k : zJ K g nc ns (pc + 1) nL lv (.long (zl (zlshl a b)) :: rest) M S) : zJ K g nc ns pc nL lv (.int (zi b) :: .long (zl a) :: rest) M S := by
  obtain ⟨p, l, e, R, s, m, args, below, meth, c, Q⟩ := K
  obtain ⟨rfl, hx, hb, hml, hown, hts, hT, hO, hNw, hlk, htr⟩ := hC
  exact fun H locs ls hR hS hl => z_lshl hx hb hd (k H locs ls hR hS hl)
theorem j_lshr (hC : zC K l0 g cc nL own) {a b : Int} (hd : decode cc pc = .ok (.lshr, 1)) (k : zJ K g nc ns (pc + 1) nL lv (.long (zl (zlshr a b)) :: rest) M S) : zJ K g nc ns pc nL lv (.int (zi b) :: .long (zl a) :: rest) M S := by
  obtain ⟨p, l, e, R, s, m, args, below, meth, c, Q⟩ := K
  obtain ⟨rfl, hx, hb, hml, hown, hts, hT, hO, hNw, hlk, htr⟩ := hC
  exact fun H locs ls hR hS hl => z_lshr hx hb hd (k H locs ls hR hS hl)
theorem j_lcmp (hC : zC K l0 g cc nL own) {a b : Int} (hd : decode cc pc = .ok (.lcmp, 1)) (ha : inL a) (hb2 : inL b) (k : zJ K g nc ns (pc + 1) nL lv (.int (zi (zcmp a b)) :: rest) M S) : zJ K g nc ns pc nL lv (.long (zl b) :: .long (zl a) :: rest) M S := by
  obtain ⟨p, l, e, R, s, m, args, below, meth, c, Q⟩ := K
  obtain ⟨rfl, hx, hb, hml, hown, hts, hT, hO, hNw, hlk, htr⟩ := hC
  exact fun H locs ls hR hS hl => z_lcmp hx hb hd ha hb2 (k H locs ls hR hS hl)
theorem j_dup (hC : zC K l0 g cc nL own) {v : Value} (hd : decode cc pc = .ok (.dup, 1)) (hv : v.category = 1) (k : zJ K g nc ns (pc + 1) nL lv (v :: v :: rest) M S) : zJ K g nc ns pc nL lv (v :: rest) M S := by
  obtain ⟨p, l, e, R, s, m, args, below, meth, c, Q⟩ := K
  obtain ⟨rfl, hx, hb, hml, hown, hts, hT, hO, hNw, hlk, htr⟩ := hC
  exact fun H locs ls hR hS hl => lv_dup hx hb hd hv (k H locs ls hR hS hl)
theorem j_dup2 (hC : zC K l0 g cc nL own) {u v : Value} (hd : decode cc pc = .ok (.dup2, 1)) (hu : u.category = 1) (hv : v.category = 1) (k : zJ K g nc ns (pc + 1) nL lv (u :: v :: u :: v :: rest) M S) : zJ K g nc ns pc nL lv (u :: v :: rest) M S := by
  obtain ⟨p, l, e, R, s, m, args, below, meth, c, Q⟩ := K
  obtain ⟨rfl, hx, hb, hml, hown, hts, hT, hO, hNw, hlk, htr⟩ := hC
  exact fun H locs ls hR hS hl => lv_dup2_11 hx hb hd hu hv (k H locs ls hR hS hl)
theorem j_pop (hC : zC K l0 g cc nL own) {v : Value} (hd : decode cc pc = .ok (.pop, 1)) (hv : v.category = 1) (k : zJ K g nc ns (pc + 1) nL lv rest M S) : zJ K g nc ns pc nL lv (v :: rest) M S := by
  obtain ⟨p, l, e, R, s, m, args, below, meth, c, Q⟩ := K
  obtain ⟨rfl, hx, hb, hml, hown, hts, hT, hO, hNw, hlk, htr⟩ := hC
  exact fun H locs ls hR hS hl => lv_pop hx hb hd hv (k H locs ls hR hS hl)
theorem j_goto (hC : zC K l0 g cc nL own) {off : Int} {tgt : Nat} (hd : decode cc pc = .ok (.goto off, 3)) (ht : (pc : Int) + off = (tgt : Int)) (k : zJ K g nc ns tgt nL lv rest M S) : zJ K g nc ns pc nL lv rest M S := by
  obtain ⟨p, l, e, R, s, m, args, below, meth, c, Q⟩ := K
  obtain ⟨rfl, hx, hb, hml, hown, hts, hT, hO, hNw, hlk, htr⟩ := hC
  exact fun H locs ls hR hS hl => lv_goto hx hb hd ht (k H locs ls hR hS hl)
theorem j_icmp_eq (hC : zC K l0 g cc nL own) {a b a1 b1 : Int} {off : Int} {tgt : Nat} (hd : decode cc pc = .ok (.if_icmp .eq off, 3)) (ht : (pc : Int) + off = (tgt : Int)) (ha : w a = a1) (hb2 : w b = b1) (kt : a1 = b1 → zJ K g nc ns tgt nL lv rest M S) (kf : ¬ (a1 = b1) → zJ K g nc ns (pc + 3) nL lv rest M S) : zJ K g nc ns pc nL lv (.int (zi b) :: .int (zi a) :: rest) M S := by
  obtain ⟨p, l, e, R, s, m, args, below, meth, c, Q⟩ := K
  obtain ⟨rfl, hx, hb, hml, hown, hts, hT, hO, hNw, hlk, htr⟩ := hC
  intro H locs ls hR hS hl
  subst ha; subst hb2
  refine lv_icmp_eq hx hb hd ht (fun q => kt ?_ H locs ls hR hS hl) (fun q => kf ?_ H locs ls hR hS hl) <;> simp only [ge_iff_le, gt_iff_lt, ne_eq, zi_eqw, zi_ltw, zi_lew, Int.not_le, Int.not_lt] at q ⊢ <;> omega
theorem j_if_eq (hC : zC K l0 g cc nL own) {a a1 : Int} {off : Int} {tgt : Nat} (hd : decode cc pc = .ok (.ifCond .eq off, 3)) (ht : (pc : Int) + off = (tgt : Int)) (ha : w a = a1) (kt : a1 = 0 → zJ K g nc ns tgt nL lv rest M S) (kf : ¬ (a1 = 0) → zJ K g nc ns (pc + 3) nL lv rest M S) : zJ K g nc ns pc nL lv (.int (zi a) :: rest) M S := by
  obtain ⟨p, l, e, R, s, m, args, below, meth, c, Q⟩ := K
  obtain ⟨rfl, hx, hb, hml, hown, hts, hT, hO, hNw, hlk, htr⟩ := hC
  intro H locs ls hR hS hl
  subst ha
  have e0 : w 0 = 0 := by decide
  refine lv_if_eq hx hb hd ht (fun q => kt ?_ H locs ls hR hS hl) (fun q => kf ?_ H locs ls hR hS hl) <;> simp only [zi_0, ge_iff_le, gt_iff_lt, ne_eq, zi_eqw, zi_ltw, zi_lew, e0, Int.not_le, Int.not_lt] at q ⊢ <;> omega
theorem j_icmp_ne (hC : zC K l0 g cc nL own) {a b a1 b1 : Int} {off : Int} {tgt : Nat} (hd : decode cc pc = .ok (.if_icmp .ne off, 3)) (ht : (pc : Int) + off = (tgt : Int)) (ha : w a = a1) (hb2 : w b = b1) (kt : ¬ (a1 = b1) → zJ K g nc ns tgt nL lv rest M S) (kf : a1 = b1 → zJ K g nc ns (pc + 3) nL lv rest M S) : zJ K g nc ns pc nL lv (.int (zi b) :: .int (zi a) :: rest) M S := by
  obtain ⟨p, l, e, R, s, m, args, below, meth, c, Q⟩ := K
  obtain ⟨rfl, hx, hb, hml, hown, hts, hT, hO, hNw, hlk, htr⟩ := hC
  intro H locs ls hR hS hl
  subst ha; subst hb2
  refine lv_icmp_ne hx hb hd ht (fun q => kt ?_ H locs ls hR hS hl) (fun q => kf ?_ H locs ls hR hS hl) <;> simp only [ge_iff_le, gt_iff_lt, ne_eq, zi_eqw, zi_ltw, zi_lew, Int.not_le, Int.not_lt] at q ⊢ <;> omega
theorem j_if_ne (hC : zC K l0 g cc nL own) {a a1 : Int} {off : Int} {tgt : Nat} (hd : decode cc pc = .ok (.ifCond .ne off, 3)) (ht : (pc : Int) + off = (tgt : Int)) (ha : w a = a1) (kt : ¬ (a1 = 0) → zJ K g nc ns tgt nL lv rest M S) (kf : a1 = 0 → zJ K g nc ns (pc + 3) nL lv rest M S) : zJ K g nc ns pc nL lv (.int (zi a) :: rest) M S := by
  obtain ⟨p, l, e, R, s, m, args, below, meth, c, Q⟩ := K
  obtain ⟨rfl, hx, hb, hml, hown, hts, hT, hO, hNw, hlk, htr⟩ := hC
  intro H locs ls hR hS hl
  subst ha
  have e0 : w 0 = 0 := by decide
  refine lv_if_ne hx hb hd ht (fun q => kt ?_ H locs ls hR hS hl) (fun q => kf ?_ H locs ls hR hS hl) <;> simp only [zi_0, ge_iff_le, gt_iff_lt, ne_eq, zi_eqw, zi_ltw, zi_lew, e0, Int.not_le, Int.not_lt] at q ⊢ <;> omega
theorem j_icmp_lt (hC : zC K l0 g cc nL own) {a b a1 b1 : Int} {off : Int} {tgt : Nat} (hd : decode cc pc = .ok (.if_icmp .lt off, 3)) (ht : (pc : Int) + off = (tgt : Int)) (ha : w a = a1) (hb2 : w b = b1) (kt : a1 < b1 → zJ K g nc ns tgt nL lv rest M S) (kf : ¬ (a1 < b1) → zJ K g nc ns (pc + 3) nL lv rest M S) : zJ K g nc ns pc nL lv (.int (zi b) :: .int (zi a) :: rest) M S := by
  obtain ⟨p, l, e, R, s, m, args, below, meth, c, Q⟩ := K
  obtain ⟨rfl, hx, hb, hml, hown, hts, hT, hO, hNw, hlk, htr⟩ := hC
  intro H locs ls hR hS hl
  subst ha; subst hb2
  refine lv_icmp_lt hx hb hd ht (fun q => kt ?_ H locs ls hR hS hl) (fun q => kf ?_ H locs ls hR hS hl) <;> simp only [ge_iff_le, gt_iff_lt, ne_eq, zi_eqw, zi_ltw, zi_lew, Int.not_le, Int.not_lt] at q ⊢ <;> omega
theorem j_if_lt (hC : zC K l0 g cc nL own) {a a1 : Int} {off : Int} {tgt : Nat} (hd : decode cc pc = .ok (.ifCond .lt off, 3)) (ht : (pc : Int) + off = (tgt : Int)) (ha : w a = a1) (kt : a1 < 0 → zJ K g nc ns tgt nL lv rest M S) (kf : ¬ (a1 < 0) → zJ K g nc ns (pc + 3) nL lv rest M S) : zJ K g nc ns pc nL lv (.int (zi a) :: rest) M S := by
  obtain ⟨p, l, e, R, s, m, args, below, meth, c, Q⟩ := K
  obtain ⟨rfl, hx, hb, hml, hown, hts, hT, hO, hNw, hlk, htr⟩ := hC
  intro H locs ls hR hS hl
  subst ha
  have e0 : w 0 = 0 := by decide
  refine lv_if_lt hx hb hd ht (fun q => kt ?_ H locs ls hR hS hl) (fun q => kf ?_ H locs ls hR hS hl) <;> simp only [zi_0, ge_iff_le, gt_iff_lt, ne_eq, zi_eqw, zi_ltw, zi_lew, e0, Int.not_le, Int.not_lt] at q ⊢ <;> omega
theorem j_icmp_ge (hC : zC K l0 g cc nL own) {a b a1 b1 : Int} {off : Int} {tgt : Nat} (hd : decode cc pc = .ok (.if_icmp .ge off, 3)) (ht : (pc : Int) + off = (tgt : Int)) (ha : w a = a1) (hb2 : w b = b1) (kt : ¬ (a1 < b1) → zJ K g nc ns tgt nL lv rest M S) (kf : a1 < b1 → zJ K g nc ns (pc + 3) nL lv rest M S) : zJ K g nc ns pc nL lv (.int (zi b) :: .int (zi a) :: rest) M S := by
  obtain ⟨p, l, e, R, s, m, args, below, meth, c, Q⟩ := K
  obtain ⟨rfl, hx, hb, hml, hown, hts, hT, hO, hNw, hlk, htr⟩ := hC
  intro H locs ls hR hS hl
  subst ha; subst hb2
  refine lv_icmp_ge hx hb hd ht (fun q => kt ?_ H locs ls hR hS hl) (fun q => kf ?_ H locs ls hR hS hl) <;> simp only [ge_iff_le, gt_iff_lt, ne_eq, zi_eqw, zi_ltw, zi_lew, Int.not_le, Int.not_lt] at q ⊢ <;> omega
theorem j_if_ge (hC : zC K l0 g cc nL own) {a a1 : Int} {off : Int} {tgt : Nat} (hd : decode cc pc = .ok (.ifCond .ge off, 3)) (ht : (pc : Int) + off = (tgt : Int)) (ha : w a = a1) (kt : ¬ (a1 < 0) → zJ K g nc ns tgt nL lv rest M S) (kf : a1 < 0 → zJ K g nc ns (pc + 3) nL lv rest M S) : zJ K g nc ns pc nL lv (.int (zi a) :: rest) M S := by
  obtain ⟨p, l, e, R, s, m, args, below, meth, c, Q⟩ := K
  obtain ⟨rfl, hx, hb, hml, hown, hts, hT, hO, hNw, hlk, htr⟩ := hC
  intro H locs ls hR hS hl
  subst ha
  have e0 : w 0 = 0 := by decide
  refine lv_if_ge hx hb hd ht (fun q => kt ?_ H locs ls hR hS hl) (fun q => kf ?_ H locs ls hR hS hl) <;> simp only [zi_0, ge_iff_le, gt_iff_lt, ne_eq, zi_eqw, zi_ltw, zi_lew, e0, Int.not_le, Int.not_lt] at q ⊢ <;> omega
theorem j_icmp_gt (hC : zC K l0 g cc nL own) {a b a1 b1 : Int} {off : Int} {tgt : Nat} (hd : decode cc pc = .ok (.if_icmp .gt off, 3)) (ht : (pc : Int) + off = (tgt : Int)) (ha : w a = a1) (hb2 : w b = b1) (kt : b1 < a1 → zJ K g nc ns tgt nL lv rest M S) (kf : ¬ (b1 < a1) → zJ K g nc ns (pc + 3) nL lv rest M S) : zJ K g nc ns pc nL lv (.int (zi b) :: .int (zi a) :: rest) M S := by
  obtain ⟨p, l, e, R, s, m, args, below, meth, c, Q⟩ := K
  obtain ⟨rfl, hx, hb, hml, hown, hts, hT, hO, hNw, hlk, htr⟩ := hC
  intro H locs ls hR hS hl
  subst ha; subst hb2
  refine lv_icmp_gt hx hb hd ht (fun q => kt ?_ H locs ls hR hS hl) (fun q => kf ?_ H locs ls hR hS hl) <;> simp only [ge_iff_le, gt_iff_lt, ne_eq, zi_eqw, zi_ltw, zi_lew, Int.not_le, Int.not_lt] at q ⊢ <;> omega
theorem j_if_gt (hC : zC K l0 g cc nL own) {a a1 : Int} {off : Int} {tgt : Nat} (hd : decode cc pc = .ok (.ifCond .gt off, 3)) (ht : (pc : Int) + off = (tgt : Int)) (ha : w a = a1) (kt : 0 < a1 → zJ K g nc ns tgt nL lv rest M S) (kf : ¬ (0 < a1) → zJ K g nc ns (pc + 3) nL lv rest M S) : zJ K g nc ns pc nL lv (.int (zi a) :: rest) M S := by
  obtain ⟨p, l, e, R, s, m, args, below, meth, c, Q⟩ := K
  obtain ⟨rfl, hx, hb, hml, hown, hts, hT, hO, hNw, hlk, htr⟩ := hC
  intro H locs ls hR hS hl
  subst ha
  have e0 : w 0 = 0 := by decide
  refine lv_if_gt hx hb hd ht (fun q => kt ?_ H locs ls hR hS hl) (fun q => kf ?_ H locs ls hR hS hl) <;> simp only [zi_0, ge_iff_le, gt_iff_lt, ne_eq, zi_eqw, zi_ltw, zi_lew, e0, Int.not_le, Int.not_lt] at q ⊢ <;> omega
theorem j_icmp_le (hC : zC K l0 g cc nL own) {a b a1 b1 : Int} {off : Int} {tgt : Nat} (hd : decode cc pc = .ok (.if_icmp .le off, 3)) (ht : (pc : Int) + off = (tgt : Int)) (ha : w a = a1) (hb2 : w b = b1) (kt : ¬ (b1 < a1) → zJ K g nc ns tgt nL lv rest M S) (kf : b1 < a1 → zJ K g nc ns (pc + 3) nL lv rest M S) : zJ K g nc ns pc nL lv (.int (zi b) :: .int (zi a) :: rest) M S := by
  obtain ⟨p, l, e, R, s, m, args, below, meth, c, Q⟩ := K
  obtain ⟨rfl, hx, hb, hml, hown, hts, hT, hO, hNw, hlk, htr⟩ := hC
  intro H locs ls hR hS hl
  subst ha; subst hb2
  refine lv_icmp_le hx hb hd ht (fun q => kt ?_ H locs ls hR hS hl) (fun q => kf ?_ H locs ls hR hS hl) <;> simp only [ge_iff_le, gt_iff_lt, ne_eq, zi_eqw, zi_ltw, zi_lew, Int.not_le, Int.not_lt] at q ⊢ <;> omega
theorem j_if_le (hC : zC K l0 g cc nL own) {a a1 : Int} {off : Int} {tgt : Nat} (hd : decode cc pc = .ok (.ifCond .le off, 3)) (ht : (pc : Int) + off = (tgt : Int)) (ha : w a = a1) (kt : ¬ (0 < a1) → zJ K g nc ns tgt nL lv rest M S) (kf : 0 < a1 → zJ K g nc ns (pc + 3) nL lv rest M S) : zJ K g nc ns pc nL lv (.int (zi a) :: rest) M S := by
  obtain ⟨p, l, e, R, s, m, args, below, meth, c, Q⟩ := K
  obtain ⟨rfl, hx, hb, hml, hown, hts, hT, hO, hNw, hlk, htr⟩ := hC
  intro H locs ls hR hS hl
  subst ha
  have e0 : w 0 = 0 := by decide
  refine lv_if_le hx hb hd ht (fun q => kt ?_ H locs ls hR hS hl) (fun q => kf ?_ H locs ls hR hS hl) <;> simp only [zi_0, ge_iff_le, gt_iff_lt, ne_eq, zi_eqw, zi_ltw, zi_lew, e0, Int.not_le, Int.not_lt] at q ⊢ <;> omega
theorem j_ifnull (hC : zC K l0 g cc nL own) {q : Nat} {off : Int} {tgt : Nat} (hd : decode cc pc = .ok (.ifnull off, 3)) (ht : (pc : Int) + off = (tgt : Int)) (kt : q = 0 → zJ K g nc ns tgt nL lv rest M S) (kf : ¬ (q = 0) → zJ K g nc ns (pc + 3) nL lv rest M S) : zJ K g nc ns pc nL lv (zr g q :: rest) M S := by
  obtain ⟨p, l, e, R, s, m, args, below, meth, c, Q⟩ := K
  obtain ⟨rfl, hx, hb, hml, hown, hts, hT, hO, hNw, hlk, htr⟩ := hC
  intro H locs ls hR hS hl
  by_cases q0 : q = 0
  · subst q0
    exact lv_ifnullN hx hb hd ht (kt rfl H locs ls hR hS hl)
  · rw [show zr g q = .ref (zad g q) from if_neg q0]
    exact lv_ifnull hx hb hd (kf q0 H locs ls hR hS hl)
theorem j_ifnonnull (hC : zC K l0 g cc nL own) {q : Nat} {off : Int} {tgt : Nat} (hd : decode cc pc = .ok (.ifnonnull off, 3)) (ht : (pc : Int) + off = (tgt : Int)) (kt : ¬ (q = 0) → zJ K g nc ns tgt nL lv rest M S) (kf : q = 0 → zJ K g nc ns (pc + 3) nL lv rest M S) : zJ K g nc ns pc nL lv (zr g q :: rest) M S := by
  obtain ⟨p, l, e, R, s, m, args, below, meth, c, Q⟩ := K
  obtain ⟨rfl, hx, hb, hml, hown, hts, hT, hO, hNw, hlk, htr⟩ := hC
  intro H locs ls hR hS hl
  by_cases q0 : q = 0
  · subst q0
    exact lv_ifnonnullN hx hb hd (kf rfl H locs ls hR hS hl)
  · rw [show zr g q = .ref (zad g q) from if_neg q0]
    exact lv_ifnonnull hx hb hd ht (kt q0 H locs ls hR hS hl)
theorem j_tswOut (hC : zC K l0 g cc nL own) {dflt lo hi : Int} {offs : Array Int} {len tgt : Nat} {a a1 : Int} (hd : decode cc pc = .ok (.tableswitch dflt lo hi offs, len)) (ha : w a = a1) (h : a1 < lo ∨ hi < a1) (ht : (pc : Int) + dflt = (tgt : Int)) (k : zJ K g nc ns tgt nL lv rest M S) : zJ K g nc ns pc nL lv (.int (zi a) :: rest) M S := by
  obtain ⟨p, l, e, R, s, m, args, below, meth, c, Q⟩ := K
  obtain ⟨rfl, hx, hb, hml, hown, hts, hT, hO, hNw, hlk, htr⟩ := hC
  exact fun H locs ls hR hS hl => lv_tableOut hx hb hd (by rw [← ha] at h; exact h) ht (k H locs ls hR hS hl)
theorem j_tswIn (hC : zC K l0 g cc nL own) {dflt lo hi off : Int} {offs : Array Int} {len tgt : Nat} {a a1 : Int} (n : Int) (hd : decode cc pc = .ok (.tableswitch dflt lo hi offs, len)) (ha : w a = a1) (h : a1 = n) (hlo : ¬ n < lo) (hhi : ¬ hi < n) (ho : offs[(n - lo).toNat]? = some off) (ht : (pc : Int) + off = (tgt : Int)) (k : zJ K g nc ns tgt nL lv rest M S) : zJ K g nc ns pc nL lv (.int (zi a) :: rest) M S := by
  obtain ⟨p, l, e, R, s, m, args, below, meth, c, Q⟩ := K
  obtain ⟨rfl, hx, hb, hml, hown, hts, hT, hO, hNw, hlk, htr⟩ := hC
  exact fun H locs ls hR hS hl => lv_tableIn hx hb hd (by subst h; rw [← ha] at hlo; exact hlo) (by subst h; rw [← ha] at hhi; exact hhi) (by subst h; rw [← ha] at ho; exact ho) ht (k H locs ls hR hS hl)
theorem j_lsw (hC : zC K l0 g cc nL own) {dflt off : Int} {ps : Array (Int × Int)} {len tgt : Nat} {a a1 : Int} (hd : decode cc pc = .ok (.lookupswitch dflt ps, len)) (ha : w a = a1) (hp : (ps.toList.zip (ps.toList.drop 1)).all (fun (a, next) => a.1 < next.1) = true) (ho : Op.lookupswitch.offset ps.toList dflt a1 = off) (ht : (pc : Int) + off = (tgt : Int)) (k : zJ K g nc ns tgt nL lv rest M S) : zJ K g nc ns pc nL lv (.int (zi a) :: rest) M S := by
  obtain ⟨p, l, e, R, s, m, args, below, meth, c, Q⟩ := K
  obtain ⟨rfl, hx, hb, hml, hown, hts, hT, hO, hNw, hlk, htr⟩ := hC
  exact fun H locs ls hR hS hl => lv_lookup hx hb hd hp (by rw [← ha] at ho; exact ho) ht (k H locs ls hR hS hl)
end ZJ
