/-! MORE ROWS: the law's room, constants as places, doubles, methods of a class above, super.m(..) -/
theorem sum_le9 {α : Type} (f : α → Nat) (wt : Nat → Nat) : ∀ (l : List α) (i : Nat), (∀ (j : Nat) (x : α), l[j]? = some x → f x ≤ wt (i + j)) → (l.map f).sum ≤ ((List.range l.length).map fun j => wt (i + j)).sum
  | [], _, _ => Nat.le_refl _
  | a :: l, i, h => by
    rw [List.map_cons, List.sum_cons, List.length_cons, List.range_succ_eq_map, List.map_cons, List.sum_cons, List.map_map]
    have h0 := h 0 a rfl
    have h1 := sum_le9 f wt l (i + 1) (fun j x hj => by
      have h2 := h (j + 1) x hj
      rw [show i + (j + 1) = i + 1 + j by omega] at h2
      exact h2)
    have e : ((fun j => wt (i + j)) ∘ Nat.succ) = fun j => wt (i + 1 + j) := by
      funext j
      show wt (i + (j + 1)) = _
      rw [show i + (j + 1) = i + 1 + j by omega]
    rw [e]
    exact Nat.add_le_add h0 h1
theorem sum_c9 (k n : Nat) : ((List.range n).map fun _ => k).sum = k * n := by
  induction n with
  | zero => rfl
  | succ n ih =>
    rw [List.range_succ, List.map_append, List.sum_append, ih, Nat.mul_succ]
    rfl
/-- where a method stands: the law's room by the last place -/
def zK0 (K : zK) (g : zG) (n : Nat) : Prop := match K with
  | (p, l, e, R, s, m, args, below, meth, c, Q) => s.heap.size = zb g + zcn n + 1 ∧ 89 ≤ n
def zK0L (K : zK) (g : zG) : Prop := match K with
  | (p, l, e, R, s, m, args, below, meth, c, Q) => s.heap.size = zb g + 1
/-- a new cell's place -/
theorem zSz.at {g : zG} {M : zM} {S : zS} {H : Heap} (h : zR g M S H) (h89 : 89 ≤ S.1) {j : Nat} (h0 : zb g < j) (h1 : j < H.size) : ∃ cell : Cell, H[j]? = some cell ∧ cell.slots.size ≤ max 1000 (S.2.1 (if j - zb g < 48 then j - zb g else j - zb g + 42)).2 ∧ (¬ j - zb g < 48 → cell.slots.size ≤ 1000) := by
  have hz := h.1
  unfold zcn at hz
  rw [if_neg (by omega)] at hz
  by_cases hj : j - zb g < 48
  · rw [if_pos hj]
    have e : zad g (j - zb g) = j := by
      unfold zad
      rw [if_neg (by omega), if_pos hj]
      omega
    obtain ⟨c, q1, q2⟩ := h.2.2.1.2.2.1.1 (j - zb g) (by omega) (by omega) (fun q => by have q : 47 < j - zb g ∧ j - zb g < 90 := q; omega)
    rw [e] at q1
    exact ⟨c, q1, q2, fun q => absurd hj q⟩
  · rw [if_neg hj]
    have e : zad g (j - zb g + 42) = j := by
      unfold zad
      rw [if_neg (by omega), if_neg (by omega)]
      omega
    obtain ⟨c, q1, q2⟩ := h.2.2.1.2.2.1.1 (j - zb g + 42) (by omega) (by omega) (fun q => by have q : 47 < j - zb g + 42 ∧ j - zb g + 42 < 90 := q; omega)
    rw [e] at q1
    have q3 := h.2.2.1.2.2.1.2 (j - zb g + 42) (by omega)
    exact ⟨c, q1, q2, fun _ => Nat.le_trans q2 (Nat.max_le.mpr ⟨Nat.le_refl _, q3⟩)⟩
section ZJ30
variable {K : zK} {l0 : Launch} {g : zG} {cc : ByteArray} {nL nc ns pc : Nat} {own : String} {lv lv1 : List (Nat × Value)} {rest : List Value} {M M1 : zM} {S S1 : zS}
variable {nm : String} {ret : Option FieldType} {L mc ms : Nat} {oc : Option Value ⊕ String} {M9 : zM} {S9 : zS} {φ φ1 : Prop}
variable {y : MethodName} {cc2 : ByteArray} {nL2 : Nat} {ret2 : Option FieldType} {L2 mc2 ms2 n ix : Nat} {av st : List Value}

theorem j_le {n0 : Nat} (hK : zK0 K g n0) (h89 : 89 ≤ S.1) (k : n0 ≤ S.1 → zJ K g nc ns pc nL lv rest M S) : zJ K g nc ns pc nL lv rest M S := by
  obtain ⟨p, l, e, R, s, m, args, below, meth, c, Q⟩ := K
  obtain ⟨k1, k2⟩ := hK
  intro H locs ls hR hS hl
  refine k ?_ H locs ls hR hS hl
  have h1 := hS.1
  rw [k1, hR.1] at h1
  unfold zcn at h1
  rw [if_neg (by omega), if_neg (by omega)] at h1
  omega
theorem j_tight {n0 : Nat} (hK : zK0 K g n0) (k : zJ K g (S.1 - n0) (1000 * (S.1 - n0)) pc nL lv rest M S) : zJ K g nc ns pc nL lv rest M S := by
  obtain ⟨p, l, e, R, s, m, args, below, meth, c, Q⟩ := K
  obtain ⟨k1, k2⟩ := hK
  intro H locs ls hR hS hl T hT X
  have hz := hR.1
  have h0 := hS.1
  rw [k1] at h0
  have h89 : 89 ≤ S.1 ∨ (S.1 = 47 ∧ n0 = 89) := by
    rcases hR.2.2.1.2.2.2 with q | q
    · rw [hz] at h0
      unfold zcn at h0
      rw [if_pos q, if_neg (by omega)] at h0
      omega
    · exact Or.inl q
  rcases h89 with h89 | ⟨e1, e2⟩
  · unfold zcn at hz h0 k1
    rw [if_neg (by omega)] at hz h0 k1
    obtain ⟨a1, a2, a3, a4, a5, a6⟩ := X.same
    have hTH : T.heap.size = H.size := by rw [hT]
    have hlen : (T.heap.toList.drop s.heap.size).length = S.1 - n0 := by
      rw [List.length_drop, Array.length_toList, hTH, hz, k1]
      omega
    have hsum : ((T.heap.toList.drop s.heap.size).map (·.slots.size)).sum ≤ 1000 * (S.1 - n0) := by
      refine Nat.le_trans (sum_le9 (fun x : Cell => x.slots.size) (fun _ => 1000) _ 0 (fun j x hj => ?_)) (by rw [sum_c9, hlen]; exact Nat.le_refl _)
      rw [List.getElem?_drop, Array.getElem?_toList, hT] at hj
      have hlt := (Array.getElem?_eq_some_iff.mp hj).1
      obtain ⟨cell, q1, -, q3⟩ := zSz.at hR h89 (j := s.heap.size + j) (by omega) hlt
      rw [hj] at q1
      cases q1
      exact q3 (by omega)
    exact k H locs ls hR hS hl T hT { X with same := ⟨a1, a2, by show T.heap.size ≤ _; omega, a4, hsum, a6⟩ }
  · -- nothing is new
    unfold zcn at hz k1
    rw [if_pos (by omega)] at hz
    rw [if_neg (by omega)] at k1
    obtain ⟨a1, a2, a3, a4, a5, a6⟩ := X.same
    have hTH : T.heap.size = H.size := by rw [hT]
    have hlen : (T.heap.toList.drop s.heap.size).length = 0 := by
      rw [List.length_drop, Array.length_toList, hTH, hz, k1]
      omega
    have hnil := List.length_eq_zero_iff.mp hlen
    exact k H locs ls hR hS hl T hT { X with same := ⟨a1, a2, by show T.heap.size ≤ _; omega, a4, by show (List.map _ (T.heap.toList.drop s.heap.size)).sum ≤ _; rw [hnil]; exact Nat.zero_le _, a6⟩ }
/-- what the fixed cells take at most -/
def zwt (j : Nat) : Nat := if j < 47 then max 1000 (zKL.getD (j + 1) (0, 0)).2 else 1000
theorem zwt_sum (n : Nat) : ((List.range (47 + n)).map zwt).sum ≤ 400000 + 1000 * n := by
  rw [List.range_add, List.map_append, List.sum_append, List.map_map]
  have h1 : ((List.range 47).map zwt).sum ≤ 400000 := by decide +kernel
  have h2 : ((List.range n).map (zwt ∘ fun x => 47 + x)).sum = 1000 * n := by
    rw [← sum_c9 1000 n]
    congr 2
    funext j
    show zwt (47 + j) = 1000
    unfold zwt
    rw [if_neg (by omega)]
  omega
theorem j_tightL (hK : zK0L K g) (hF : zFx S) (k : zJ K g (47 + (S.1 - 89)) (400000 + 1000 * (S.1 - 89)) pc nL lv rest M S) : zJ K g nc ns pc nL lv rest M S := by
  obtain ⟨p, l, e, R, s, m, args, below, meth, c, Q⟩ := K
  have k1 : s.heap.size = zb g + 1 := hK
  intro H locs ls hR hS hl T hT X
  have h89 : 89 ≤ S.1 := zFx_cnt hF
  have hz := hR.1
  unfold zcn at hz
  rw [if_neg (by omega)] at hz
  obtain ⟨a1, a2, a3, a4, a5, a6⟩ := X.same
  have hTH : T.heap.size = H.size := by rw [hT]
  have hlen : (T.heap.toList.drop s.heap.size).length = 47 + (S.1 - 89) := by
    rw [List.length_drop, Array.length_toList, hTH, hz, k1]
    omega
  have hsum : ((T.heap.toList.drop s.heap.size).map (·.slots.size)).sum ≤ 400000 + 1000 * (S.1 - 89) := by
    refine Nat.le_trans (sum_le9 (fun x : Cell => x.slots.size) zwt _ 0 (fun j x hj => ?_)) ?_
    · rw [List.getElem?_drop, Array.getElem?_toList, hT] at hj
      have hlt := (Array.getElem?_eq_some_iff.mp hj).1
      obtain ⟨cell, q1, q2, q3⟩ := zSz.at hR h89 (j := s.heap.size + j) (by omega) hlt
      rw [hj] at q1
      cases q1
      show x.slots.size ≤ zwt (0 + j)
      unfold zwt
      by_cases h47 : 0 + j < 47
      · rw [if_pos h47]
        rw [if_pos (by omega)] at q2
        rw [show s.heap.size + j - zb g = 0 + j + 1 by omega, hF.2.1 (0 + j + 1) (by omega) (by omega)] at q2
        exact q2
      · rw [if_neg h47]
        exact q3 (by omega)
    · rw [hlen]
      have h5 : ((List.range (47 + (S.1 - 89))).map fun j => zwt (0 + j)) = (List.range (47 + (S.1 - 89))).map zwt := by
        congr 1
        funext j
        rw [Nat.zero_add]
      rw [h5]
      exact zwt_sum _
  exact k H locs ls hR hS hl T hT { X with same := ⟨a1, a2, by show T.heap.size ≤ _; omega, a4, hsum, a6⟩ }
theorem j_jump (e : S.1 = 47) (eS : S1 = (89, S.2)) (k : zJ K g nc ns pc nL lv rest M S1) : zJ K g nc ns pc nL lv rest M S := by
  obtain ⟨p, l, e9, R, s, m, args, below, meth, c, Q⟩ := K
  subst eS
  intro H locs ls hR hS hl
  exact k H locs ls (hR.jump e) hS hl
/-! constants as places -/
theorem zO.dig {g : zG} {U : State} (h : zO g U) : va_Z "java/lang/Integer" "DigitOnes" "[B" (.ref (zk g 22)) (zA g) U U.heap ∧ va_T .byte (zk g 22) 100 (fun j => .int (zi (48 + ((j % 10 : Nat) : Int)))) (zA g) U U.heap := h.2.2.2.2.2.2.2.2.2.2.2.2.2.2.2.2.2.2
theorem vk_low {N : Nat} {len : List Nat} {byt : List (List Int32)} {adK adV : Nat → Nat} {g : zG} {U : State} {H : Heap} (h : vk_S N len byt adK adV (zA g) U H) {i : Nat} (hi : i < N) : adK i ≤ zb g := by
  obtain ⟨-, ⟨cf, k, i2, f, cell, b1, b2, b3, b4, b5, b6⟩, -⟩ := h.1 i hi
  exact Nat.not_lt.mp b6
theorem vk_lowV {N : Nat} {len : List Nat} {byt : List (List Int32)} {adK adV : Nat → Nat} {g : zG} {U : State} {H : Heap} (h : vk_S N len byt adK adV (zA g) U H) {i : Nat} (hi : i < N) : adV i ≤ zb g := by
  obtain ⟨-, -, -, cell, b1, b2, b3, b4, b5, b6, b7⟩ := h.1 i hi
  exact Nat.not_lt.mp b7
theorem zr_cst {g : zG} {U : State} (h : zO g U) {i : Nat} (hi : i < 21) : zr g (48 + i) = .ref (zk g (1 + i)) := by
  have h1 := vk_low h.str hi
  have h1 : zk g (1 + i) ≤ zb g := h1
  unfold zr zad
  rw [if_neg (by omega), if_pos (by omega), if_pos (by omega), show 48 + i - 47 = 1 + i by omega, Nat.min_eq_left h1]
theorem j_ldcq (hC : zC K l0 g cc nL own) {ix i : Nat} {tx : String} (hd : decode cc pc = .ok (.ldc ix, 2)) (hs : (own, ix, tx, i) ∈ zSR) (hi : i < 21) (k : zJ K g nc ns (pc + 2) nL lv (zr g (48 + i) :: rest) M S) : zJ K g nc ns pc nL lv rest M S := by
  refine j_ldcs hC hd hs ?_
  have e : zr g (48 + i) = .ref (zk g (1 + i)) := by
    obtain ⟨p, l, e, R, s, m, args, below, meth, c, Q⟩ := K
    obtain ⟨rfl, hx, hb, hml, hown, hts, hT, hO, hNw, hlk, htr⟩ := hC
    exact zr_cst hO hi
  rw [← e]
  exact k
/-! doubles -/
theorem j_ldc2d (hC : zC K l0 g cc nL own) {ix : Nat} {v : UInt64} (hd : decode cc pc = .ok (.ldc2_w ix, 3)) (hw : Cond.constantDouble own ix v ∈ zTs) (k : zJ K g nc ns (pc + 3) nL lv (.double v :: rest) M S) : zJ K g nc ns pc nL lv rest M S := by
  obtain ⟨p, l, e, R, s, m, args, below, meth, c, Q⟩ := K
  obtain ⟨rfl, hx, hb, hml, hown, hts, hT, hO, hNw, hlk, htr⟩ := hC
  exact fun H locs ls hR hS hl => lv_ldc2d hx hb hown (hts _ hw) hd (k H locs ls hR hS hl)
theorem j_dconst1 (hC : zC K l0 g cc nL own) (hd : decode cc pc = .ok (.dconst 1, 1)) (k : zJ K g nc ns (pc + 1) nL lv (.double zd1 :: rest) M S) : zJ K g nc ns pc nL lv rest M S := by
  obtain ⟨p, l, e, R, s, m, args, below, meth, c, Q⟩ := K
  obtain ⟨rfl, hx, hb, hml, hown, hts, hT, hO, hNw, hlk, htr⟩ := hC
  exact fun H locs ls hR hS hl => lv_dconst1 hx hb hd (k H locs ls hR hS hl)
theorem j_dmul (hC : zC K l0 g cc nL own) {x y : UInt64} (hd : decode cc pc = .ok (.dmul, 1)) (hn : vf_n64 (FP.dmul x y)) (k : zJ K g nc ns (pc + 1) nL lv (.double (FP.dmul x y) :: rest) M S) : zJ K g nc ns pc nL lv (.double y :: .double x :: rest) M S := by
  obtain ⟨p, l, e, R, s, m, args, below, meth, c, Q⟩ := K
  obtain ⟨rfl, hx, hb, hml, hown, hts, hT, hO, hNw, hlk, htr⟩ := hC
  exact fun H locs ls hR hS hl => lv_dmul hx hb hd hn (k H locs ls hR hS hl)
theorem inR_y {z : Int} (h : -128 ≤ z ∧ z < 128) : inR z := by omega
theorem cR_do {z : Int} (h0 : 0 ≤ z) (h1 : z < 10) : inR (48 + z) := by omega
theorem zn_b {z : Int} (h : -128 ≤ z ∧ z < 128) : zNar (some .byte) z := ⟨_, rfl, zi_nb h⟩
theorem j_ineg (hC : zC K l0 g cc nL own) {a : Int} (hd : decode cc pc = .ok (.ineg, 1)) (k : zJ K g nc ns (pc + 1) nL lv (.int (zi (-a)) :: rest) M S) : zJ K g nc ns pc nL lv (.int (zi a) :: rest) M S := by
  obtain ⟨p, l, e, R, s, m, args, below, meth, c, Q⟩ := K
  obtain ⟨rfl, hx, hb, hml, hown, hts, hT, hO, hNw, hlk, htr⟩ := hC
  exact fun H locs ls hR hS hl => z_ineg (b := 0) hx hb hd (k H locs ls hR hS hl)
theorem j_dup_x1 (hC : zC K l0 g cc nL own) {v1 v2 : Value} (hd : decode cc pc = .ok (.dup_x1, 1)) (h1 : v1.category = 1) (h2 : v2.category = 1) (k : zJ K g nc ns (pc + 1) nL lv (v1 :: v2 :: v1 :: rest) M S) : zJ K g nc ns pc nL lv (v1 :: v2 :: rest) M S := by
  obtain ⟨p, l, e, R, s, m, args, below, meth, c, Q⟩ := K
  obtain ⟨rfl, hx, hb, hml, hown, hts, hT, hO, hNw, hlk, htr⟩ := hC
  exact fun H locs ls hR hS hl => lv_dup_x1 hx hb hd h1 h2 (k H locs ls hR hS hl)
theorem j_putqN (hC : zC K l0 g cc nL own) {ix ci k a x : Nat} (hd : decode cc pc = .ok (.putfield ix, 3)) (hf : zFd own ix ci k) (hpf : zPf ci) (hk : zkd S a = ci) (ht : ztc (zft ci k) = 3) (hfin : zfin ci k = false) (ki : Int) (hki : (k : Int) = ki) (hS1 : S1 = zq S a ki x) (kk : zJ K g nc ns (pc + 3) nL lv rest M S1) : zJ K g nc ns pc nL lv (zr g x :: zr g a :: rest) M S := by
  obtain ⟨p, l, e, R, s, m, args, below, meth, c, Q⟩ := K
  obtain ⟨rfl, hx, hb, hml, hown, hts, hT, hO, hNw, hlk, htr⟩ := hC
  intro H locs ls hR hS hl
  have h28 : (S.2.1 a).1 < 28 := by obtain ⟨r, -, h20, -⟩ := hf; show zkd S a < 28; omega
  have hz := (hR.pos h28).1
  rw [zr_nz hz]
  subst hki
  subst hS1
  have hcast : ∀ j : Nat, ((j : Int) = (k : Int)) ↔ j = k := fun j => by omega
  have hv9 : ∀ j : Nat, zrg (zft ci j) (M a j) := fun j => by
    have hv := hR.2.2.2.1 a j h28
    rw [show zty (S.2.1 a).1 j = zft ci j by obtain ⟨r, -, h20, -⟩ := hf; unfold zty; rw [show (S.2.1 a).1 = ci from hk, if_pos h20]] at hv
    exact hv
  have hfn := zfitq g x ht
  refine z_put (M1 := M) (S1 := zq S a k x) hx hb hts hNw hown hT hR hS hf hpf hk (Or.inl hfin) hfn.1 hfn.2 (fun _ _ => rfl) (fun b hb => up_ne _ _ hb) rfl rfl (fun j => ?_) hv9 hd (fun H1 locs1 hR1 hS1 => kk H1 locs1 ls hR1 hS1 hl)
  by_cases e : j = k
  · subst e
    rw [ht]
    show updV _ j _ j = zr g (up S.2.2 a (up (S.2.2 a) _ x) a _)
    rw [up_eq, up_eq]
    exact if_pos rfl
  · show updV _ k _ j = zv g _ _ (up S.2.2 a (up (S.2.2 a) _ x) a _)
    rw [up_eq, up_ne _ _ (fun q => e ((hcast j).mp q))]
    exact if_neg e
/-! methods of a class above the receiver's, private ones among them -/
theorem z_selP {C : String} {x0 y : MethodName} {s : State} {args : Array Value} (h0 : x0.cls = y.cls) (hs : (Cond.selects C x0 x0).before args s = true) (hy : y.cls ≠ "java/lang/invoke/MethodHandle" ∧ y.cls ≠ "java/lang/invoke/VarHandle") (hpriv : (Cond.privateMethod y).before args s = true) (hinst : (Cond.instanceMethod y).before args s = true) : (Cond.selects C y y).before args s = true := by
  obtain ⟨c, r, m, q1, q2, q3, q4, kP, hkP, hkPi⟩ := Cond.selects_spec hs
  obtain ⟨mk, methM, hnamed, hmethM, -, -⟩ := Cond.instanceMethod_spec hinst
  have hfound : s.methodFound? y.cls y.name y.desc = some mk := State.methodFound?_of_named hnamed hy
  have e1 := findClass_of_methodNamed hnamed
  have e2 := findClass_of_methodNamed q3
  rw [h0] at e2
  have hcls : mk.cls = m.cls := Option.some.inj (e1.symm.trans e2)
  have hsel : selectMethod {} s.vm c mk = .method mk := selectMethod_private hmethM (Cond.privateMethod_at hpriv mk methM hnamed hmethM)
  rw [← hcls] at hkP
  simp only [Cond.before, Cond.holds, Cond.value, q1, hfound, hnamed, hsel, hkP]
  simp; exact hkPi
def zLkU (own : String) (ix : Nat) (x y : MethodName) (cc2 : ByteArray) (nL2 : Nat) (ret2 : Option FieldType) (n : Nat) : Prop := Cond.methodLink own ix x ∈ zTs ∧ Cond.initialized y.cls ∈ zTs ∧ Cond.code y cc2 nL2 ret2 ∈ zTs ∧ (x.cls ≠ "java/lang/invoke/MethodHandle" ∧ x.cls ≠ "java/lang/invoke/VarHandle") ∧ (parseMethodDescriptor x.desc).map (fun d => d.parameters.length) = some n ∧ Cond.sameMethod x.cls x.cls x.name x.desc ∈ zTs ∧ Cond.instanceMethod x ∈ zTs ∧ (∃ b m r, Cond.code x b m r ∈ zTs) ∧ Cond.instanceMethod y ∈ zTs ∧ (Cond.selects RJ4 x y ∈ zTs ∨ (x = y ∧ x.cls = RJ5 ∧ Cond.selects RJ4 yJ5_isLatin1_aae02 yJ5_isLatin1_aae02 ∈ zTs ∧ Cond.privateMethod x ∈ zTn))
def zLkP (own : String) (ix : Nat) (y : MethodName) (cc2 : ByteArray) (nL2 : Nat) (ret2 : Option FieldType) (n : Nat) : Prop := Cond.methodLink own ix y ∈ zTs ∧ Cond.initialized y.cls ∈ zTs ∧ Cond.code y cc2 nL2 ret2 ∈ zTs ∧ (y.cls ≠ "java/lang/invoke/MethodHandle" ∧ y.cls ≠ "java/lang/invoke/VarHandle") ∧ (parseMethodDescriptor y.desc).map (fun d => d.parameters.length) = some n ∧ Cond.sameMethod y.cls y.cls y.name y.desc ∈ zTs ∧ Cond.superclass own y.cls ∈ zTs ∧ Cond.instanceMethod y ∈ zTs ∧ y.name ≠ "<init>"
theorem z_runU {p : Program} {l : Launch} {e : Env} {s : State} {m : MethodId} {args : Array Value} {below : List Frame} {meth : Method} {c : Code} {Q : State → Prop} {H : Heap} {locs : List Loc} {ls : Array Slot} {As : List Value} {oc1 : Option Value ⊕ String} (hx : p.tables.exec = Jvm.exec) (hb : c.code = cc) (hml : c.maxLocals = nL) (hown : s.vm.findClass own = some m.cls) (hts : ∀ w ∈ zTs, w.before args s = true) (hNw : ∀ w ∈ zTn, va_Nw w s) (hT : zT g s) (hO : zO g s) (hR : zR g M S H) (hS : va_S (zA g) s.heap H locs) (hl : lv_has ls nL lv) {x : MethodName} (lk : zLkU own ix x y cc2 nL2 ret2 n) (hd : decode cc pc = .ok (.invokevirtual ix, 3)) (ct : zMet l g y cc2 nL2 ret2 L2 mc2 ms2 av M S oc1 M1 S1 φ1) {a ci : Nat} (hk : zkd S a = ci) (hc : ∃ r, vwCl[ci]? = some r ∧ r.1 = RJ4 ∧ ci < 20) (hA : av = zr g a :: As) (hn : As.length = n) (hcat : (rest.map fun v => v.category).sum ≤ 8) (r1 : nL2 ≤ 100) (r2 : L2 + 1 ≤ L) (r3 : nc + mc2 ≤ mc) (r4 : ns + ms2 ≤ ms) (hNX : ∀ E, oc1 ≠ .inr E)
    (kk : ∀ (v : Option Value) (H1 : Heap) (locs1 : List Loc), oc1 = .inl v → φ1 → zR g M1 S1 H1 → va_S (zA g) s.heap H1 locs1 → W p l e (zRm L mc ms) s m args below meth c H1 locs1 (nc + mc2) (ns + ms2) Q (F0 m (pc + 3) ls (v.toList ++ rest))) : W p l e (zRm L mc ms) s m args below meth c H locs nc ns Q (F0 m pc ls (As.reverse ++ zr g a :: rest)) := by
  obtain ⟨r, hc1, hc2, h20⟩ := hc
  obtain ⟨r', g1, cell, q1, q2, q3, q4⟩ := (hR.2.1 a).1 (by rw [show (S.2.1 a).1 = ci from hk]; exact h20)
  rw [show (S.2.1 a).1 = ci from hk] at g1 q2 q4
  obtain rfl := Option.some.inj (g1.symm.trans hc1)
  have hz := (hR.pos (show (S.2.1 a).1 < 28 by show zkd S a < 28; omega)).1
  obtain ⟨-, hfc, kC, hkC, hkO⟩ := hT.1.1 ci _ hc1
  rw [zr_nz hz] at hA ⊢
  subst hA
  obtain ⟨l1, l2, l3, l4, l5, l6, l7, ⟨b0, m0, r0, l8⟩, l9, l10⟩ := lk
  have hG := zGood l3
  have hRm := zRoom (mc := mc) (ms := ms) (mc2 := mc2) (ms2 := ms2) r1 r2
  have hsel : (Cond.selects RJ4 x y).before args s = true := by
    rcases l10 with q | ⟨rfl, qc, qs, qp⟩
    · exact hts _ q
    · exact z_selP (x0 := yJ5_isLatin1_aae02) qc.symm (hts _ qs) l4 (va_Nw.use rfl (hNw _ qp)) (hts _ l9)
  have cw : va_CU (zRm L mc ms) s args own RJ4 x.cls ix x y cc2 nL2 ret2 (.code y cc2 nL2 ret2 :: zTs) (zRm L2 mc2 ms2) mc2 ms2 n := ⟨⟨rfl, rfl, hRm.1, hRm.2, pay_in hts hG, List.mem_cons_self⟩, hts _ l3, hts _ l2, l4, fun sig h => by
      rw [h] at l5
      exact (Option.some.inj l5).symm, hts _ l1, hts _ l6, va_Decl.of (hts _ l7) (hts _ l8), hsel, hts _ l9⟩
  exact zfinish (vx_runU ⟨hx, hb, hml, hown, hts⟩ ct cw ⟨zBl g _ M S, ⟨cell, q1, by rw [q3]; rfl, by rw [q2, ← hc2]; exact hfc⟩, (fun U hU hW => ⟨rfl, ⟨by rw [hU]; exact hR, hT.moved hW.alike, hO.kept hS hU hW, zNw_warm hW hNw⟩⟩)⟩ rfl hn hl.1 rfl (lv_room hcat) hd ⟨r3, r4⟩) hS (fun E ce q9 H1 locs1 hoc => absurd hoc (hNX E)) kk
theorem z_runP {p : Program} {l : Launch} {e : Env} {s : State} {m : MethodId} {args : Array Value} {below : List Frame} {meth : Method} {c : Code} {Q : State → Prop} {H : Heap} {locs : List Loc} {ls : Array Slot} {As : List Value} {oc1 : Option Value ⊕ String} (hx : p.tables.exec = Jvm.exec) (hb : c.code = cc) (hml : c.maxLocals = nL) (hown : s.vm.findClass own = some m.cls) (hts : ∀ w ∈ zTs, w.before args s = true) (hNw : ∀ w ∈ zTn, va_Nw w s) (hT : zT g s) (hO : zO g s) (hR : zR g M S H) (hS : va_S (zA g) s.heap H locs) (hl : lv_has ls nL lv) (lk : zLkP own ix y cc2 nL2 ret2 n) (hd : decode cc pc = .ok (.invokespecial ix, 3)) (ct : zMet l g y cc2 nL2 ret2 L2 mc2 ms2 av M S oc1 M1 S1 φ1) {a ci : Nat} (hk : zkd S a = ci) (hc : ∃ r, vwCl[ci]? = some r ∧ r.1 = RJ4 ∧ ci < 20) (hA : av = zr g a :: As) (hn : As.length = n) (hcat : (rest.map fun v => v.category).sum ≤ 8) (r1 : nL2 ≤ 100) (r2 : L2 + 1 ≤ L) (r3 : nc + mc2 ≤ mc) (r4 : ns + ms2 ≤ ms) (hNX : ∀ E, oc1 ≠ .inr E)
    (kk : ∀ (v : Option Value) (H1 : Heap) (locs1 : List Loc), oc1 = .inl v → φ1 → zR g M1 S1 H1 → va_S (zA g) s.heap H1 locs1 → W p l e (zRm L mc ms) s m args below meth c H1 locs1 (nc + mc2) (ns + ms2) Q (F0 m (pc + 3) ls (v.toList ++ rest))) : W p l e (zRm L mc ms) s m args below meth c H locs nc ns Q (F0 m pc ls (As.reverse ++ zr g a :: rest)) := by
  obtain ⟨r, hc1, hc2, h20⟩ := hc
  obtain ⟨r', g1, cell, q1, q2, q3, q4⟩ := (hR.2.1 a).1 (by rw [show (S.2.1 a).1 = ci from hk]; exact h20)
  rw [show (S.2.1 a).1 = ci from hk] at g1 q2 q4
  obtain rfl := Option.some.inj (g1.symm.trans hc1)
  have hz := (hR.pos (show (S.2.1 a).1 < 28 by show zkd S a < 28; omega)).1
  obtain ⟨-, hfc, kC, hkC, hkO⟩ := hT.1.1 ci _ hc1
  rw [zr_nz hz] at hA ⊢
  subst hA
  obtain ⟨l1, l2, l3, l4, l5, l6, l7, l8, l9⟩ := lk
  have hG := zGood l3
  have hRm := zRoom (mc := mc) (ms := ms) (mc2 := mc2) (ms2 := ms2) r1 r2
  have cw : va_CS (zRm L mc ms) s args own ix y cc2 nL2 ret2 (.code y cc2 nL2 ret2 :: zTs) (zRm L2 mc2 ms2) mc2 ms2 n := ⟨⟨rfl, rfl, hRm.1, hRm.2, pay_in hts hG, List.mem_cons_self⟩, hts _ l1, hts _ l6, hts _ l7, hts _ l8, hts _ l2, hts _ l3, l9, fun sig h => by
      rw [h] at l5
      exact (Option.some.inj l5).symm⟩
  have hat : ClassAt s RJ4 ((zD g).1 ci) := by rw [← hc2]; exact ⟨hfc, kC, hkC, hkO⟩
  exact zfinish (vx_runSU hat ⟨hx, hb, hml, hown, hts⟩ ct cw ⟨zBl g _ M S, ⟨cell, q1, by rw [q3]; rfl, by rw [q2, ← hc2]; exact hfc⟩, (fun U hU hW => ⟨rfl, ⟨by rw [hU]; exact hR, hT.moved hW.alike, hO.kept hS hU hW, zNw_warm hW hNw⟩⟩)⟩ rfl hn hl.1 rfl (lv_room hcat) hd ⟨r3, r4⟩) hS (fun E ce q9 H1 locs1 hoc => absurd hoc (hNX E)) kk
theorem j_callUv (hC : zC K l0 g cc nL own) (hE : zE K g nm ret L mc ms oc M9 S9 φ) {x : MethodName} (lk : zLkU own ix x y cc2 nL2 ret2 n) (hd : decode cc pc = .ok (.invokevirtual ix, 3)) (ct : zMet l0 g y cc2 nL2 ret2 L2 mc2 ms2 av M S (.inl none) M1 S1 φ1) (As rest : List Value) {a ci : Nat} (hk : zkd S a = ci) (hc : ∃ r, vwCl[ci]? = some r ∧ r.1 = RJ4 ∧ ci < 20) (hst : st = As.reverse ++ zr g a :: rest) (hA : av = zr g a :: As) (hn : As.length = n) (hcat : (rest.map fun v => v.category).sum ≤ 8) (r1 : nL2 ≤ 100) (r2 : L2 + 1 ≤ L) (r3 : nc + mc2 ≤ mc) (r4 : ns + ms2 ≤ ms) (k : φ1 → zJ K g (nc + mc2) (ns + ms2) (pc + 3) nL lv (rest) M1 S1) : zJ K g nc ns pc nL lv st M S := by
  obtain ⟨p, l, e, R, s, m, args, below, meth, c, Q⟩ := K
  obtain ⟨rfl, hx, hb, hml, hown, hts, hT, hO, hNw, hlk, htr⟩ := hC
  obtain ⟨hnm, hrt, rfl, rfl⟩ := hE
  subst hst
  intro H locs ls hR hS hl
  exact z_runU hx hb hml hown hts hNw hT hO hR hS hl lk hd ct hk hc hA hn hcat r1 r2 r3 r4 (fun E h => by cases h) (fun v H1 locs1 hoc hφ hR1 hS1 => by cases hoc; exact k hφ H1 locs1 ls hR1 hS1 hl)
theorem j_callUi (hC : zC K l0 g cc nL own) (hE : zE K g nm ret L mc ms oc M9 S9 φ) {r : Int} {x : MethodName} (lk : zLkU own ix x y cc2 nL2 ret2 n) (hd : decode cc pc = .ok (.invokevirtual ix, 3)) (ct : zMet l0 g y cc2 nL2 ret2 L2 mc2 ms2 av M S (.inl (some (.int (zi r)))) M1 S1 φ1) (As rest : List Value) {a ci : Nat} (hk : zkd S a = ci) (hc : ∃ r, vwCl[ci]? = some r ∧ r.1 = RJ4 ∧ ci < 20) (hst : st = As.reverse ++ zr g a :: rest) (hA : av = zr g a :: As) (hn : As.length = n) (hcat : (rest.map fun v => v.category).sum ≤ 8) (r1 : nL2 ≤ 100) (r2 : L2 + 1 ≤ L) (r3 : nc + mc2 ≤ mc) (r4 : ns + ms2 ≤ ms) (k : φ1 → zJ K g (nc + mc2) (ns + ms2) (pc + 3) nL lv (.int (zi r) :: rest) M1 S1) : zJ K g nc ns pc nL lv st M S := by
  obtain ⟨p, l, e, R, s, m, args, below, meth, c, Q⟩ := K
  obtain ⟨rfl, hx, hb, hml, hown, hts, hT, hO, hNw, hlk, htr⟩ := hC
  obtain ⟨hnm, hrt, rfl, rfl⟩ := hE
  subst hst
  intro H locs ls hR hS hl
  exact z_runU hx hb hml hown hts hNw hT hO hR hS hl lk hd ct hk hc hA hn hcat r1 r2 r3 r4 (fun E h => by cases h) (fun v H1 locs1 hoc hφ hR1 hS1 => by cases hoc; exact k hφ H1 locs1 ls hR1 hS1 hl)
theorem j_callUr (hC : zC K l0 g cc nL own) (hE : zE K g nm ret L mc ms oc M9 S9 φ) {r : Nat} {x : MethodName} (lk : zLkU own ix x y cc2 nL2 ret2 n) (hd : decode cc pc = .ok (.invokevirtual ix, 3)) (ct : zMet l0 g y cc2 nL2 ret2 L2 mc2 ms2 av M S (.inl (some (zr g r))) M1 S1 φ1) (As rest : List Value) {a ci : Nat} (hk : zkd S a = ci) (hc : ∃ r, vwCl[ci]? = some r ∧ r.1 = RJ4 ∧ ci < 20) (hst : st = As.reverse ++ zr g a :: rest) (hA : av = zr g a :: As) (hn : As.length = n) (hcat : (rest.map fun v => v.category).sum ≤ 8) (r1 : nL2 ≤ 100) (r2 : L2 + 1 ≤ L) (r3 : nc + mc2 ≤ mc) (r4 : ns + ms2 ≤ ms) (k : φ1 → zJ K g (nc + mc2) (ns + ms2) (pc + 3) nL lv (zr g r :: rest) M1 S1) : zJ K g nc ns pc nL lv st M S := by
  obtain ⟨p, l, e, R, s, m, args, below, meth, c, Q⟩ := K
  obtain ⟨rfl, hx, hb, hml, hown, hts, hT, hO, hNw, hlk, htr⟩ := hC
  obtain ⟨hnm, hrt, rfl, rfl⟩ := hE
  subst hst
  intro H locs ls hR hS hl
  exact z_runU hx hb hml hown hts hNw hT hO hR hS hl lk hd ct hk hc hA hn hcat r1 r2 r3 r4 (fun E h => by cases h) (fun v H1 locs1 hoc hφ hR1 hS1 => by cases hoc; exact k hφ H1 locs1 ls hR1 hS1 hl)
theorem j_callPv (hC : zC K l0 g cc nL own) (hE : zE K g nm ret L mc ms oc M9 S9 φ) (lk : zLkP own ix y cc2 nL2 ret2 n) (hd : decode cc pc = .ok (.invokespecial ix, 3)) (ct : zMet l0 g y cc2 nL2 ret2 L2 mc2 ms2 av M S (.inl none) M1 S1 φ1) (As rest : List Value) {a ci : Nat} (hk : zkd S a = ci) (hc : ∃ r, vwCl[ci]? = some r ∧ r.1 = RJ4 ∧ ci < 20) (hst : st = As.reverse ++ zr g a :: rest) (hA : av = zr g a :: As) (hn : As.length = n) (hcat : (rest.map fun v => v.category).sum ≤ 8) (r1 : nL2 ≤ 100) (r2 : L2 + 1 ≤ L) (r3 : nc + mc2 ≤ mc) (r4 : ns + ms2 ≤ ms) (k : φ1 → zJ K g (nc + mc2) (ns + ms2) (pc + 3) nL lv (rest) M1 S1) : zJ K g nc ns pc nL lv st M S := by
  obtain ⟨p, l, e, R, s, m, args, below, meth, c, Q⟩ := K
  obtain ⟨rfl, hx, hb, hml, hown, hts, hT, hO, hNw, hlk, htr⟩ := hC
  obtain ⟨hnm, hrt, rfl, rfl⟩ := hE
  subst hst
  intro H locs ls hR hS hl
  exact z_runP hx hb hml hown hts hNw hT hO hR hS hl lk hd ct hk hc hA hn hcat r1 r2 r3 r4 (fun E h => by cases h) (fun v H1 locs1 hoc hφ hR1 hS1 => by cases hoc; exact k hφ H1 locs1 ls hR1 hS1 hl)
theorem j_callPi (hC : zC K l0 g cc nL own) (hE : zE K g nm ret L mc ms oc M9 S9 φ) {r : Int} (lk : zLkP own ix y cc2 nL2 ret2 n) (hd : decode cc pc = .ok (.invokespecial ix, 3)) (ct : zMet l0 g y cc2 nL2 ret2 L2 mc2 ms2 av M S (.inl (some (.int (zi r)))) M1 S1 φ1) (As rest : List Value) {a ci : Nat} (hk : zkd S a = ci) (hc : ∃ r, vwCl[ci]? = some r ∧ r.1 = RJ4 ∧ ci < 20) (hst : st = As.reverse ++ zr g a :: rest) (hA : av = zr g a :: As) (hn : As.length = n) (hcat : (rest.map fun v => v.category).sum ≤ 8) (r1 : nL2 ≤ 100) (r2 : L2 + 1 ≤ L) (r3 : nc + mc2 ≤ mc) (r4 : ns + ms2 ≤ ms) (k : φ1 → zJ K g (nc + mc2) (ns + ms2) (pc + 3) nL lv (.int (zi r) :: rest) M1 S1) : zJ K g nc ns pc nL lv st M S := by
  obtain ⟨p, l, e, R, s, m, args, below, meth, c, Q⟩ := K
  obtain ⟨rfl, hx, hb, hml, hown, hts, hT, hO, hNw, hlk, htr⟩ := hC
  obtain ⟨hnm, hrt, rfl, rfl⟩ := hE
  subst hst
  intro H locs ls hR hS hl
  exact z_runP hx hb hml hown hts hNw hT hO hR hS hl lk hd ct hk hc hA hn hcat r1 r2 r3 r4 (fun E h => by cases h) (fun v H1 locs1 hoc hφ hR1 hS1 => by cases hoc; exact k hφ H1 locs1 ls hR1 hS1 hl)
theorem j_callPr (hC : zC K l0 g cc nL own) (hE : zE K g nm ret L mc ms oc M9 S9 φ) {r : Nat} (lk : zLkP own ix y cc2 nL2 ret2 n) (hd : decode cc pc = .ok (.invokespecial ix, 3)) (ct : zMet l0 g y cc2 nL2 ret2 L2 mc2 ms2 av M S (.inl (some (zr g r))) M1 S1 φ1) (As rest : List Value) {a ci : Nat} (hk : zkd S a = ci) (hc : ∃ r, vwCl[ci]? = some r ∧ r.1 = RJ4 ∧ ci < 20) (hst : st = As.reverse ++ zr g a :: rest) (hA : av = zr g a :: As) (hn : As.length = n) (hcat : (rest.map fun v => v.category).sum ≤ 8) (r1 : nL2 ≤ 100) (r2 : L2 + 1 ≤ L) (r3 : nc + mc2 ≤ mc) (r4 : ns + ms2 ≤ ms) (k : φ1 → zJ K g (nc + mc2) (ns + ms2) (pc + 3) nL lv (zr g r :: rest) M1 S1) : zJ K g nc ns pc nL lv st M S := by
  obtain ⟨p, l, e, R, s, m, args, below, meth, c, Q⟩ := K
  obtain ⟨rfl, hx, hb, hml, hown, hts, hT, hO, hNw, hlk, htr⟩ := hC
  obtain ⟨hnm, hrt, rfl, rfl⟩ := hE
  subst hst
  intro H locs ls hR hS hl
  exact z_runP hx hb hml hown hts hNw hT hO hR hS hl lk hd ct hk hc hA hn hcat r1 r2 r3 r4 (fun E h => by cases h) (fun v H1 locs1 hoc hφ hR1 hS1 => by cases hoc; exact k hφ H1 locs1 ls hR1 hS1 hl)
/-! String.checkIndex; Integer's digits -/
theorem j_chki (hC : zC K l0 g cc nL own) (hE : zE K g nm ret L mc ms oc M9 S9 φ) (hlt : l0.stackTraces = false) {ix : Nat} {a b a1 b1 : Int} (lk : zLkS own ix yJ0_checkIndex_df160 cJ0_checkIndex_df160 2 none 2) (hd : decode cc pc = .ok (.invokestatic ix, 3)) (ha : w a = a1) (hb1 : w b = b1) (ra : inR a1) (rb : inR b1) (hc : 0 ≤ a1 ∧ a1 < b1) (hcat : rest.length ≤ 4) (r2 : 3 ≤ L) (r3 : nc ≤ mc) (r4 : ns ≤ ms) (k : zJ K g nc ns (pc + 3) nL lv rest M S) : zJ K g nc ns pc nL lv (.int (zi b) :: .int (zi a) :: rest) M S := by
  subst ha; subst hb1
  refine j_callSv hC hE lk hd (c_J0_checkIndex l0 hlt g (w a) (w b) ra rb hc.1 hc.2 M S) [.int (zi a), .int (zi b)] rest rfl (by simp only [zi_w]) rfl (zcat hcat) (by decide) r2 r3 r4 (fun _ => k)
theorem j_gdo (hC : zC K l0 g cc nL own) {ix : Nat} (hd : decode cc pc = .ok (.getstatic ix, 3)) (hw : Cond.fieldLink own ix "java/lang/Integer" "DigitOnes" "[B" ∈ zTs) (k : zJ K g nc ns (pc + 3) nL lv (.ref (zk g 22) :: rest) M S) : zJ K g nc ns pc nL lv rest M S := by
  obtain ⟨p, l, e, R, s, m, args, below, meth, c, Q⟩ := K
  obtain ⟨rfl, hx, hb, hml, hown, hts, hT, hO, hNw, hlk, htr⟩ := hC
  exact fun H locs ls hR hS hl => va_gets hx hb hO.dig.1 hS hown (hts _ hw) (fun _ h => h) hd (k H locs ls hR hS hl)
theorem j_dold (hC : zC K l0 g cc nL own) {i i1 : Int} (hd : decode cc pc = .ok (.baload, 1)) (hi : w i = i1) (h0 : 0 ≤ i1) (h1 : i1 < 10) (k : zJ K g nc ns (pc + 1) nL lv (.int (zi (48 + i1)) :: rest) M S) : zJ K g nc ns pc nL lv (.int (zi i) :: .ref (zk g 22) :: rest) M S := by
  obtain ⟨p, l, e, R, s, m, args, below, meth, c, Q⟩ := K
  obtain ⟨rfl, hx, hb, hml, hown, hts, hT, hO, hNw, hlk, htr⟩ := hC
  intro H locs ls hR hS hl
  subst hi
  have h4 : (zi i).toNatClampNeg = (w i).toNat := rfl
  refine va_tb hx hb hO.dig.2 hS (vp_in_iff.mpr ⟨h0, by show w i < 100; omega⟩) ?_ hd (k H locs ls hR hS hl)
  show Value.int (zi (48 + (((zi i).toNatClampNeg % 10 : Nat) : Int))) = _
  rw [h4, Nat.mod_eq_of_lt (by omega), Int.toNat_of_nonneg h0]
end ZJ30
theorem j_fresh1 {K : zK} {g : zG} {nL nc ns pc q : Nat} {lv : List (Nat × Value)} {rest : List Value} {M M1 : zM} {S : zS} (hq : q = S.1 + 1) (e : M1 = up M q (fun _ => 0)) (k : zJ K g nc ns pc nL lv rest M1 S) : zJ K g nc ns pc nL lv rest M S := by
  obtain ⟨p, l, e9, R, s, m, args, below, meth, c, Q⟩ := K
  subst e
  intro H locs ls hR hS hl
  have e1 : up M q (fun _ => 0) = M := by
    funext a
    by_cases h : a = q
    · subst h; rw [up_eq]; exact (hR.2.2.1.1 a (Or.inr (by omega))).2.1.symm
    · exact up_ne _ _ h
  exact k H locs ls (by rw [e1]; exact hR) hS hl
theorem zMet_ofL {l : Launch} {g : zG} {y : MethodName} {cc : ByteArray} {nL : Nat} {ret : Option FieldType} {L mc ms : Nat} {av : List Value} {M : zM} {S : zS} {oc : Option Value ⊕ String} {M' : zM} {S' : zS} {φ : Prop} (hy : plainName y.cls = true) (hlt : l.stackTraces = false) (lv0 : List (Nat × Value)) (hlv : lv_args 0 av = lv0) (hsl : (lg_sl av).length ≤ nL) (h89 : 89 ≤ S.1)
    (body : ∀ K : zK, zC K l g cc nL y.cls → zE K g y.name ret L mc ms oc M' S' φ → zNt K → zK0 K g S.1 → zJ K g 0 0 0 nL lv0 [] M S) : zMet l g y cc nL ret L mc ms av M S oc M' S' φ := by
  refine vx_ofW (cc := cc) (maxL := nL) (ret := ret) hy rfl ?_
  intro p e s m args below meth c s₁ B hml htab hv
  obtain ⟨rfl, hR, hT, hO, hNw⟩ := hv
  have hts := atoms_spec (ws := .code y cc nL ret :: zTs) B.pre
  have hl := lv_entry av (n := nL) hsl
  rw [hlv] at hl
  rw [lg_entry_eq]
  generalize (lg_sl av ++ List.replicate (nL - (lg_sl av).length) Slot.unset).toArray = ls at hl ⊢
  exact body (p, l, e, zRm L mc ms, s, m, av.toArray, below, meth, c, _) ⟨rfl, B.exec, B.bytes, hml, findClass_of_methodNamed B.named, fun w hw => hts w (List.mem_cons_of_mem _ hw), hT, hO, hNw, B.notSynchronized, hlt⟩ ⟨(name_of_methodNamed B.named B.method).1, B.returns, rfl, rfl⟩ htab ⟨hR.1, h89⟩ s.heap [] ls hR va_S.rf hl
theorem zMetH_ofL {l : Launch} {g : zG} {y : MethodName} {cc : ByteArray} {nL : Nat} {ret : Option FieldType} {hh : List (Nat × Nat × Nat × Nat)} {L mc ms : Nat} {av : List Value} {M : zM} {S : zS} {oc : Option Value ⊕ String} {M' : zM} {S' : zS} {φ : Prop} (hy : plainName y.cls = true) (hlt : l.stackTraces = false) (lv0 : List (Nat × Value)) (hlv : lv_args 0 av = lv0) (hsl : (lg_sl av).length ≤ nL) (h89 : 89 ≤ S.1)
    (body : ∀ K : zK, zC K l g cc nL y.cls → zE K g y.name ret L mc ms oc M' S' φ → zTb K hh → zK0 K g S.1 → zJ K g 0 0 0 nL lv0 [] M S) : zMetH l g y cc nL ret hh L mc ms av M S oc M' S' φ := by
  refine vx_ofWH (cc := cc) (maxL := nL) (ret := ret) (hh := hh) hy rfl ?_
  intro p e s m args below meth c s₁ B hml hv
  obtain ⟨rfl, hR, hT, hO, hNw⟩ := hv
  have hts := atoms_spec (ws := .codeWith y cc nL ret hh :: zTs) B.pre
  have htab := vx_table (x := y) B (hts _ List.mem_cons_self)
  have hl := lv_entry av (n := nL) hsl
  rw [hlv] at hl
  rw [lg_entry_eq]
  generalize (lg_sl av ++ List.replicate (nL - (lg_sl av).length) Slot.unset).toArray = ls at hl ⊢
  exact body (p, l, e, zRm L mc ms, s, m, av.toArray, below, meth, c, _) ⟨rfl, B.exec, B.bytes, hml, findClass_of_methodNamed B.named, fun w hw => hts w (List.mem_cons_of_mem _ hw), hT, hO, hNw, B.notSynchronized, hlt⟩ ⟨(name_of_methodNamed B.named B.method).1, B.returns, rfl, rfl⟩ htab ⟨hR.1, h89⟩ s.heap [] ls hR va_S.rf hl
