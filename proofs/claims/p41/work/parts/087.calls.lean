/-! CONTRACTS, ENDS, CALLS -/
theorem zO.kept {g : zG} {s t : State} {H : Heap} {locs : List Loc} (h : zO g s) (hS : va_S (zA g) s.heap H locs) (ht : t.heap = H) (hW : s.WarmedH t.vm) : zO g t := by
  have hvm := hW.alike
  obtain ⟨h1, h2, h3, h4, h5, h6, h7, h8, h9, h10, h11, h12, h13, h14, h15, h16, h17, h18, h19, h20⟩ := h
  have hk : ∀ a : Nat, a < s.heap.size → ¬ zA g a → t.heap[a]? = s.heap[a]? := fun a ha hn => by rw [ht]; exact hS.2.1 a ha hn
  refine ⟨(h1.kept hk).moved hvm, (h2.kept hk).moved hvm, Nat.lt_of_lt_of_le h3 (by rw [ht]; exact hS.1), h4, (h5.kept hk).moved hvm, (h6.kept hk).moved hvm, fun x hx => ?_, fun C hC => (h8 C hC).moved hvm, (h9.kept hk).moved hvm, (h10.kept hk).moved hvm, (h11.kept hk).moved hvm, fun x hx => (h12 x hx).warm hW, h13.moved hvm, fun x hx => (h14 x hx).moved hvm, (h15.kept (hk _ h16 h17)).moved hvm, Nat.lt_of_lt_of_le h16 (by rw [ht]; exact hS.1), h17, h18, (h19.kept hk).moved hvm, (h20.kept hk).moved hvm⟩
  obtain ⟨sa, hs⟩ := h7 x hx
  exact ⟨sa, hs.warm hW⟩
theorem zB.calling {g : zG} {M : zM} {S : zS} {U : State} {f : JFrame} {mk : MethodId} {a : Array Value} (h : zB g M S U) : zB g M S (U.calling f mk a) := by
  obtain ⟨h1, h2, h3, h4⟩ := h
  refine ⟨h1, h2.moved (U := U.calling f mk a) (Vm.Alike.refl U.vm), ?_, fun w hw => ?_⟩
  · exact h3.kept (H := U.heap) (locs := []) va_S.rf rfl (State.WarmedH.refl U)
  · have hq := List.mem_filter.mp hw
    have hot : w.onTables = true := by
      have := hq.2
      cases w <;> first | rfl | (cases this)
    exact va_Nw.same (u := U) (U := U.calling f mk a) hot rfl (h4 w hw)
theorem zBl (g : zG) (av : List Value) (M : zM) (S : zS) : FrameBlind (va_Pc av (zB g M S)) := fun _ _ _ _ h => ⟨h.1, h.2.calling⟩
def zMet (l : Launch) (g : zG) (y : MethodName) (cc : ByteArray) (nL : Nat) (ret : Option FieldType) (L mc ms : Nat) (av : List Value) (M : zM) (S : zS) (oc : Option Value ⊕ String) (M' : zM) (S' : zS) (φ : Prop) : Prop := vx_Met l y (.code y cc nL ret :: zTs) (zRm L mc ms) (va_Pc av (zB g M S)) (zQc g oc M' S' φ) (zXC g oc M' S' φ) mc ms (zA g)
theorem zc_i (x : Int32) : (Value.int x).category = 1 := rfl
theorem zc_l (x : Int64) : (Value.long x).category = 2 := rfl
theorem zc_d (x : UInt64) : (Value.double x).category = 2 := rfl
theorem zc_r (x : Nat) : (Value.ref x).category = 1 := rfl
theorem zsl_len (av : List Value) : (lg_sl av).length = (av.map fun v => v.category).sum := by
  unfold lg_sl
  induction av with
  | nil => rfl
  | cons a l ih =>
    rw [List.flatMap_cons, List.length_append, ih, List.map_cons, List.sum_cons]
    rcases lv_cat a with h | h <;> rw [h] <;> rfl
def zNt (K : zK) : Prop := match K with
  | (p, l, e, R, s, m, args, below, meth, c, Q) => ∀ x ∈ c.exceptionTable.toList, False
theorem zMet_of {l : Launch} {g : zG} {y : MethodName} {cc : ByteArray} {nL : Nat} {ret : Option FieldType} {L mc ms : Nat} {av : List Value} {M : zM} {S : zS} {oc : Option Value ⊕ String} {M' : zM} {S' : zS} {φ : Prop} (hy : plainName y.cls = true) (hlt : l.stackTraces = false) (lv0 : List (Nat × Value)) (hlv : lv_args 0 av = lv0) (hsl : (lg_sl av).length ≤ nL)
    (body : ∀ K : zK, zC K l g cc nL y.cls → zE K g y.name ret L mc ms oc M' S' φ → zNt K → zJ K g 0 0 0 nL lv0 [] M S) : zMet l g y cc nL ret L mc ms av M S oc M' S' φ := by
  refine vx_ofW (cc := cc) (maxL := nL) (ret := ret) hy rfl ?_
  intro p e s m args below meth c s₁ B hml htab hv
  obtain ⟨rfl, hR, hT, hO, hNw⟩ := hv
  have hts := atoms_spec (ws := .code y cc nL ret :: zTs) B.pre
  have hl := lv_entry av (n := nL) hsl
  rw [hlv] at hl
  rw [lg_entry_eq]
  generalize (lg_sl av ++ List.replicate (nL - (lg_sl av).length) Slot.unset).toArray = ls at hl ⊢
  exact body (p, l, e, zRm L mc ms, s, m, av.toArray, below, meth, c, _) ⟨rfl, B.exec, B.bytes, hml, findClass_of_methodNamed B.named, fun w hw => hts w (List.mem_cons_of_mem _ hw), hT, hO, hNw, B.notSynchronized, hlt⟩ ⟨(name_of_methodNamed B.named B.method).1, B.returns, rfl, rfl⟩ htab s.heap [] ls hR va_S.rf hl
def zNar (ret : Option FieldType) (z : Int) : Prop := ∃ ty, ret = some ty ∧ narrow ty (.int (zi z)) = .int (zi z)
theorem zn_z {z : Int} (h : 0 ≤ z ∧ z ≤ 1) : zNar (some .boolean) z := ⟨_, rfl, zi_nz h⟩
theorem zn_c {z : Int} (h : 0 ≤ z ∧ z < 65536) : zNar (some .char) z := ⟨_, rfl, zi_nc h⟩
theorem zn_i (z : Int) : zNar (some .int) z := ⟨_, rfl, rfl⟩
def zOX {α : Type} (mk : α → Option Value) (r : Nat ⊕ α) : Option Value ⊕ String := match r with
  | .inl e => .inr (zEx e)
  | .inr a => .inl (mk a)
def zRXi (r : Nat ⊕ Int) : Prop := match r with
  | .inl _ => True
  | .inr a => inR a
def zRXl (r : Nat ⊕ Int) : Prop := match r with
  | .inl _ => True
  | .inr a => inL a
abbrev zki : Int → Option Value := fun a => some (.int (zi a))
abbrev zkl : Int → Option Value := fun a => some (.long (zl a))
abbrev zkd2 : UInt64 → Option Value := fun a => some (.double a)
abbrev zkr (g : zG) : Nat → Option Value := fun a => some (zr g a)
abbrev zkv : Unit → Option Value := fun _ => none
section ZJ3
variable {K : zK} {l0 : Launch} {g : zG} {cc : ByteArray} {nL nc ns pc : Nat} {own : String} {lv lv1 : List (Nat × Value)} {rest : List Value} {M M1 : zM} {S S1 : zS}
variable {nm : String} {ret : Option FieldType} {L mc ms : Nat} {oc : Option Value ⊕ String} {M9 : zM} {S9 : zS} {φ : Prop}
theorem j_stk {st st2 : List Value} (h : st2 = st) (k : zJ K g nc ns pc nL lv st2 M S) : zJ K g nc ns pc nL lv st M S := by rw [← h]; exact k
theorem j_nameq {q x : Nat} (e : x = q) (k : zJ K g nc ns pc nL lv (zr g x :: rest) M S) : zJ K g nc ns pc nL lv (zr g q :: rest) M S := by rw [← e]; exact k
theorem j_names {a x : Int} (e : x = a) (k : zJ K g nc ns pc nL lv (.int (zi x) :: rest) M S) : zJ K g nc ns pc nL lv (.int (zi a) :: rest) M S := by rw [← e]; exact k
theorem j_namesl {a x : Int} (e : x = a) (k : zJ K g nc ns pc nL lv (.long (zl x) :: rest) M S) : zJ K g nc ns pc nL lv (.long (zl a) :: rest) M S := by rw [← e]; exact k
theorem j_named {a x : UInt64} (e : x = a) (k : zJ K g nc ns pc nL lv (.double x :: rest) M S) : zJ K g nc ns pc nL lv (.double a :: rest) M S := by rw [← e]; exact k
theorem j_iret (hC : zC K l0 g cc nL own) (hE : zE K g nm ret L mc ms oc M9 S9 φ) (hd : decode cc pc = .ok (.ireturn, 1)) {a a1 : Int} (ha : w a = a1) (hn : zNar ret a1) (ho : oc = .inl (some (.int (zi a1)))) (eM : M = M9) (eS : S = S9) (hφ : φ) (h1 : nc ≤ mc) (h2 : ns ≤ ms)  : zJ K g nc ns pc nL lv [.int (zi a)] M S := by
  obtain ⟨p, l, e, R, s, m, args, below, meth, c, Q⟩ := K
  obtain ⟨rfl, hx, hb, hml, hown, hts, hT, hO, hNw, hlk, htr⟩ := hC
  obtain ⟨hnm, hrt, rfl, rfl⟩ := hE
  intro H locs ls hR hS hl
  subst eM; subst eS
  obtain ⟨ty, hr, hn⟩ := hn
  subst ha
  rw [← zi_w a]
  refine W.widen h1 h2 ?_
  refine vx_ret (W.zret (v := zi (w a)) hx hb (hrt.trans hr) hn (fun t ht hW => ⟨⟨_, ho, rfl⟩, hφ, by rw [ht]; exact hR, hS.F ht⟩) hS.2.2 hd hlk)
theorem j_lret (hC : zC K l0 g cc nL own) (hE : zE K g nm ret L mc ms oc M9 S9 φ) (hd : decode cc pc = .ok (.lreturn, 1)) {a a1 : Int} (ha : wl a = a1)  (ho : oc = .inl (some (.long (zl a1)))) (eM : M = M9) (eS : S = S9) (hφ : φ) (h1 : nc ≤ mc) (h2 : ns ≤ ms) (hr : ret = some .long := by rfl) : zJ K g nc ns pc nL lv [.long (zl a)] M S := by
  obtain ⟨p, l, e, R, s, m, args, below, meth, c, Q⟩ := K
  obtain ⟨rfl, hx, hb, hml, hown, hts, hT, hO, hNw, hlk, htr⟩ := hC
  obtain ⟨hnm, hrt, rfl, rfl⟩ := hE
  intro H locs ls hR hS hl
  subst eM; subst eS
  subst ha
  rw [← zl_wl a]
  refine W.widen h1 h2 ?_
  refine vx_ret (W.lret (v := zl (wl a)) hx hb (hrt.trans hr) (fun t ht hW => ⟨⟨_, ho, rfl⟩, hφ, by rw [ht]; exact hR, hS.F ht⟩) hS.2.2 hd hlk)
theorem j_dret (hC : zC K l0 g cc nL own) (hE : zE K g nm ret L mc ms oc M9 S9 φ) (hd : decode cc pc = .ok (.dreturn, 1)) {a : UInt64}  (ho : oc = .inl (some (.double a))) (eM : M = M9) (eS : S = S9) (hφ : φ) (h1 : nc ≤ mc) (h2 : ns ≤ ms) (hr : ret = some .double := by rfl) : zJ K g nc ns pc nL lv [.double a] M S := by
  obtain ⟨p, l, e, R, s, m, args, below, meth, c, Q⟩ := K
  obtain ⟨rfl, hx, hb, hml, hown, hts, hT, hO, hNw, hlk, htr⟩ := hC
  obtain ⟨hnm, hrt, rfl, rfl⟩ := hE
  intro H locs ls hR hS hl
  subst eM; subst eS
  refine W.widen h1 h2 ?_
  refine vx_ret (W.dret (v := a) hx hb (hrt.trans hr) (fun t ht hW => ⟨⟨_, ho, rfl⟩, hφ, by rw [ht]; exact hR, hS.F ht⟩) hS.2.2 hd hlk)
theorem j_aret (hC : zC K l0 g cc nL own) (hE : zE K g nm ret L mc ms oc M9 S9 φ) (hd : decode cc pc = .ok (.areturn, 1)) {a : Nat}  (ho : oc = .inl (some (zr g a))) (eM : M = M9) (eS : S = S9) (hφ : φ) (h1 : nc ≤ mc) (h2 : ns ≤ ms) (hr : ∃ rt, ret = some rt ∧ ((∃ n, rt = .object n) ∨ ∃ t, rt = .array t) := by first | exact ⟨_, rfl, Or.inl ⟨_, rfl⟩⟩ | exact ⟨_, rfl, Or.inr ⟨_, rfl⟩⟩) : zJ K g nc ns pc nL lv [zr g a] M S := by
  obtain ⟨p, l, e, R, s, m, args, below, meth, c, Q⟩ := K
  obtain ⟨rfl, hx, hb, hml, hown, hts, hT, hO, hNw, hlk, htr⟩ := hC
  obtain ⟨hnm, hrt, rfl, rfl⟩ := hE
  intro H locs ls hR hS hl
  subst eM; subst eS
  obtain ⟨rt, hr, hr2⟩ := hr
  refine W.widen h1 h2 ?_
  refine vx_ret (W.aret (v := zr g a) hx hb (hrt.trans hr) hr2 (by unfold zr; split; exact Or.inl rfl; exact Or.inr ⟨_, rfl⟩) (fun t ht hW => ⟨⟨_, ho, rfl⟩, hφ, by rw [ht]; exact hR, hS.F ht⟩) hS.2.2 hd hlk)
theorem j_sret (hC : zC K l0 g cc nL own) (hE : zE K g nm ret L mc ms oc M9 S9 φ) (hd : decode cc pc = .ok (.areturn, 1)) {a : Nat}  (ho : oc = .inl (some (.ref a))) (eM : M = M9) (eS : S = S9) (hφ : φ) (h1 : nc ≤ mc) (h2 : ns ≤ ms) (hr : ∃ rt, ret = some rt ∧ ((∃ n, rt = .object n) ∨ ∃ t, rt = .array t) := by first | exact ⟨_, rfl, Or.inl ⟨_, rfl⟩⟩ | exact ⟨_, rfl, Or.inr ⟨_, rfl⟩⟩) : zJ K g nc ns pc nL lv [.ref a] M S := by
  obtain ⟨p, l, e, R, s, m, args, below, meth, c, Q⟩ := K
  obtain ⟨rfl, hx, hb, hml, hown, hts, hT, hO, hNw, hlk, htr⟩ := hC
  obtain ⟨hnm, hrt, rfl, rfl⟩ := hE
  intro H locs ls hR hS hl
  subst eM; subst eS
  obtain ⟨rt, hr, hr2⟩ := hr
  refine W.widen h1 h2 ?_
  refine vx_ret (W.aret (v := .ref a) hx hb (hrt.trans hr) hr2 (Or.inr ⟨_, rfl⟩) (fun t ht hW => ⟨⟨_, ho, rfl⟩, hφ, by rw [ht]; exact hR, hS.F ht⟩) hS.2.2 hd hlk)
theorem j_vret (hC : zC K l0 g cc nL own) (hE : zE K g nm ret L mc ms oc M9 S9 φ) (hd : decode cc pc = .ok (.return_, 1))  (ho : oc = .inl none) (eM : M = M9) (eS : S = S9) (hφ : φ) (h1 : nc ≤ mc) (h2 : ns ≤ ms) (hr : ret = none := by rfl) : zJ K g nc ns pc nL lv [] M S := by
  obtain ⟨p, l, e, R, s, m, args, below, meth, c, Q⟩ := K
  obtain ⟨rfl, hx, hb, hml, hown, hts, hT, hO, hNw, hlk, htr⟩ := hC
  obtain ⟨hnm, hrt, rfl, rfl⟩ := hE
  intro H locs ls hR hS hl
  subst eM; subst eS
  refine W.widen h1 h2 ?_
  refine vx_ret (W.vret hx hb (hrt.trans hr) (fun t ht hW => ⟨⟨_, ho, rfl⟩, hφ, by rw [ht]; exact hR, hS.F ht⟩) hS.2.2 hd hlk)
theorem zGood {y : MethodName} {cc2 : ByteArray} {nL2 : Nat} {ret2 : Option FieldType} (h : Cond.code y cc2 nL2 ret2 ∈ zTs) : GoodIn zTs (.code y cc2 nL2 ret2 :: zTs) := fun w hw => by
  rcases List.mem_cons.mp hw with rfl | hw
  · exact ⟨h, zTs_good h⟩
  · exact ⟨hw, zTs_good hw⟩
theorem zRoom {L L2 mc ms mc2 ms2 nL2 : Nat} (h1 : nL2 ≤ 100) (h2 : L2 + 1 ≤ L) : (zRm L2 mc2 ms2).frames + 1 ≤ (zRm L mc ms).frames ∧ 8 + (nL2 + 11) + (zRm L2 mc2 ms2).locals ≤ (zRm L mc ms).locals := by
  unfold zRm
  dsimp only
  omega
end ZJ3
section ZRUN
variable {p : Program} {l : Launch} {e : Env} {R : Room} {s : State} {m : MethodId} {args : Array Value} {below : List Frame} {meth : Method} {c : Code} {H : Heap} {locs : List Loc} {cells slots : Nat} {Q : State → Prop}
variable {cc : ByteArray} {pc : Nat} {ls : Array Slot} {rest st0 : List Value} {g : zG} {M M1 : zM} {S S1 : zS} {H0 : Heap} {oc1 : Option Value ⊕ String} {φ1 : Prop} {mc ms : Nat} {a : Array Value}
/-- what comes behind a call -/
theorem zfinish (hr : vx_Run p l e R s m args below meth c H locs cells slots mc ms (F0 m pc ls st0) rest (zQc g oc1 M1 S1 φ1 a) (zXC g oc1 M1 S1 φ1) (zA g)) (hS : va_S (zA g) H0 H locs)
    (kx : ∀ (E : String) (ce : Cell) (q9 : Addr) (H1 : Heap) (locs1 : List Loc), oc1 = .inr E → φ1 → zR g M1 S1 H1 → va_S (zA g) H0 H1 locs1 → H1[q9]? = some ce → ce.vm = .none → s.vm.findClass E = some ce.cls → vx_W p l e R s m args below meth c H1 locs1 (cells + mc) (slots + ms) Q (F0 m pc ls rest) q9)
    (kk : ∀ (v : Option Value) (H1 : Heap) (locs1 : List Loc), oc1 = .inl v → φ1 → zR g M1 S1 H1 → va_S (zA g) H0 H1 locs1 → W p l e R s m args below meth c H1 locs1 (cells + mc) (slots + ms) Q (F0 m (pc + 3) ls (v.toList ++ rest))) : W p l e R s m args below meth c H locs cells slots Q (F0 m pc ls st0) := by
  intro T hT X
  rcases hr T hT X with ⟨v, st₀, t, T', L, h0, X', hL, e1, e2, ⟨⟨v2, hoc, hv⟩, hφ, hR1, hF⟩, st⟩ | ⟨q, st₀, t, T', L, E, ce, h0, X', hL, e1, e2, ⟨hoc, hφ, hR1, hF⟩, hce, hcv, hcl, st⟩
  · cases hv
    obtain ⟨k1, k2, k3⟩ := vx_keep h0 e1 hS (fun _ _ h => h) (fun _ h => h) hL hF
    obtain ⟨t2, a1, b1⟩ := kk v T'.heap (locs ++ L) hoc hφ (by rw [e1]; exact hR1) k3 T' rfl X'
    exact ⟨t2, st t2 a1, b1⟩
  · obtain ⟨k1, k2, k3⟩ := vx_keep h0 e1 hS (fun _ _ h => h) (fun _ h => h) hL hF
    obtain ⟨t2, a1, b1⟩ := kx E ce q T'.heap (locs ++ L) hoc hφ (by rw [e1]; exact hR1) k3 (by rw [e1]; exact hce) hcv hcl T' rfl X'
    exact ⟨t2, st.trans a1, b1⟩
end ZRUN
section ZJ4
variable {K : zK} {l0 : Launch} {g : zG} {cc : ByteArray} {nL nc ns pc : Nat} {own : String} {lv lv1 : List (Nat × Value)} {rest : List Value} {M M1 : zM} {S S1 : zS}
variable {nm : String} {ret : Option FieldType} {L mc ms : Nat} {oc : Option Value ⊕ String} {M9 : zM} {S9 : zS} {φ φ1 : Prop}
variable {y : MethodName} {cc2 : ByteArray} {nL2 : Nat} {ret2 : Option FieldType} {L2 mc2 ms2 n ix : Nat} {oc1 : Option Value ⊕ String} {As av : List Value}
theorem lv_sz {ls : Array Slot} {nL : Nat} {lv : List (Nat × Value)} (h : lv_has ls nL lv) : ls.size = nL := h.1
theorem z_runS {p : Program} {l : Launch} {e : Env} {s : State} {m : MethodId} {args : Array Value} {below : List Frame} {meth : Method} {c : Code} {Q : State → Prop} {H : Heap} {locs : List Loc} {ls : Array Slot} (hx : p.tables.exec = Jvm.exec) (hb : c.code = cc) (hml : c.maxLocals = nL) (hown : s.vm.findClass own = some m.cls) (hts : ∀ w ∈ zTs, w.before args s = true) (hNw : ∀ w ∈ zTn, va_Nw w s) (hT : zT g s) (hO : zO g s) (hR : zR g M S H) (hS : va_S (zA g) s.heap H locs) (hl : lv_has ls nL lv) (lk : zLkS own ix y cc2 nL2 ret2 n) (hd : decode cc pc = .ok (.invokestatic ix, 3)) (ct : zMet l g y cc2 nL2 ret2 L2 mc2 ms2 av M S oc1 M1 S1 φ1)  (hA : av = As) (hn : As.length = n) (hcat : (rest.map fun v => v.category).sum ≤ 8) (r1 : nL2 ≤ 100) (r2 : L2 + 1 ≤ L) (r3 : nc + mc2 ≤ mc) (r4 : ns + ms2 ≤ ms)
    (kx : ∀ (E : String) (ce : Cell) (q9 : Addr) (H1 : Heap) (locs1 : List Loc), oc1 = .inr E → φ1 → zR g M1 S1 H1 → va_S (zA g) s.heap H1 locs1 → H1[q9]? = some ce → ce.vm = .none → s.vm.findClass E = some ce.cls → vx_W p l e (zRm L mc ms) s m args below meth c H1 locs1 (nc + mc2) (ns + ms2) Q (F0 m pc ls rest) q9) (kk : ∀ (v : Option Value) (H1 : Heap) (locs1 : List Loc), oc1 = .inl v → φ1 → zR g M1 S1 H1 → va_S (zA g) s.heap H1 locs1 → W p l e (zRm L mc ms) s m args below meth c H1 locs1 (nc + mc2) (ns + ms2) Q (F0 m (pc + 3) ls (v.toList ++ rest))) : W p l e (zRm L mc ms) s m args below meth c H locs nc ns Q (F0 m pc ls (As.reverse ++ rest)) := by
  subst hA
  exact zfinish (vx_runS ⟨hx, hb, hml, hown, hts⟩ ct ⟨callB_of n hts (zGood lk.1.2.2.1) rfl rfl rfl (hts _ lk.1.2.1) (hts _ lk.1.1) ⟨lk.1.2.2.2.1.1, lk.1.2.2.2.1.2, lk.1.2.2.2.2⟩ (zRoom r1 r2), hts _ lk.2⟩ ⟨zBl g _ M S, (fun U hU hW => ⟨rfl, ⟨by rw [hU]; exact hR, hT.moved hW.alike, hO.kept hS hU hW, zNw_warm hW hNw⟩⟩)⟩ rfl hn hl.1 rfl (lv_room hcat) hd ⟨r3, r4⟩) hS kx kk
theorem z_runV {p : Program} {l : Launch} {e : Env} {s : State} {m : MethodId} {args : Array Value} {below : List Frame} {meth : Method} {c : Code} {Q : State → Prop} {H : Heap} {locs : List Loc} {ls : Array Slot} (hx : p.tables.exec = Jvm.exec) (hb : c.code = cc) (hml : c.maxLocals = nL) (hown : s.vm.findClass own = some m.cls) (hts : ∀ w ∈ zTs, w.before args s = true) (hNw : ∀ w ∈ zTn, va_Nw w s) (hT : zT g s) (hO : zO g s) (hR : zR g M S H) (hS : va_S (zA g) s.heap H locs) (hl : lv_has ls nL lv) (lk : zLkV own ix y cc2 nL2 ret2 n) (hd : decode cc pc = .ok (.invokevirtual ix, 3)) (ct : zMet l g y cc2 nL2 ret2 L2 mc2 ms2 av M S oc1 M1 S1 φ1) {a ci : Nat} (hk : zkd S a = ci) (hc : ∃ r, vwCl[ci]? = some r ∧ ci < 20 ∧ r.1 = y.cls) (hA : av = zr g a :: As) (hn : As.length = n) (hcat : (rest.map fun v => v.category).sum ≤ 8) (r1 : nL2 ≤ 100) (r2 : L2 + 1 ≤ L) (r3 : nc + mc2 ≤ mc) (r4 : ns + ms2 ≤ ms)
    (kx : ∀ (E : String) (ce : Cell) (q9 : Addr) (H1 : Heap) (locs1 : List Loc), oc1 = .inr E → φ1 → zR g M1 S1 H1 → va_S (zA g) s.heap H1 locs1 → H1[q9]? = some ce → ce.vm = .none → s.vm.findClass E = some ce.cls → vx_W p l e (zRm L mc ms) s m args below meth c H1 locs1 (nc + mc2) (ns + ms2) Q (F0 m pc ls rest) q9) (kk : ∀ (v : Option Value) (H1 : Heap) (locs1 : List Loc), oc1 = .inl v → φ1 → zR g M1 S1 H1 → va_S (zA g) s.heap H1 locs1 → W p l e (zRm L mc ms) s m args below meth c H1 locs1 (nc + mc2) (ns + ms2) Q (F0 m (pc + 3) ls (v.toList ++ rest))) : W p l e (zRm L mc ms) s m args below meth c H locs nc ns Q (F0 m pc ls (As.reverse ++ zr g a :: rest)) := by
  obtain ⟨r, hc1, h20, hc2⟩ := hc
  obtain ⟨r', g1, cell, q1, q2, q3, q4⟩ := (hR.2.1 a).1 (by rw [show (S.2.1 a).1 = ci from hk]; exact h20)
  rw [show (S.2.1 a).1 = ci from hk] at g1 q2 q4
  obtain rfl := Option.some.inj (g1.symm.trans hc1)
  have hz := (hR.pos (show (S.2.1 a).1 < 28 by show zkd S a < 28; omega)).1
  obtain ⟨-, hfc, -⟩ := hT.1.1 ci _ hc1
  rw [zr_nz hz] at hA ⊢
  subst hA
  exact zfinish (vx_runV ⟨hx, hb, hml, hown, hts⟩ ct ⟨callB_of n hts (zGood lk.1.2.2.1) rfl rfl rfl (hts _ lk.1.2.1) (hts _ lk.1.1) ⟨lk.1.2.2.2.1.1, lk.1.2.2.2.1.2, lk.1.2.2.2.2⟩ (zRoom r1 r2), hts _ lk.2.1, hts _ lk.2.2⟩ ⟨zBl g _ M S, ⟨cell, q1, by rw [q3]; rfl, by rw [q2, ← hc2]; exact hfc⟩, (fun U hU hW => ⟨rfl, ⟨by rw [hU]; exact hR, hT.moved hW.alike, hO.kept hS hU hW, zNw_warm hW hNw⟩⟩)⟩ rfl hn hl.1 rfl (lv_room hcat) hd ⟨r3, r4⟩) hS kx kk
theorem z_runI {p : Program} {l : Launch} {e : Env} {s : State} {m : MethodId} {args : Array Value} {below : List Frame} {meth : Method} {c : Code} {Q : State → Prop} {H : Heap} {locs : List Loc} {ls : Array Slot} (hx : p.tables.exec = Jvm.exec) (hb : c.code = cc) (hml : c.maxLocals = nL) (hown : s.vm.findClass own = some m.cls) (hts : ∀ w ∈ zTs, w.before args s = true) (hNw : ∀ w ∈ zTn, va_Nw w s) (hT : zT g s) (hO : zO g s) (hR : zR g M S H) (hS : va_S (zA g) s.heap H locs) (hl : lv_has ls nL lv) (lk : zLkI own ix y cc2 nL2 none n) (hd : decode cc pc = .ok (.invokespecial ix, 3)) (ct : zMet l g y cc2 nL2 none L2 mc2 ms2 av M S oc1 M1 S1 φ1) {a : Nat} (hz : a ≠ 0) (hA : av = zr g a :: As) (hn : As.length = n) (hcat : (rest.map fun v => v.category).sum ≤ 8) (r1 : nL2 ≤ 100) (r2 : L2 + 1 ≤ L) (r3 : nc + mc2 ≤ mc) (r4 : ns + ms2 ≤ ms)
    (kx : ∀ (E : String) (ce : Cell) (q9 : Addr) (H1 : Heap) (locs1 : List Loc), oc1 = .inr E → φ1 → zR g M1 S1 H1 → va_S (zA g) s.heap H1 locs1 → H1[q9]? = some ce → ce.vm = .none → s.vm.findClass E = some ce.cls → vx_W p l e (zRm L mc ms) s m args below meth c H1 locs1 (nc + mc2) (ns + ms2) Q (F0 m pc ls rest) q9) (kk : ∀ (v : Option Value) (H1 : Heap) (locs1 : List Loc), oc1 = .inl v → φ1 → zR g M1 S1 H1 → va_S (zA g) s.heap H1 locs1 → W p l e (zRm L mc ms) s m args below meth c H1 locs1 (nc + mc2) (ns + ms2) Q (F0 m (pc + 3) ls (v.toList ++ rest))) : W p l e (zRm L mc ms) s m args below meth c H locs nc ns Q (F0 m pc ls (As.reverse ++ zr g a :: rest)) := by
  rw [zr_nz hz] at hA ⊢
  subst hA
  exact zfinish (vx_runI ⟨hx, hb, hml, hown, hts⟩ ct ⟨callB_of n hts (zGood lk.1.2.2.1) rfl rfl rfl (hts _ lk.1.2.1) (hts _ lk.1.1) ⟨lk.1.2.2.2.1.1, lk.1.2.2.2.1.2, lk.1.2.2.2.2⟩ (zRoom r1 r2), lk.2.2, hts _ lk.2.1⟩ ⟨zBl g _ M S, (fun U hU hW => ⟨rfl, ⟨by rw [hU]; exact hR, hT.moved hW.alike, hO.kept hS hU hW, zNw_warm hW hNw⟩⟩)⟩ rfl hn hl.1 rfl (lv_room hcat) hd ⟨r3, r4⟩) hS kx kk
theorem z_runIN {p : Program} {l : Launch} {e : Env} {s : State} {m : MethodId} {args : Array Value} {below : List Frame} {meth : Method} {c : Code} {Q : State → Prop} {H : Heap} {locs : List Loc} {ls : Array Slot} (hx : p.tables.exec = Jvm.exec) (hb : c.code = cc) (hml : c.maxLocals = nL) (hown : s.vm.findClass own = some m.cls) (hts : ∀ w ∈ zTs, w.before args s = true) (hNw : ∀ w ∈ zTn, va_Nw w s) (hT : zT g s) (hO : zO g s) (hR : zR g M S H) (hS : va_S (zA g) s.heap H locs) (hl : lv_has ls nL lv) (lk : zLkIN own ix y cc2 nL2 none n) (hd : decode cc pc = .ok (.invokespecial ix, 3)) (ct : zMet l g y cc2 nL2 none L2 mc2 ms2 av M S oc1 M1 S1 φ1) {a : Nat} (hz : a ≠ 0) (hA : av = zr g a :: As) (hn : As.length = n) (hcat : (rest.map fun v => v.category).sum ≤ 8) (r1 : nL2 ≤ 100) (r2 : L2 + 1 ≤ L) (r3 : nc + mc2 ≤ mc) (r4 : ns + ms2 ≤ ms)
    (kx : ∀ (E : String) (ce : Cell) (q9 : Addr) (H1 : Heap) (locs1 : List Loc), oc1 = .inr E → φ1 → zR g M1 S1 H1 → va_S (zA g) s.heap H1 locs1 → H1[q9]? = some ce → ce.vm = .none → s.vm.findClass E = some ce.cls → vx_W p l e (zRm L mc ms) s m args below meth c H1 locs1 (nc + mc2) (ns + ms2) Q (F0 m pc ls rest) q9) (kk : ∀ (v : Option Value) (H1 : Heap) (locs1 : List Loc), oc1 = .inl v → φ1 → zR g M1 S1 H1 → va_S (zA g) s.heap H1 locs1 → W p l e (zRm L mc ms) s m args below meth c H1 locs1 (nc + mc2) (ns + ms2) Q (F0 m (pc + 3) ls (v.toList ++ rest))) : W p l e (zRm L mc ms) s m args below meth c H locs nc ns Q (F0 m pc ls (As.reverse ++ zr g a :: rest)) := by
  obtain ⟨⟨⟨host, hnest⟩, lini, lcode, lne, lpar⟩, linst, lnm⟩ := lk
  rw [zr_nz hz] at hA ⊢
  subst hA
  have hB := va_cnB (R := zRm L mc ms) (rm := zRm L2 mc2 ms2) (mc := mc2) (ms := ms2) n hts (zGood lcode) rfl rfl rfl (hNw _ hnest) (hts _ lini) ⟨lne.1, lne.2, lpar⟩ (zRoom (mc := mc) (ms := ms) (mc2 := mc2) (ms2 := ms2) r1 r2)
  exact zfinish (vx_runIN ⟨hx, hb, hml, hown, hts⟩ ct ⟨hB, lnm, hts _ linst⟩ ⟨zBl g _ M S, (fun U hU hW => ⟨rfl, ⟨by rw [hU]; exact hR, hT.moved hW.alike, hO.kept hS hU hW, zNw_warm hW hNw⟩⟩)⟩ rfl hn hl.1 rfl (lv_room hcat) hd ⟨r3, r4⟩) hS kx kk
end ZJ4
