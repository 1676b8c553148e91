/-! METHODS WITH EXCEPTION TABLES: contracts, catches, calls -/
def zTb (K : zK) (hh : List (Nat × Nat × Nat × Nat)) : Prop := match K with
  | (p, l, e, R, s, m, args, below, meth, c, Q) => c.exceptionTable.toList = tableOf hh
def zMetH (l : Launch) (g : zG) (y : MethodName) (cc : ByteArray) (nL : Nat) (ret : Option FieldType) (hh : List (Nat × Nat × Nat × Nat)) (L mc ms : Nat) (av : List Value) (M : zM) (S : zS) (oc : Option Value ⊕ String) (M' : zM) (S' : zS) (φ : Prop) : Prop := vx_Met l y (.codeWith y cc nL ret hh :: zTs) (zRm L mc ms) (va_Pc av (zB g M S)) (zQc g oc M' S' φ) (zXC g oc M' S' φ) mc ms (zA g)
theorem zMetH_of {l : Launch} {g : zG} {y : MethodName} {cc : ByteArray} {nL : Nat} {ret : Option FieldType} {hh : List (Nat × Nat × Nat × Nat)} {L mc ms : Nat} {av : List Value} {M : zM} {S : zS} {oc : Option Value ⊕ String} {M' : zM} {S' : zS} {φ : Prop} (hy : plainName y.cls = true) (hlt : l.stackTraces = false) (lv0 : List (Nat × Value)) (hlv : lv_args 0 av = lv0) (hsl : (lg_sl av).length ≤ nL)
    (body : ∀ K : zK, zC K l g cc nL y.cls → zE K g y.name ret L mc ms oc M' S' φ → zTb K hh → zJ K g 0 0 0 nL lv0 [] M S) : zMetH l g y cc nL ret hh L mc ms av M S oc M' S' φ := by
  refine vx_ofWH (cc := cc) (maxL := nL) (ret := ret) (hh := hh) hy rfl ?_
  intro p e s m args below meth c s₁ B hml hv
  obtain ⟨rfl, hR, hT, hO, hNw⟩ := hv
  have hts := atoms_spec (ws := .codeWith y cc nL ret hh :: zTs) B.pre
  have htab := vx_table (x := y) B (hts _ List.mem_cons_self)
  have hl := lv_entry av (n := nL) hsl
  rw [hlv] at hl
  rw [lg_entry_eq]
  generalize (lg_sl av ++ List.replicate (nL - (lg_sl av).length) Slot.unset).toArray = ls at hl ⊢
  exact body (p, l, e, zRm L mc ms, s, m, av.toArray, below, meth, c, _) ⟨rfl, B.exec, B.bytes, hml, findClass_of_methodNamed B.named, fun w hw => hts w (List.mem_cons_of_mem _ hw), hT, hO, hNw, B.notSynchronized, hlt⟩ ⟨(name_of_methodNamed B.named B.method).1, B.returns, rfl, rfl⟩ htab s.heap [] ls hR va_S.rf hl
section ZJ12
variable {K : zK} {l0 : Launch} {g : zG} {cc : ByteArray} {nL nc ns pc : Nat} {own : String} {lv lv1 : List (Nat × Value)} {rest : List Value} {M M1 : zM} {S S1 : zS}
variable {nm : String} {ret : Option FieldType} {L mc ms : Nat} {oc : Option Value ⊕ String} {M9 : zM} {S9 : zS} {φ φ1 : Prop}
variable {y : MethodName} {cc2 : ByteArray} {nL2 : Nat} {ret2 : Option FieldType} {L2 mc2 ms2 n ix : Nat} {av st : List Value}
theorem j_catch (hC : zC K l0 g cc nL own) {hh pre suf : List (Nat × Nat × Nat × Nat)} {x : Nat × Nat × Nat × Nat} {e9 : Nat} (hTb : zTb K hh) (hsplit : hh = pre ++ x :: suf) (hp : ∀ z ∈ pre, z.2.2.2 ≠ 0 ∧ ∃ nm : String, Cond.classLink own z.2.2.2 nm ∈ zTs ∧ (zEx e9, nm) ∈ zNcL) (hx1 : x.1 ≤ pc) (hx2 : pc < x.2.1) (h0 : x.2.2.2 ≠ 0) (link : Cond.classLink own x.2.2.2 (zEx e9) ∈ zTs) (cast : Cond.castable (zEx e9) (zEx e9) ∈ zTn) (k : ∀ qx : Nat, zJ K g nc ns x.2.2.1 nL lv [.ref qx] M S) : zJx K g nc ns pc nL lv rest M S e9 := by
  obtain ⟨p, l, e, R, s, m, args, below, meth, c, Q⟩ := K
  obtain ⟨rfl, hx, hb, hml, hown, hts, hT, hO, hNw, hlk, htr⟩ := hC
  intro H locs ls q9 ce hR hS hl hce hcv hcl
  have ht : c.exceptionTable.toList = tableOf pre ++ ⟨x.1, x.2.1, x.2.2.1, x.2.2.2⟩ :: tableOf suf := by
    rw [show c.exceptionTable.toList = tableOf hh from hTb, hsplit]
    simp only [tableOf, List.map_append, List.map_cons]
  have hnc := hO.2.2.2.2.2.2.2.2.2.2.2.2.2.1
  refine vx_catch hown (tableOf pre) _ (tableOf suf) ht (fun z hz => Or.inr ?_) ?_ h0 (hts _ link) (va_Nw.use rfl (hNw _ cast)) hce hcv hcl (k q9 H locs ls hR hS hl)
  · obtain ⟨z9, hz9, rfl⟩ := List.mem_map.mp hz
    obtain ⟨a1, nm9, a2, a3⟩ := hp z9 hz9
    exact ⟨a1, nm9, hts _ a2, hnc _ a3⟩
  · simp only [covers, Bool.and_eq_true, decide_eq_true_eq]
    exact ⟨hx1, hx2⟩
def zLkT (own : String) (ix : Nat) (y : MethodName) (cc2 : ByteArray) (nL2 : Nat) (ret2 : Option FieldType) (hh : List (Nat × Nat × Nat × Nat)) (n : Nat) : Prop := Cond.methodLink own ix y ∈ zTs ∧ Cond.initialized y.cls ∈ zTs ∧ Cond.codeWith y cc2 nL2 ret2 hh ∈ zTs ∧ Cond.static y ∈ zTs ∧ (y.cls ≠ "java/lang/invoke/MethodHandle" ∧ y.cls ≠ "java/lang/invoke/VarHandle" ∧ (parseMethodDescriptor y.desc).map (fun d => d.parameters.length) = some n)
theorem j_callTi (hC : zC K l0 g cc nL own) (hE : zE K g nm ret L mc ms oc M9 S9 φ) {r : Int} {hh : List (Nat × Nat × Nat × Nat)} (lk : zLkT own ix y cc2 nL2 ret2 hh n) (hd : decode cc pc = .ok (.invokestatic ix, 3)) (ct : zMetH l0 g y cc2 nL2 ret2 hh L2 mc2 ms2 av M S (.inl (some (.int (zi r)))) M1 S1 φ1) (As rest : List Value) (hst : st = As.reverse ++ rest) (hA : av = As) (hn : As.length = n) (hcat : rest.length ≤ 4) (r1 : nL2 ≤ 100) (r2 : L2 + 1 ≤ L) (r3 : nc + mc2 ≤ mc) (r4 : ns + ms2 ≤ ms) (k : φ1 → zJ K g (nc + mc2) (ns + ms2) (pc + 3) nL lv (.int (zi r) :: rest) M1 S1) : zJ K g nc ns pc nL lv st M S := by
  obtain ⟨p, l, e, R, s, m, args, below, meth, c, Q⟩ := K
  obtain ⟨rfl, hx, hb, hml, hown, hts, hT, hO, hNw, hlk, htr⟩ := hC
  obtain ⟨hnm, hrt, rfl, rfl⟩ := hE
  subst hst
  subst hA
  intro H locs ls hR hS hl
  have hG : GoodIn zTs (va_wsS own ix y (.codeWith y cc2 nL2 ret2 hh :: zTs)) := fun w hw => by
    have hw2 : w ∈ zTs := by
      simp only [va_wsS, List.cons_append, List.nil_append, List.mem_cons, List.mem_append] at hw
      rcases hw with rfl | rfl | rfl | rfl | hw
      all_goals first | exact lk.1 | exact lk.2.1 | exact lk.2.2.1 | exact lk.2.2.2.1 | exact hw
    exact ⟨hw2, zTs_good hw2⟩
  exact zfinish (vx_runSX ⟨hx, hb, hml, hown, hts⟩ ct (vx_cwSW n hts hG rfl rfl rfl lk.2.2.2.2 (zRoom r1 r2)) ⟨zBl g _ M S, (fun U hU hW => ⟨rfl, ⟨by rw [hU]; exact hR, hT.moved hW.alike, hO.kept hS hU hW, zNw_warm hW hNw⟩⟩)⟩ rfl hn hl.1 rfl (lv_room (zcat hcat)) hd ⟨r3, r4⟩) hS (fun E ce q9 H1 locs1 hoc => by cases hoc) (fun v H1 locs1 hoc hφ hR1 hS1 => by cases hoc; exact k hφ H1 locs1 ls hR1 hS1 hl)
end ZJ12
