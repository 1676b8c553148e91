/-! NEW CELLS, references stored, arrays copied, exceptions thrown -/
section ZTHR
variable {p : Program} {l : Launch} {e : Env} {R : Room} {s : State} {m : MethodId} {args : Array Value} {below : List Frame} {meth : Method} {c : Code} {H : Heap} {locs : List Loc} {cells slots : Nat} {Q : State → Prop}
variable {mc ms : Nat} {free : Addr → Prop} {A0 A1 : Nat → Prop} {H0 : Heap} {a : Array Value} {ls : Array Slot} {st0 rest : List Value}
variable {Qc : Array Value → State → Outcome → State → Prop} {XC : String → State → State → Prop}
theorem z_throwS {cc : ByteArray} {pc : Nat} (hexec : p.tables.exec = Jvm.exec) (hb : c.code = cc) (hl : l.stackTraces = false) {own cls text : String} {names : List String} {ik is ic mc ms sa : Nat} {A : Nat → Prop}
    (hown : s.vm.findClass own = some m.cls) (hcls : Bundle.fit cls = true) (hnames : ∀ n ∈ names, Bundle.fit n = true)
    (hk : (Cond.classLink own ik cls).before args s = true) (hini : (Cond.initialized cls).before args s = true) (hstr : vk_R own is text sa s) (hat : ∀ w ∈ vx_atS own ic cls names, w.before args s = true)
    (hgood : ∀ w ∈ Cond.classLink own ik cls :: Cond.initialized cls :: vx_atS own ic cls names, vx_ot w = true)
    (hU : vx_Zq Bundle.tN "UNASSIGNED_STACK" Bundle.steD A s s.heap) (hN : vx_Zq Bundle.tN "SUPPRESSED_SENTINEL" Bundle.listD A s s.heap) (hS : va_S A s.heap H locs) (hsize : ls.size = c.maxLocals)
    (d0 : decode cc pc = .ok (.new ik, 3)) (d3 : decode cc (pc + 3) = .ok (.dup, 1)) (d4 : decode cc (pc + 4) = .ok (.ldc is, 2)) (d6 : decode cc (pc + 6) = .ok (.invokespecial ic, 3)) (d9 : decode cc (pc + 9) = .ok (.athrow, 1))
    (hout : ∀ x ∈ c.exceptionTable.toList, covers x (pc + 9) = false)
    (hRframes : names.length + 3 < R.frames) (hRlocals : (rest.map fun v => v.category).sum + (13 * (names.length + 1) + 43) ≤ R.locals) (hRcells : cells + 1 ≤ R.cells) (hRslots : slots + 6 ≤ R.slots) (hlocks : meth.locks = false)
    (hx : ∀ t : State, s.vm.Alike t.vm → t.heap.size = H.size + 1 → (∀ q : Nat, q < H.size → t.heap[q]? = H[q]?) → (∃ c1 : Cell, t.heap[H.size]? = some c1 ∧ c1.slots.size ≤ 6) → XC cls s t)
    (hf : ∀ z ∈ locs, free z.base) (hc : cells + 1 ≤ mc) (hs : slots + 6 ≤ ms) :
    W p l e R s m args below meth c H locs cells slots (vx_MQ below Qc XC args s mc ms free) (F0 m pc ls rest) := by
  intro T hT X
  have htr : e.platform.stackTraces = false := (show e.platform.stackTraces = l.stackTraces by rw [X.admits.platform]).trans hl
  have Y := vx_rebase X (R' := { frames := R.frames, locals := R.locals, cells := 1, slots := 6 }) (Nat.le_refl _) (Nat.le_refl _) hRcells hRslots
  obtain ⟨s', hA⟩ : ∃ z, z = (T.setVm s.vm).setFrames (.invoking m args :: below) := ⟨_, rfl⟩
  rw [← hA] at Y
  have hvm : s'.vm = s.vm := by rw [hA]; rfl
  have hhp : s'.heap = H := by rw [hA]; exact hT
  have hW0 : s.WarmedH s'.vm := by rw [hvm]; exact State.WarmedH.refl s
  have hat' : ∀ w ∈ vx_atS own ic cls names, w.before args s' = true := fun w hw => vx_ot_at hW0 hvm.symm (hgood w (List.mem_cons_of_mem _ (List.mem_cons_of_mem _ hw))) (hat w hw)
  have hk' : (Cond.classLink own ik cls).before args s' = true := vx_ot_at hW0 hvm.symm (hgood _ List.mem_cons_self) hk
  have hini' : (Cond.initialized cls).before args s' = true := vx_ot_at hW0 hvm.symm (hgood _ (List.mem_cons_of_mem _ List.mem_cons_self)) hini
  have hU' : vx_Zq Bundle.tN "UNASSIGNED_STACK" Bundle.steD A s' s'.heap := by rw [hhp]; exact vx_Zq.moved hW0.alike (hU.kept hS.2.1)
  have hN' : vx_Zq Bundle.tN "SUPPRESSED_SENTINEL" Bundle.listD A s' s'.heap := by rw [hhp]; exact vx_Zq.moved hW0.alike (hN.kept hS.2.1)
  have h : ∀ w ∈ Bundle.ownAtoms own ic cls names, w.before args s' = true := vx_own hat' (vx_isRefq hU'.1) (vx_isRefq hN'.1) hU'.2.word hN'.2.word
  have hown' : s'.vm.findClass own = some m.cls := by rw [hvm]; exact hown
  have hins : (Cond.instantiable cls 6).before args s' = true := h _ (by simp [Bundle.ownAtoms])
  obtain ⟨vm₁, cX, kX, hfX, hkX, -, -, X₁, st1⟩ := Y.newCold hexec (own := own) (C := cls) (index := ik) (n := 6) hown' hk' hins hini'
    (g := F0 m pc ls rest) rfl (by rw [hb]; exact d0) (Nat.le_refl _) (Nat.le_refl _)
  generalize hT1 : (T.setVm vm₁).pushCell { cls := cX, slots := kX.instanceTypes.map defaultValue, vm := .none } = T1 at X₁ st1
  have hcat : (Value.ref T.heap.size).category = 1 := rfl
  have hcellA : T1.heap[T.heap.size]? = some (freshCell cX kX) := by rw [← hT1]; exact State.heap_pushCell_size _ _
  have d3' : decode c.code (pc + 3) = .ok (.dup, 1) := by rw [hb]; exact d3
  have d4' : decode c.code (pc + 4) = .ok (.ldc is, 2) := by rw [hb]; exact d4
  have hstr' : vk_R own is text sa s' := vk_R.warm hW0 hstr
  obtain ⟨U, hsteps, hrun, hend, hW, hsame, ce, hce, hO⟩ := X₁.ctorThrowS hexec htr (own := own) (cls := cls) (names := names) (ic := ic) hown' hcls hnames h (fun x hx => nomatch hx) hfX hkX hcellA (by rw [hhp, hT]; exact Nat.le_refl _) (msg := .ref sa) rfl
    (g := { method := m, pc := pc + 6, locals := ls, stack := .ref sa :: .ref T.heap.size :: .ref T.heap.size :: rest, locked := none }) rfl hsize rfl rfl (rest := rest) rfl
    (by rw [hb]; exact d6) (by rw [hb]; exact d9) hout hRframes (by simp only [List.map_cons, List.sum_cons, hcat]; omega) hlocks
  have f0 : U.heap.size ≤ s'.heap.size + 1 := hsame.2.2.1
  have f7 : ce.slots.size ≤ 6 := drop_sz (n := s'.heap.size) (by rw [hhp, ← hT]; exact hce) hsame.2.2.2.2.1
  have f9 := (Array.getElem?_eq_some_iff.mp hce).1
  obtain ⟨f1, f2⟩ := vx_frame hsame
  rw [hhp] at f0 f1 f2
  have f8 : U.heap.size = H.size + 1 := by rw [hT] at f9; omega
  have hWs : s.WarmedH U.vm := State.WarmedH.trans hW0 hW
  have hcl : s.vm.findClass cls = some ce.cls := by
    have h9 := hO.cls
    rw [hvm] at h9
    exact h9
  have hall : s.sameButNew ({ U with vm := s.vm } : State) locs mc ms := by
    subst hA
    obtain ⟨e1, e2⟩ := hsame
    rw [State.setFrames_setFrames] at e1
    have h2 : (T.setVm s.vm).sameButNew ({ U with vm := s.vm } : State) [] (0 + 1) (0 + 6) := ⟨e1, e2⟩
    have h3 := X.same.trans h2
    rw [List.append_nil] at h3
    exact h3.mono hc hs
  refine ⟨U, ?_, .threw T.heap.size, hrun, hend, Or.inr ⟨T.heap.size, rfl, cls, ce, locs, hx U hWs.alike f8 (fun q hq => f2 q hq (fun z hz => nomatch hz)) ⟨ce, by rw [← hT]; exact hce, f7⟩, hce, hO.vm, hcl, hWs, hall, hf⟩⟩
  refine st1 _ ?_
  show Steps p.tables e below (T1.setTop { method := m, pc := pc + 3, locals := ls, stack := .ref T.heap.size :: rest, locked := none }) _
  jvm_step X₁.here [X₁.here.top, hexec, d3', Value.category]
  exact X₁.ldcString hexec (own := own) (text := text) (index := is) (a := sa) hown' hstr'.1 hstr'.2
    (g := { method := m, pc := pc + 4, locals := ls, stack := .ref T.heap.size :: .ref T.heap.size :: rest, locked := none }) rfl d4' _ hsteps
theorem z_throwSW {cc : ByteArray} {pc : Nat} (hexec : p.tables.exec = Jvm.exec) (hb : c.code = cc) (hl : l.stackTraces = false) {own cls text : String} {names : List String} {ik is ic mc ms sa : Nat} {A : Nat → Prop}
    (hown : s.vm.findClass own = some m.cls) (hcls : Bundle.fit cls = true) (hnames : ∀ n ∈ names, Bundle.fit n = true)
    (hk : (Cond.classLink own ik cls).before args s = true) (hini : (Cond.initialized cls).before args s = true) (hstr : vk_R own is text sa s) (hat : ∀ w ∈ vx_atS own ic cls names, w.before args s = true)
    (hgood : ∀ w ∈ Cond.classLink own ik cls :: Cond.initialized cls :: vx_atS own ic cls names, vx_ot w = true)
    (hU : vx_Zq Bundle.tN "UNASSIGNED_STACK" Bundle.steD A s s.heap) (hN : vx_Zq Bundle.tN "SUPPRESSED_SENTINEL" Bundle.listD A s s.heap) (hS : va_S A s.heap H locs) (hsize : ls.size = c.maxLocals)
    (d0 : decode cc pc = .ok (.new ik, 3)) (d3 : decode cc (pc + 3) = .ok (.dup, 1)) (d4 : decode cc (pc + 4) = .ok (.ldc_w is, 3)) (d7 : decode cc (pc + 7) = .ok (.invokespecial ic, 3)) (d10 : decode cc (pc + 10) = .ok (.athrow, 1))
    (hout : ∀ x ∈ c.exceptionTable.toList, covers x (pc + 10) = false)
    (hRframes : names.length + 3 < R.frames) (hRlocals : (rest.map fun v => v.category).sum + (13 * (names.length + 1) + 43) ≤ R.locals) (hRcells : cells + 1 ≤ R.cells) (hRslots : slots + 6 ≤ R.slots) (hlocks : meth.locks = false)
    (hx : ∀ t : State, s.vm.Alike t.vm → t.heap.size = H.size + 1 → (∀ q : Nat, q < H.size → t.heap[q]? = H[q]?) → (∃ c1 : Cell, t.heap[H.size]? = some c1 ∧ c1.slots.size ≤ 6) → XC cls s t)
    (hf : ∀ z ∈ locs, free z.base) (hc : cells + 1 ≤ mc) (hs : slots + 6 ≤ ms) :
    W p l e R s m args below meth c H locs cells slots (vx_MQ below Qc XC args s mc ms free) (F0 m pc ls rest) := by
  intro T hT X
  have htr : e.platform.stackTraces = false := (show e.platform.stackTraces = l.stackTraces by rw [X.admits.platform]).trans hl
  have Y := vx_rebase X (R' := { frames := R.frames, locals := R.locals, cells := 1, slots := 6 }) (Nat.le_refl _) (Nat.le_refl _) hRcells hRslots
  obtain ⟨s', hA⟩ : ∃ z, z = (T.setVm s.vm).setFrames (.invoking m args :: below) := ⟨_, rfl⟩
  rw [← hA] at Y
  have hvm : s'.vm = s.vm := by rw [hA]; rfl
  have hhp : s'.heap = H := by rw [hA]; exact hT
  have hW0 : s.WarmedH s'.vm := by rw [hvm]; exact State.WarmedH.refl s
  have hat' : ∀ w ∈ vx_atS own ic cls names, w.before args s' = true := fun w hw => vx_ot_at hW0 hvm.symm (hgood w (List.mem_cons_of_mem _ (List.mem_cons_of_mem _ hw))) (hat w hw)
  have hk' : (Cond.classLink own ik cls).before args s' = true := vx_ot_at hW0 hvm.symm (hgood _ List.mem_cons_self) hk
  have hini' : (Cond.initialized cls).before args s' = true := vx_ot_at hW0 hvm.symm (hgood _ (List.mem_cons_of_mem _ List.mem_cons_self)) hini
  have hU' : vx_Zq Bundle.tN "UNASSIGNED_STACK" Bundle.steD A s' s'.heap := by rw [hhp]; exact vx_Zq.moved hW0.alike (hU.kept hS.2.1)
  have hN' : vx_Zq Bundle.tN "SUPPRESSED_SENTINEL" Bundle.listD A s' s'.heap := by rw [hhp]; exact vx_Zq.moved hW0.alike (hN.kept hS.2.1)
  have h : ∀ w ∈ Bundle.ownAtoms own ic cls names, w.before args s' = true := vx_own hat' (vx_isRefq hU'.1) (vx_isRefq hN'.1) hU'.2.word hN'.2.word
  have hown' : s'.vm.findClass own = some m.cls := by rw [hvm]; exact hown
  have hins : (Cond.instantiable cls 6).before args s' = true := h _ (by simp [Bundle.ownAtoms])
  obtain ⟨vm₁, cX, kX, hfX, hkX, -, -, X₁, st1⟩ := Y.newCold hexec (own := own) (C := cls) (index := ik) (n := 6) hown' hk' hins hini'
    (g := F0 m pc ls rest) rfl (by rw [hb]; exact d0) (Nat.le_refl _) (Nat.le_refl _)
  generalize hT1 : (T.setVm vm₁).pushCell { cls := cX, slots := kX.instanceTypes.map defaultValue, vm := .none } = T1 at X₁ st1
  have hcat : (Value.ref T.heap.size).category = 1 := rfl
  have hcellA : T1.heap[T.heap.size]? = some (freshCell cX kX) := by rw [← hT1]; exact State.heap_pushCell_size _ _
  have d3' : decode c.code (pc + 3) = .ok (.dup, 1) := by rw [hb]; exact d3
  have d4' : decode c.code (pc + 4) = .ok (.ldc_w is, 3) := by rw [hb]; exact d4
  have hstr' : vk_R own is text sa s' := vk_R.warm hW0 hstr
  obtain ⟨U, hsteps, hrun, hend, hW, hsame, ce, hce, hO⟩ := X₁.ctorThrowS hexec htr (own := own) (cls := cls) (names := names) (ic := ic) hown' hcls hnames h (fun x hx => nomatch hx) hfX hkX hcellA (by rw [hhp, hT]; exact Nat.le_refl _) (msg := .ref sa) rfl
    (g := { method := m, pc := pc + 7, locals := ls, stack := .ref sa :: .ref T.heap.size :: .ref T.heap.size :: rest, locked := none }) rfl hsize rfl rfl (rest := rest) rfl
    (by rw [hb]; exact d7) (by rw [hb]; exact d10) hout hRframes (by simp only [List.map_cons, List.sum_cons, hcat]; omega) hlocks
  have f0 : U.heap.size ≤ s'.heap.size + 1 := hsame.2.2.1
  have f7 : ce.slots.size ≤ 6 := drop_sz (n := s'.heap.size) (by rw [hhp, ← hT]; exact hce) hsame.2.2.2.2.1
  have f9 := (Array.getElem?_eq_some_iff.mp hce).1
  obtain ⟨f1, f2⟩ := vx_frame hsame
  rw [hhp] at f0 f1 f2
  have f8 : U.heap.size = H.size + 1 := by rw [hT] at f9; omega
  have hWs : s.WarmedH U.vm := State.WarmedH.trans hW0 hW
  have hcl : s.vm.findClass cls = some ce.cls := by
    have h9 := hO.cls
    rw [hvm] at h9
    exact h9
  have hall : s.sameButNew ({ U with vm := s.vm } : State) locs mc ms := by
    subst hA
    obtain ⟨e1, e2⟩ := hsame
    rw [State.setFrames_setFrames] at e1
    have h2 : (T.setVm s.vm).sameButNew ({ U with vm := s.vm } : State) [] (0 + 1) (0 + 6) := ⟨e1, e2⟩
    have h3 := X.same.trans h2
    rw [List.append_nil] at h3
    exact h3.mono hc hs
  refine ⟨U, ?_, .threw T.heap.size, hrun, hend, Or.inr ⟨T.heap.size, rfl, cls, ce, locs, hx U hWs.alike f8 (fun q hq => f2 q hq (fun z hz => nomatch hz)) ⟨ce, by rw [← hT]; exact hce, f7⟩, hce, hO.vm, hcl, hWs, hall, hf⟩⟩
  refine st1 _ ?_
  show Steps p.tables e below (T1.setTop { method := m, pc := pc + 3, locals := ls, stack := .ref T.heap.size :: rest, locked := none }) _
  jvm_step X₁.here [X₁.here.top, hexec, d3', Value.category]
  exact X₁.ldcStringW hexec (own := own) (text := text) (index := is) (a := sa) hown' hstr'.1 hstr'.2
    (g := { method := m, pc := pc + 4, locals := ls, stack := .ref T.heap.size :: .ref T.heap.size :: rest, locked := none }) rfl d4' _ hsteps
end ZTHR
theorem zS_more {g : zG} {s : State} {H H1 : Heap} {locs : List Loc} {n : Nat} (hS : va_S (zA g) s.heap H locs) (z : H1.size = H.size + n) (o1 : ∀ q, q < H.size → H1[q]? = H[q]?) : va_S (zA g) s.heap H1 locs := ⟨Nat.le_trans hS.1 (by omega), fun x h1 h2 => (o1 x (Nat.lt_of_lt_of_le h1 hS.1)).trans (hS.2.1 x h1 h2), hS.2.2⟩
theorem zdef {g : zG} {ty : FieldType} (h : ty ≠ .float) : defaultValue ty = zv g (ztc ty) 0 0 := by
  cases ty <;> first | rfl | exact absurd rfl h | (show Value.int 0 = Value.int (zi 0); rfl)
theorem zR_arr {g : zG} {M : zM} {S : zS} {H H1 : Heap} (hR : zR g M S H) {kd N : Nat} (hsp : zst S N) (h20 : 20 ≤ kd) (h28 : kd < 28) (hN : N < 100000) (hf : zat kd ≠ .float) (z : H1.size = H.size + 1) (o1 : ∀ q, q < H.size → H1[q]? = H[q]?) (e : H1[H.size]? = some (arrV (zc g kd) N (fun _ => defaultValue (zat kd)))) : zR g M (zn S (kd, N)) H1 := by
  have h9 := hR.2.2.1.1 (S.1 + 1) (Or.inr (Nat.lt_succ_self _))
  refine hR.more hsp (Nat.le_refl _) ⟨_, e, by rw [arrV_size]; exact Nat.le_max_right _ _⟩ z o1 ⟨fun q => ?_, fun _ _ => ?_⟩ hN
  · rw [show (zn S (kd, N)).2.1 (S.1 + 1) = (kd, N) from up_eq _ _ _] at q
    exact absurd q (Nat.not_lt.mpr h20)
  · rw [show (zn S (kd, N)).2.1 (S.1 + 1) = (kd, N) from up_eq _ _ _]
    rw [show zad g (S.1 + 1) = H.size by rw [(zad_new hsp).1, hR.1], e, h9.2.1, show (zn S (kd, N)).2.2 (S.1 + 1) = fun _ => 0 from h9.2.2]
    congr 2
    funext j
    exact zdef hf
theorem zT_arr {g : zG} {U : State} (hT : zT g U) {kd : Nat} {cA : ClassId} (h20 : 20 ≤ kd) (h28 : kd < 28) (hp : ∀ C, zat kd ≠ .object C) (h : U.vm.findClass ("[" ++ (zat kd).toString) = some cA) : cA = zc g kd := by
  have h1 := (hT.2 kd h20 h28).2
  unfold va_RA at h1
  cases hz : zat kd with
  | object C => exact absurd hz (hp C)
  | _ => rw [hz] at h1 h; exact Option.some.inj (h.symm.trans h1)
theorem zT_arrO {g : zG} {U : State} (hT : zT g U) {kd : Nat} {cA : ClassId} {C : String} (h20 : 20 ≤ kd) (h28 : kd < 28) (hp : zat kd = .object C) (h : U.vm.findClass ("[" ++ (FieldType.object C).toString) = some cA) : cA = zc g kd := by
  have h1 := (hT.2 kd h20 h28).2
  unfold va_RA at h1
  rw [hp] at h1
  obtain ⟨kA, comp, -, -, -, h2⟩ := h1
  exact Option.some.inj (h.symm.trans h2)
def zNwC (own : String) (ix ci nf : Nat) : Prop := ∃ r : vw_C, vwCl[ci]? = some r ∧ ci < 20 ∧ r.2.2 = nf ∧ nf < 100000 ∧ Cond.classLink own ix r.1 ∈ zTs ∧ Cond.instantiable r.1 nf ∈ zTs ∧ Cond.initialized r.1 ∈ zTs ∧ (∀ w ∈ u_ws r.1 r.2.1 r.2.2, w ∈ zTs) ∧ ∀ k, k < nf → zft ci k ≠ .float
section ZJ7
variable {K : zK} {l0 : Launch} {g : zG} {cc : ByteArray} {nL nc ns pc : Nat} {own : String} {lv lv1 : List (Nat × Value)} {rest : List Value} {M M1 : zM} {S S1 : zS}
variable {nm : String} {ret : Option FieldType} {L mc ms : Nat} {oc : Option Value ⊕ String} {M9 : zM} {S9 : zS} {φ φ1 : Prop}
theorem j_new (hC : zC K l0 g cc nL own) (hE : zE K g nm ret L mc ms oc M9 S9 φ) {ix ci nf q : Nat} (hn : zNwC own ix ci nf) (hpf : zPf ci) (hd : decode cc pc = .ok (.new ix, 3)) (hq : q = S.1 + 1) (hS1 : S1 = zn S (ci, nf)) (hsp : zst S nf) (r3 : nc + 1 ≤ mc) (r4 : ns + nf ≤ ms) (k : zJ K g (nc + 1) (ns + nf) (pc + 3) nL lv (zr g q :: rest) M S1) : zJ K g nc ns pc nL lv rest M S := by
  obtain ⟨p, l, e, R, s, m, args, below, meth, c, Q⟩ := K
  obtain ⟨rfl, hx, hb, hml, hown, hts, hT, hO, hNw, hlk, htr⟩ := hC
  obtain ⟨hnm, hrt, rfl, rfl⟩ := hE
  intro H locs ls hR hS hl
  obtain ⟨r, hc, h20, rfl, hlt, w1, w2, w3, w4, hfl⟩ := hn
  obtain ⟨r2, hc2, hty, -⟩ := hpf
  obtain rfl := Option.some.inj (hc.symm.trans hc2)
  obtain ⟨C, T, N⟩ := r
  subst hq; subst hS1
  have hKn := hT.1.1 ci _ hc
  have hbl : ∀ kC : Class, s.vm.classes[(zD g).1 ci]? = some kC → (blank ((zD g).1 ci) kC).slots.size ≤ max 1000 N := fun kC hkC => by
    obtain ⟨c', k', q1, q2, -, -, -, q6⟩ := Cond.instantiable_spec (hts _ w2)
    have e9 : c' = (zD g).1 ci := Option.some.inj (q1.symm.trans hKn.2.1)
    subst e9
    have e8 : k' = kC := Option.some.inj (q2.symm.trans hkC)
    subst e8
    show (k'.instanceTypes.map defaultValue).size ≤ _
    rw [Array.size_map, q6]
    exact Nat.le_max_right _ _
  have h9 := hR.2.2.1.1 (S.1 + 1) (Or.inr (Nat.lt_succ_self _))
  refine W.newcK hx hb hown (hts _ w1) (hts _ w2) (hts _ w3) rfl hd r3 r4 hKn.2.1 rfl fun H1 kC hkC e1 z1 o1 => ?_
  have hq : zr g (S.1 + 1) = .ref H.size := zr_new hR hsp
  have k9 := k H1 locs ls (hR.more hsp (Nat.le_refl _) ⟨_, e1, hbl kC hkC⟩ z1 o1 ⟨fun q => ?_, fun q1 q2 => ?_⟩ hlt) (zS_more hS z1 o1) hl
  · rw [hq] at k9
    exact k9
  · rw [show (zn S (ci, N)).2.1 (S.1 + 1) = (ci, N) from up_eq _ _ _]
    refine ⟨_, hc, ?_⟩
    rw [show zad g (S.1 + 1) = H.size by rw [(zad_new hsp).1, hR.1], h9.2.1, show (zn S (ci, N)).2.2 (S.1 + 1) = fun _ => 0 from h9.2.2]
    exact (u_born (zft ci) hts w4 hKn hkC e1 hty).to (fun k hk => zdef (hfl k hk))
  · rw [show (zn S (ci, N)).2.1 (S.1 + 1) = (ci, N) from up_eq _ _ _] at q1
    exact absurd q1 (by dsimp only; omega)
theorem j_newa20 (hC : zC K l0 g cc nL own) (hE : zE K g nm ret L mc ms oc M9 S9 φ) {N mx q : Nat} {n n1 : Int} (hw : Cond.arrayClass .int ∈ zTs) (hd : decode cc pc = .ok (.newarray .int, 2)) (hn : w n = n1) (hN : (N : Int) = n1) (h1 : N ≤ mx) (h2 : mx ≤ 99999) (hq : q = S.1 + 1) (hS1 : S1 = zn S (20, N)) (hsp : zst S N) (r3 : nc + 1 ≤ mc) (r4 : ns + mx ≤ ms) (k : zJ K g (nc + 1) (ns + mx) (pc + 2) nL lv (zr g q :: rest) M S1) : zJ K g nc ns pc nL lv (.int (zi n) :: rest) M S := by
  obtain ⟨p, l, e, R, s, m, args, below, meth, c, Q⟩ := K
  obtain ⟨rfl, hx, hb, hml, hown, hts, hT, hO, hNw, hlk, htr⟩ := hC
  obtain ⟨hnm, hrt, rfl, rfl⟩ := hE
  intro H locs ls hR hS hl
  subst hq; subst hS1; subst hN
  have hcl : (zi n).toNatClampNeg = N := by show (w n).toNat = N; rw [hn]; exact Int.toNat_natCast N
  have hnn : ¬ zi n < 0 := by rw [zi_0, zi_ltw, hn]; have : w 0 = 0 := by decide
                              omega
  have hq : zr g (S.1 + 1) = .ref H.size := zr_new hR hsp
  refine va_newaK (atype := .int) hx hb (hts _ hw) rfl hd rfl hnn hcl (by show N * 4 ≤ _; omega) (show nc + 1 ≤ mc from r3) (show ns + N ≤ ms by omega) rfl fun H1 cA e1 z1 o1 hAr hNm => ?_
  have hcA : cA = zc g 20 := zT_arr hT (by decide) (by decide) (fun C h => by cases h) hNm
  subst hcA
  refine W.widen (Nat.le_refl _) (show ns + N ≤ ns + mx by omega) ?_
  have k9 := k H1 locs ls (zR_arr hR hsp (by decide) (by decide) (by omega) (by decide) z1 o1 e1) (zS_more hS z1 o1) hl
  rw [hq] at k9
  exact k9
theorem j_newa21 (hC : zC K l0 g cc nL own) (hE : zE K g nm ret L mc ms oc M9 S9 φ) {N mx q : Nat} {n n1 : Int} (hw : Cond.arrayClass .long ∈ zTs) (hd : decode cc pc = .ok (.newarray .long, 2)) (hn : w n = n1) (hN : (N : Int) = n1) (h1 : N ≤ mx) (h2 : mx ≤ 99999) (hq : q = S.1 + 1) (hS1 : S1 = zn S (21, N)) (hsp : zst S N) (r3 : nc + 1 ≤ mc) (r4 : ns + mx ≤ ms) (k : zJ K g (nc + 1) (ns + mx) (pc + 2) nL lv (zr g q :: rest) M S1) : zJ K g nc ns pc nL lv (.int (zi n) :: rest) M S := by
  obtain ⟨p, l, e, R, s, m, args, below, meth, c, Q⟩ := K
  obtain ⟨rfl, hx, hb, hml, hown, hts, hT, hO, hNw, hlk, htr⟩ := hC
  obtain ⟨hnm, hrt, rfl, rfl⟩ := hE
  intro H locs ls hR hS hl
  subst hq; subst hS1; subst hN
  have hcl : (zi n).toNatClampNeg = N := by show (w n).toNat = N; rw [hn]; exact Int.toNat_natCast N
  have hnn : ¬ zi n < 0 := by rw [zi_0, zi_ltw, hn]; have : w 0 = 0 := by decide
                              omega
  have hq : zr g (S.1 + 1) = .ref H.size := zr_new hR hsp
  refine va_newaK (atype := .long) hx hb (hts _ hw) rfl hd rfl hnn hcl (by show N * 8 ≤ _; omega) (show nc + 1 ≤ mc from r3) (show ns + N ≤ ms by omega) rfl fun H1 cA e1 z1 o1 hAr hNm => ?_
  have hcA : cA = zc g 21 := zT_arr hT (by decide) (by decide) (fun C h => by cases h) hNm
  subst hcA
  refine W.widen (Nat.le_refl _) (show ns + N ≤ ns + mx by omega) ?_
  have k9 := k H1 locs ls (zR_arr hR hsp (by decide) (by decide) (by omega) (by decide) z1 o1 e1) (zS_more hS z1 o1) hl
  rw [hq] at k9
  exact k9
theorem j_newa22 (hC : zC K l0 g cc nL own) (hE : zE K g nm ret L mc ms oc M9 S9 φ) {N mx q : Nat} {n n1 : Int} (hw : Cond.arrayClass .boolean ∈ zTs) (hd : decode cc pc = .ok (.newarray .boolean, 2)) (hn : w n = n1) (hN : (N : Int) = n1) (h1 : N ≤ mx) (h2 : mx ≤ 99999) (hq : q = S.1 + 1) (hS1 : S1 = zn S (22, N)) (hsp : zst S N) (r3 : nc + 1 ≤ mc) (r4 : ns + mx ≤ ms) (k : zJ K g (nc + 1) (ns + mx) (pc + 2) nL lv (zr g q :: rest) M S1) : zJ K g nc ns pc nL lv (.int (zi n) :: rest) M S := by
  obtain ⟨p, l, e, R, s, m, args, below, meth, c, Q⟩ := K
  obtain ⟨rfl, hx, hb, hml, hown, hts, hT, hO, hNw, hlk, htr⟩ := hC
  obtain ⟨hnm, hrt, rfl, rfl⟩ := hE
  intro H locs ls hR hS hl
  subst hq; subst hS1; subst hN
  have hcl : (zi n).toNatClampNeg = N := by show (w n).toNat = N; rw [hn]; exact Int.toNat_natCast N
  have hnn : ¬ zi n < 0 := by rw [zi_0, zi_ltw, hn]; have : w 0 = 0 := by decide
                              omega
  have hq : zr g (S.1 + 1) = .ref H.size := zr_new hR hsp
  refine va_newaK (atype := .boolean) hx hb (hts _ hw) rfl hd rfl hnn hcl (by show N * 1 ≤ _; omega) (show nc + 1 ≤ mc from r3) (show ns + N ≤ ms by omega) rfl fun H1 cA e1 z1 o1 hAr hNm => ?_
  have hcA : cA = zc g 22 := zT_arr hT (by decide) (by decide) (fun C h => by cases h) hNm
  subst hcA
  refine W.widen (Nat.le_refl _) (show ns + N ≤ ns + mx by omega) ?_
  have k9 := k H1 locs ls (zR_arr hR hsp (by decide) (by decide) (by omega) (by decide) z1 o1 e1) (zS_more hS z1 o1) hl
  rw [hq] at k9
  exact k9
theorem j_newa23 (hC : zC K l0 g cc nL own) (hE : zE K g nm ret L mc ms oc M9 S9 φ) {N mx q : Nat} {n n1 : Int} (hw : Cond.arrayClass .char ∈ zTs) (hd : decode cc pc = .ok (.newarray .char, 2)) (hn : w n = n1) (hN : (N : Int) = n1) (h1 : N ≤ mx) (h2 : mx ≤ 99999) (hq : q = S.1 + 1) (hS1 : S1 = zn S (23, N)) (hsp : zst S N) (r3 : nc + 1 ≤ mc) (r4 : ns + mx ≤ ms) (k : zJ K g (nc + 1) (ns + mx) (pc + 2) nL lv (zr g q :: rest) M S1) : zJ K g nc ns pc nL lv (.int (zi n) :: rest) M S := by
  obtain ⟨p, l, e, R, s, m, args, below, meth, c, Q⟩ := K
  obtain ⟨rfl, hx, hb, hml, hown, hts, hT, hO, hNw, hlk, htr⟩ := hC
  obtain ⟨hnm, hrt, rfl, rfl⟩ := hE
  intro H locs ls hR hS hl
  subst hq; subst hS1; subst hN
  have hcl : (zi n).toNatClampNeg = N := by show (w n).toNat = N; rw [hn]; exact Int.toNat_natCast N
  have hnn : ¬ zi n < 0 := by rw [zi_0, zi_ltw, hn]; have : w 0 = 0 := by decide
                              omega
  have hq : zr g (S.1 + 1) = .ref H.size := zr_new hR hsp
  refine va_newaK (atype := .char) hx hb (hts _ hw) rfl hd rfl hnn hcl (by show N * 2 ≤ _; omega) (show nc + 1 ≤ mc from r3) (show ns + N ≤ ms by omega) rfl fun H1 cA e1 z1 o1 hAr hNm => ?_
  have hcA : cA = zc g 23 := zT_arr hT (by decide) (by decide) (fun C h => by cases h) hNm
  subst hcA
  refine W.widen (Nat.le_refl _) (show ns + N ≤ ns + mx by omega) ?_
  have k9 := k H1 locs ls (zR_arr hR hsp (by decide) (by decide) (by omega) (by decide) z1 o1 e1) (zS_more hS z1 o1) hl
  rw [hq] at k9
  exact k9
theorem j_newa24 (hC : zC K l0 g cc nL own) (hE : zE K g nm ret L mc ms oc M9 S9 φ) {N mx q : Nat} {n n1 : Int} (hw : Cond.arrayClass .byte ∈ zTs) (hd : decode cc pc = .ok (.newarray .byte, 2)) (hn : w n = n1) (hN : (N : Int) = n1) (h1 : N ≤ mx) (h2 : mx ≤ 99999) (hq : q = S.1 + 1) (hS1 : S1 = zn S (24, N)) (hsp : zst S N) (r3 : nc + 1 ≤ mc) (r4 : ns + mx ≤ ms) (k : zJ K g (nc + 1) (ns + mx) (pc + 2) nL lv (zr g q :: rest) M S1) : zJ K g nc ns pc nL lv (.int (zi n) :: rest) M S := by
  obtain ⟨p, l, e, R, s, m, args, below, meth, c, Q⟩ := K
  obtain ⟨rfl, hx, hb, hml, hown, hts, hT, hO, hNw, hlk, htr⟩ := hC
  obtain ⟨hnm, hrt, rfl, rfl⟩ := hE
  intro H locs ls hR hS hl
  subst hq; subst hS1; subst hN
  have hcl : (zi n).toNatClampNeg = N := by show (w n).toNat = N; rw [hn]; exact Int.toNat_natCast N
  have hnn : ¬ zi n < 0 := by rw [zi_0, zi_ltw, hn]; have : w 0 = 0 := by decide
                              omega
  have hq : zr g (S.1 + 1) = .ref H.size := zr_new hR hsp
  refine va_newaK (atype := .byte) hx hb (hts _ hw) rfl hd rfl hnn hcl (by show N * 1 ≤ _; omega) (show nc + 1 ≤ mc from r3) (show ns + N ≤ ms by omega) rfl fun H1 cA e1 z1 o1 hAr hNm => ?_
  have hcA : cA = zc g 24 := zT_arr hT (by decide) (by decide) (fun C h => by cases h) hNm
  subst hcA
  refine W.widen (Nat.le_refl _) (show ns + N ≤ ns + mx by omega) ?_
  have k9 := k H1 locs ls (zR_arr hR hsp (by decide) (by decide) (by omega) (by decide) z1 o1 e1) (zS_more hS z1 o1) hl
  rw [hq] at k9
  exact k9
theorem j_newa25 (hC : zC K l0 g cc nL own) (hE : zE K g nm ret L mc ms oc M9 S9 φ) {N mx q ix : Nat} {n n1 : Int} (hw : Cond.classLink own ix "ContextualGrammarLab$Context" ∈ zTs) (hd : decode cc pc = .ok (.anewarray ix, 3)) (hn : w n = n1) (hN : (N : Int) = n1) (h1 : N ≤ mx) (h2 : mx ≤ 99999) (hq : q = S.1 + 1) (hS1 : S1 = zn S (25, N)) (hsp : zst S N) (r3 : nc + 1 ≤ mc) (r4 : ns + mx ≤ ms) (k : zJ K g (nc + 1) (ns + mx) (pc + 3) nL lv (zr g q :: rest) M S1) : zJ K g nc ns pc nL lv (.int (zi n) :: rest) M S := by
  obtain ⟨p, l, e, R, s, m, args, below, meth, c, Q⟩ := K
  obtain ⟨rfl, hx, hb, hml, hown, hts, hT, hO, hNw, hlk, htr⟩ := hC
  obtain ⟨hnm, hrt, rfl, rfl⟩ := hE
  intro H locs ls hR hS hl
  subst hq; subst hS1; subst hN
  have hcl : (zi n).toNatClampNeg = N := by show (w n).toNat = N; rw [hn]; exact Int.toNat_natCast N
  have hnn : ¬ zi n < 0 := by rw [zi_0, zi_ltw, hn]; have : w 0 = 0 := by decide
                              omega
  have hq : zr g (S.1 + 1) = .ref H.size := zr_new hR hsp
  obtain ⟨-, -, -, -, -, -, -, hAO, -⟩ := hO
  have hover : va_AO "ContextualGrammarLab$Context" s := hAO _ (by simp)
  refine W.anew hx hb hown (hts _ hw) (va_AO.use hover) rfl hd rfl hnn (by rw [hcl]; omega) (show nc + 1 ≤ mc from r3) (by rw [hcl]; show ns + N ≤ ms; omega) fun cA kA comp f1 f2 f3 f4 => ?_
  have hcA : cA = zc g 25 := zT_arrO hT (by decide) (by decide) rfl f1
  subst hcA
  rw [hcl]
  generalize hH1 : H.push ({ cls := zc g 25, slots := Array.replicate N .null, vm := .none } : Cell) = H1
  have z1 : H1.size = H.size + 1 := by rw [← hH1, Array.size_push]
  have e1 : H1[H.size]? = some (arrV (zc g 25) N (fun _ => .null)) := by rw [← hH1, Array.getElem?_push_size, ← arrV_new]
  have o1 : ∀ q : Nat, q < H.size → H1[q]? = H[q]? := fun q hq => by rw [← hH1, Array.getElem?_push, if_neg (Nat.ne_of_lt hq)]
  refine W.widen (Nat.le_refl _) (show ns + N ≤ ns + mx by omega) ?_
  have k9 := k H1 locs ls (zR_arr hR hsp (by decide) (by decide) (by omega) (by decide) z1 o1 e1) (zS_more hS z1 o1) hl
  rw [hq] at k9
  exact k9
theorem j_newa26 (hC : zC K l0 g cc nL own) (hE : zE K g nm ret L mc ms oc M9 S9 φ) {N mx q ix : Nat} {n n1 : Int} (hw : Cond.classLink own ix "ContextualGrammarLab$Slot" ∈ zTs) (hd : decode cc pc = .ok (.anewarray ix, 3)) (hn : w n = n1) (hN : (N : Int) = n1) (h1 : N ≤ mx) (h2 : mx ≤ 99999) (hq : q = S.1 + 1) (hS1 : S1 = zn S (26, N)) (hsp : zst S N) (r3 : nc + 1 ≤ mc) (r4 : ns + mx ≤ ms) (k : zJ K g (nc + 1) (ns + mx) (pc + 3) nL lv (zr g q :: rest) M S1) : zJ K g nc ns pc nL lv (.int (zi n) :: rest) M S := by
  obtain ⟨p, l, e, R, s, m, args, below, meth, c, Q⟩ := K
  obtain ⟨rfl, hx, hb, hml, hown, hts, hT, hO, hNw, hlk, htr⟩ := hC
  obtain ⟨hnm, hrt, rfl, rfl⟩ := hE
  intro H locs ls hR hS hl
  subst hq; subst hS1; subst hN
  have hcl : (zi n).toNatClampNeg = N := by show (w n).toNat = N; rw [hn]; exact Int.toNat_natCast N
  have hnn : ¬ zi n < 0 := by rw [zi_0, zi_ltw, hn]; have : w 0 = 0 := by decide
                              omega
  have hq : zr g (S.1 + 1) = .ref H.size := zr_new hR hsp
  obtain ⟨-, -, -, -, -, -, -, hAO, -⟩ := hO
  have hover : va_AO "ContextualGrammarLab$Slot" s := hAO _ (by simp)
  refine W.anew hx hb hown (hts _ hw) (va_AO.use hover) rfl hd rfl hnn (by rw [hcl]; omega) (show nc + 1 ≤ mc from r3) (by rw [hcl]; show ns + N ≤ ms; omega) fun cA kA comp f1 f2 f3 f4 => ?_
  have hcA : cA = zc g 26 := zT_arrO hT (by decide) (by decide) rfl f1
  subst hcA
  rw [hcl]
  generalize hH1 : H.push ({ cls := zc g 26, slots := Array.replicate N .null, vm := .none } : Cell) = H1
  have z1 : H1.size = H.size + 1 := by rw [← hH1, Array.size_push]
  have e1 : H1[H.size]? = some (arrV (zc g 26) N (fun _ => .null)) := by rw [← hH1, Array.getElem?_push_size, ← arrV_new]
  have o1 : ∀ q : Nat, q < H.size → H1[q]? = H[q]? := fun q hq => by rw [← hH1, Array.getElem?_push, if_neg (Nat.ne_of_lt hq)]
  refine W.widen (Nat.le_refl _) (show ns + N ≤ ns + mx by omega) ?_
  have k9 := k H1 locs ls (zR_arr hR hsp (by decide) (by decide) (by omega) (by decide) z1 o1 e1) (zS_more hS z1 o1) hl
  rw [hq] at k9
  exact k9
theorem j_aast25 (hC : zC K l0 g cc nL own) (hE : zE K g nm ret L mc ms oc M9 S9 φ) {a x : Nat} {i i1 n : Int} (hd : decode cc pc = .ok (.aastore, 1)) (hi : w i = i1) (hk : zkd S a = 25) (hn : zlen S a = n) (h0 : 0 ≤ i1) (h1 : i1 < n) (hx1 : x = 0 ∨ zkd S x = 0) (hS1 : S1 = zq S a i1 x) (k : zJ K g nc ns (pc + 1) nL lv rest M S1) : zJ K g nc ns pc nL lv (zr g x :: .int (zi i) :: zr g a :: rest) M S := by
  obtain ⟨p, l, e, R, s, m, args, below, meth, c, Q⟩ := K
  obtain ⟨rfl, hx, hb, hml, hown, hts, hT, hO, hNw, hlk, htr⟩ := hC
  obtain ⟨hnm, hrt, rfl, rfl⟩ := hE
  intro H locs ls hR hS hl
  subst hi; subst hn; subst hS1
  have h28 : (S.2.1 a).1 < 28 := by show zkd S a < 28; omega
  have hz := (hR.pos h28).1
  have hka : (S.2.1 a).1 = 25 := hk
  have hA := (hR.2.1 a).2 (by rw [hka]; decide) h28
  rw [hka] at hA
  have hlt : (zi i).toNatClampNeg < (S.2.1 a).2 := by show (w i).toNat < _; have : w i < ((S.2.1 a).2 : Int) := h1; omega
  have hnn : ¬ zi i < 0 := by rw [zi_0, zi_ltw]; have : w 0 = 0 := by decide
                              omega
  have hrow : ∀ H1 : Heap, H1[zad g a]? = some ((arrV (zc g 25) (S.2.1 a).2 (fun j => zv g (ztc (zat 25)) (M a j) (S.2.2 a j))).setSlot (zi i).toNatClampNeg (zr g x)) → H1.size = H.size → (∀ q, q ≠ zad g a → H1[q]? = H[q]?) → W p l e (zRm L mc ms) s m args below meth c H1 (locs ++ [⟨zad g a, (zi i).toNatClampNeg⟩]) nc ns (vx_MQ below (zQc g oc M9 S9 φ) (zXC g oc M9 S9 φ) args s mc ms (zA g)) (F0 m (pc + 1) ls rest) := by
    intro H1 e1 z1 o1
    refine k H1 _ ls (hR.rcell h28 z1 o1 (fun c1 hc1 => ⟨_, hA, by rw [e1] at hc1; cases hc1; exact set_sz _ _ _⟩) ⟨fun q => ?_, fun _ _ => ?_⟩) (zA_put hS z1 o1 ⟨hz, (hR.pos h28).2.2⟩) hl
    · rw [show (zq S a (w i) x).2.1 a = S.2.1 a from rfl, hka] at q
      exact absurd q (by decide)
    · rw [show (zq S a (w i) x).2.1 a = S.2.1 a from rfl, hka, e1, arrV_store]
      congr 2
      funext j
      show updV _ (zi i).toNatClampNeg _ j = zr g (up S.2.2 a (up (S.2.2 a) (w i) x) a j)
      rw [up_eq]
      have hci : (((zi i).toNatClampNeg : Nat) : Int) = w i := Int.toNat_of_nonneg h0
      by_cases hj : j = (zi i).toNatClampNeg
      · subst hj
        rw [hci, up_eq]
        exact if_pos rfl
      · rw [up_ne _ _ (fun q => hj (by omega))]
        exact if_neg hj
  rw [zr_nz hz]
  by_cases hx0 : x = 0
  · subst hx0
    refine va_WaastN (C := "ContextualGrammarLab$Context") hx hb hA ((hT.2 25 (by decide) (by decide)).1 _ _) (fun h => by cases h) (by rw [arrV_size]; exact fun q => q.elim hnn (fun q => absurd hlt (Nat.not_lt.mpr q))) rfl rfl hd fun H1 e z oq => ?_
    exact hrow H1 e z oq
  · have hkx : zkd S x = 0 := hx1.resolve_left hx0
    obtain ⟨r, g1, cellV, q1, q2, q3, -⟩ := (hR.2.1 x).1 (by rw [show (S.2.1 x).1 = 0 from hkx]; decide)
    rw [show (S.2.1 x).1 = 0 from hkx] at g1 q2
    have hcls := (hT.1.1 0 r g1).2
    obtain ⟨kA, comp, k1, k2, k3, -⟩ := (hT.2 25 (by decide) (by decide)).2
    have hC9 : r.1 = "ContextualGrammarLab$Context" := by cases g1; rfl
    have hcomp : comp = (zD g).1 0 := Option.some.inj (k3.symm.trans (by rw [← hC9]; exact hcls.1))
    subst hcomp
    obtain ⟨kC, hkC, -⟩ := hcls.2
    rw [zr_nz hx0] at hrow ⊢
    refine W.aast hx hb hA (fun q h => by cases h) (fun h => by cases h) k1 k2 rfl hkC ⟨hnn, by rw [arrV_size]; exact hlt⟩ q1 (fun q h => by rw [q3] at h; cases h) (by rw [q2]; exact hkC) (by rw [q2]; exact va_assign hcls) rfl rfl hd fun H1 e z oq => ?_
    exact hrow H1 e z oq
theorem j_aast26 (hC : zC K l0 g cc nL own) (hE : zE K g nm ret L mc ms oc M9 S9 φ) {a x : Nat} {i i1 n : Int} (hd : decode cc pc = .ok (.aastore, 1)) (hi : w i = i1) (hk : zkd S a = 26) (hn : zlen S a = n) (h0 : 0 ≤ i1) (h1 : i1 < n) (hx1 : x = 0 ∨ zkd S x = 6) (hS1 : S1 = zq S a i1 x) (k : zJ K g nc ns (pc + 1) nL lv rest M S1) : zJ K g nc ns pc nL lv (zr g x :: .int (zi i) :: zr g a :: rest) M S := by
  obtain ⟨p, l, e, R, s, m, args, below, meth, c, Q⟩ := K
  obtain ⟨rfl, hx, hb, hml, hown, hts, hT, hO, hNw, hlk, htr⟩ := hC
  obtain ⟨hnm, hrt, rfl, rfl⟩ := hE
  intro H locs ls hR hS hl
  subst hi; subst hn; subst hS1
  have h28 : (S.2.1 a).1 < 28 := by show zkd S a < 28; omega
  have hz := (hR.pos h28).1
  have hka : (S.2.1 a).1 = 26 := hk
  have hA := (hR.2.1 a).2 (by rw [hka]; decide) h28
  rw [hka] at hA
  have hlt : (zi i).toNatClampNeg < (S.2.1 a).2 := by show (w i).toNat < _; have : w i < ((S.2.1 a).2 : Int) := h1; omega
  have hnn : ¬ zi i < 0 := by rw [zi_0, zi_ltw]; have : w 0 = 0 := by decide
                              omega
  have hrow : ∀ H1 : Heap, H1[zad g a]? = some ((arrV (zc g 26) (S.2.1 a).2 (fun j => zv g (ztc (zat 26)) (M a j) (S.2.2 a j))).setSlot (zi i).toNatClampNeg (zr g x)) → H1.size = H.size → (∀ q, q ≠ zad g a → H1[q]? = H[q]?) → W p l e (zRm L mc ms) s m args below meth c H1 (locs ++ [⟨zad g a, (zi i).toNatClampNeg⟩]) nc ns (vx_MQ below (zQc g oc M9 S9 φ) (zXC g oc M9 S9 φ) args s mc ms (zA g)) (F0 m (pc + 1) ls rest) := by
    intro H1 e1 z1 o1
    refine k H1 _ ls (hR.rcell h28 z1 o1 (fun c1 hc1 => ⟨_, hA, by rw [e1] at hc1; cases hc1; exact set_sz _ _ _⟩) ⟨fun q => ?_, fun _ _ => ?_⟩) (zA_put hS z1 o1 ⟨hz, (hR.pos h28).2.2⟩) hl
    · rw [show (zq S a (w i) x).2.1 a = S.2.1 a from rfl, hka] at q
      exact absurd q (by decide)
    · rw [show (zq S a (w i) x).2.1 a = S.2.1 a from rfl, hka, e1, arrV_store]
      congr 2
      funext j
      show updV _ (zi i).toNatClampNeg _ j = zr g (up S.2.2 a (up (S.2.2 a) (w i) x) a j)
      rw [up_eq]
      have hci : (((zi i).toNatClampNeg : Nat) : Int) = w i := Int.toNat_of_nonneg h0
      by_cases hj : j = (zi i).toNatClampNeg
      · subst hj
        rw [hci, up_eq]
        exact if_pos rfl
      · rw [up_ne _ _ (fun q => hj (by omega))]
        exact if_neg hj
  rw [zr_nz hz]
  by_cases hx0 : x = 0
  · subst hx0
    refine va_WaastN (C := "ContextualGrammarLab$Slot") hx hb hA ((hT.2 26 (by decide) (by decide)).1 _ _) (fun h => by cases h) (by rw [arrV_size]; exact fun q => q.elim hnn (fun q => absurd hlt (Nat.not_lt.mpr q))) rfl rfl hd fun H1 e z oq => ?_
    exact hrow H1 e z oq
  · have hkx : zkd S x = 6 := hx1.resolve_left hx0
    obtain ⟨r, g1, cellV, q1, q2, q3, -⟩ := (hR.2.1 x).1 (by rw [show (S.2.1 x).1 = 6 from hkx]; decide)
    rw [show (S.2.1 x).1 = 6 from hkx] at g1 q2
    have hcls := (hT.1.1 6 r g1).2
    obtain ⟨kA, comp, k1, k2, k3, -⟩ := (hT.2 26 (by decide) (by decide)).2
    have hC9 : r.1 = "ContextualGrammarLab$Slot" := by cases g1; rfl
    have hcomp : comp = (zD g).1 6 := Option.some.inj (k3.symm.trans (by rw [← hC9]; exact hcls.1))
    subst hcomp
    obtain ⟨kC, hkC, -⟩ := hcls.2
    rw [zr_nz hx0] at hrow ⊢
    refine W.aast hx hb hA (fun q h => by cases h) (fun h => by cases h) k1 k2 rfl hkC ⟨hnn, by rw [arrV_size]; exact hlt⟩ q1 (fun q h => by rw [q3] at h; cases h) (by rw [q2]; exact hkC) (by rw [q2]; exact va_assign hcls) rfl rfl hd fun H1 e z oq => ?_
    exact hrow H1 e z oq
def zNms : List String := ["java/lang/RuntimeException", "java/lang/Exception"]
def zAts (own : String) (ic e9 : Nat) : List Cond := if e9 = 4 then zXs own ic (zEx 4) 13 prog_39_method_4_code "java/lang/RuntimeException" ["java/lang/Exception"] else vx_atS own ic (zEx e9) zNms
def zThr (own : String) (ik ic : Nat) (e9 : Nat) : Prop := Cond.classLink own ik (zEx e9) ∈ zTs ∧ Cond.initialized (zEx e9) ∈ zTs ∧ (∀ w ∈ zAts own ic e9, w ∈ zTs ∨ w ∈ zTn) ∧ (∀ w ∈ Cond.classLink own ik (zEx e9) :: Cond.initialized (zEx e9) :: zAts own ic e9, vx_ot w = true) ∧ Bundle.fit (zEx e9) = true ∧ ∀ n ∈ zNms, Bundle.fit n = true
theorem zTh_all (ws : List Cond) (h : ws.all (fun w => decide (w ∈ lw_tbl) && (goodWord w || zNk w)) = true) : ∀ w ∈ ws, w ∈ zTs ∨ w ∈ zTn := fun w hw => by
  have h1 := List.all_eq_true.mp h w hw
  simp only [Bool.and_eq_true, Bool.or_eq_true, decide_eq_true_eq] at h1
  rcases h1.2 with q | q
  · exact Or.inl (List.mem_filter.mpr ⟨h1.1, q⟩)
  · exact Or.inr (List.mem_filter.mpr ⟨h1.1, q⟩)
theorem zR_exc {g : zG} {M : zM} {S : zS} {H H1 : Heap} (hR : zR g M S H) (hsp : zst S 0) (z : H1.size = H.size + 1) (o1 : ∀ q, q < H.size → H1[q]? = H[q]?) (hc1 : ∃ c1 : Cell, H1[H.size]? = some c1 ∧ c1.slots.size ≤ 6) : zR g M (zn S (99, 0)) H1 := by
  obtain ⟨c1, hc2, hc3⟩ := hc1
  refine hR.more hsp (Nat.le_refl _) ⟨c1, hc2, Nat.le_trans hc3 (by decide)⟩ z o1 ⟨fun q => ?_, fun q1 q2 => ?_⟩ (by decide)
  · rw [show (zn S (99, 0)).2.1 (S.1 + 1) = (99, 0) from up_eq _ _ _] at q
    exact absurd q (by decide)
  · rw [show (zn S (99, 0)).2.1 (S.1 + 1) = (99, 0) from up_eq _ _ _] at q2
    exact absurd q2 (by decide)

theorem j_throw (hC : zC K l0 g cc nL own) (hE : zE K g nm ret L mc ms oc M9 S9 φ) (hN : zNt K) {ik ic is e9 : Nat} {text : String} (th : zThr own ik ic e9) (e8 : Nat) (he8 : e8 = e9) (hst : (own, is, text) ∈ zSL) (d0 : decode cc pc = .ok (.new ik, 3)) (d3 : decode cc (pc + 3) = .ok (.dup, 1)) (d4 : decode cc (pc + 4) = .ok (.ldc is, 2)) (d6 : decode cc (pc + 6) = .ok (.invokespecial ic, 3)) (d9 : decode cc (pc + 9) = .ok (.athrow, 1)) (ho : oc = .inr (zEx e9)) (eM : M = M9) (eS : zn S (99, 0) = S9) (hφ : φ) (hcat : rest.length ≤ 4) (hsp : zst S 0) (r3 : nc + 1 ≤ mc) (r4 : ns + 6 ≤ ms) (hL : 1 ≤ L)  : zJ K g nc ns pc nL lv rest M S := by
  obtain ⟨p, l, e, R, s, m, args, below, meth, c, Q⟩ := K
  obtain ⟨rfl, hx, hb, hml, hown, hts, hT, hO, hNw, hlk, htr⟩ := hC
  obtain ⟨hnm, hrt, rfl, rfl⟩ := hE
  intro H locs ls hR hS hl
  subst eM; subst eS; subst he8
  obtain ⟨sa, hstr⟩ := hO.2.2.2.2.2.2.1 _ hst
  have h8 := zcat hcat
  obtain ⟨th1, th2, th3, th4, th5, th6⟩ := th
  by_cases hq : e8 = 4
  · subst hq
    unfold zAts at th3 th4
    rw [if_pos rfl] at th3 th4
    refine zx_throwS (A := zA g) (names := ["java/lang/Exception"]) (ix := 13) (Y := "java/lang/RuntimeException") (rx := prog_39_method_4_code) (x0 := by decide +kernel) (x1 := by decide +kernel) (x2 := by decide +kernel) (x5 := by decide +kernel) (hY := by decide +kernel) hx hb htr hown th5 (fun n hn => th6 n (List.mem_cons_of_mem _ hn)) (hts _ th1) (hts _ th2) hstr (fun w hw => ?_) th4 hO.2.2.2.2.1 hO.2.2.2.2.2.1 hS (hl.1.trans hml.symm) d0 d3 d4 d6 d9 (fun x hx9 => (hN x hx9).elim) (show 5 < 8 * L by omega) (show _ + (13 * 3 + 43) ≤ 128 * L by omega) (show nc + 1 ≤ mc from r3) (show ns + 6 ≤ ms from r4) hlk (fun t hW hz ho1 hc1 => ⟨ho, hφ, zR_exc hR hsp hz ho1 hc1, ?_⟩) hS.2.2 r3 r4
    · rcases th3 w hw with h | h
      · exact hts w h
      · have hot : w.onTables = true := by
          have := (List.mem_filter.mp h).2
          cases w <;> first | rfl | (cases this)
        exact va_Nw.use hot (hNw w h)
    · exact (zS_more hS hz ho1).F rfl
  · unfold zAts at th3 th4
    rw [if_neg hq] at th3 th4
    refine z_throwS (A := zA g) (names := zNms) hx hb htr hown th5 th6 (hts _ th1) (hts _ th2) hstr (fun w hw => ?_) th4 hO.2.2.2.2.1 hO.2.2.2.2.2.1 hS (hl.1.trans hml.symm) d0 d3 d4 d6 d9 (fun x hx9 => (hN x hx9).elim) (show 5 < 8 * L by omega) (show _ + (13 * 3 + 43) ≤ 128 * L by omega) (show nc + 1 ≤ mc from r3) (show ns + 6 ≤ ms from r4) hlk (fun t hW hz ho1 hc1 => ⟨ho, hφ, zR_exc hR hsp hz ho1 hc1, ?_⟩) hS.2.2 r3 r4
    · rcases th3 w hw with h | h
      · exact hts w h
      · have hot : w.onTables = true := by
          have := (List.mem_filter.mp h).2
          cases w <;> first | rfl | (cases this)
        exact va_Nw.use hot (hNw w h)
    · exact (zS_more hS hz ho1).F rfl
theorem j_throwW (hC : zC K l0 g cc nL own) (hE : zE K g nm ret L mc ms oc M9 S9 φ) (hN : zNt K) {ik ic is e9 : Nat} {text : String} (th : zThr own ik ic e9) (e8 : Nat) (he8 : e8 = e9) (hst : (own, is, text) ∈ zSL) (d0 : decode cc pc = .ok (.new ik, 3)) (d3 : decode cc (pc + 3) = .ok (.dup, 1)) (d4 : decode cc (pc + 4) = .ok (.ldc_w is, 3)) (d6 : decode cc (pc + 7) = .ok (.invokespecial ic, 3)) (d9 : decode cc (pc + 10) = .ok (.athrow, 1)) (ho : oc = .inr (zEx e9)) (eM : M = M9) (eS : zn S (99, 0) = S9) (hφ : φ) (hcat : rest.length ≤ 4) (hsp : zst S 0) (r3 : nc + 1 ≤ mc) (r4 : ns + 6 ≤ ms) (hL : 1 ≤ L)  : zJ K g nc ns pc nL lv rest M S := by
  obtain ⟨p, l, e, R, s, m, args, below, meth, c, Q⟩ := K
  obtain ⟨rfl, hx, hb, hml, hown, hts, hT, hO, hNw, hlk, htr⟩ := hC
  obtain ⟨hnm, hrt, rfl, rfl⟩ := hE
  intro H locs ls hR hS hl
  subst eM; subst eS; subst he8
  obtain ⟨sa, hstr⟩ := hO.2.2.2.2.2.2.1 _ hst
  have h8 := zcat hcat
  obtain ⟨th1, th2, th3, th4, th5, th6⟩ := th
  by_cases hq : e8 = 4
  · subst hq
    unfold zAts at th3 th4
    rw [if_pos rfl] at th3 th4
    refine zx_throwSW (A := zA g) (names := ["java/lang/Exception"]) (ix := 13) (Y := "java/lang/RuntimeException") (rx := prog_39_method_4_code) (x0 := by decide +kernel) (x1 := by decide +kernel) (x2 := by decide +kernel) (x5 := by decide +kernel) (hY := by decide +kernel) hx hb htr hown th5 (fun n hn => th6 n (List.mem_cons_of_mem _ hn)) (hts _ th1) (hts _ th2) hstr (fun w hw => ?_) th4 hO.2.2.2.2.1 hO.2.2.2.2.2.1 hS (hl.1.trans hml.symm) d0 d3 d4 d6 d9 (fun x hx9 => (hN x hx9).elim) (show 5 < 8 * L by omega) (show _ + (13 * 3 + 43) ≤ 128 * L by omega) (show nc + 1 ≤ mc from r3) (show ns + 6 ≤ ms from r4) hlk (fun t hW hz ho1 hc1 => ⟨ho, hφ, zR_exc hR hsp hz ho1 hc1, ?_⟩) hS.2.2 r3 r4
    · rcases th3 w hw with h | h
      · exact hts w h
      · have hot : w.onTables = true := by
          have := (List.mem_filter.mp h).2
          cases w <;> first | rfl | (cases this)
        exact va_Nw.use hot (hNw w h)
    · exact (zS_more hS hz ho1).F rfl
  · unfold zAts at th3 th4
    rw [if_neg hq] at th3 th4
    refine z_throwSW (A := zA g) (names := zNms) hx hb htr hown th5 th6 (hts _ th1) (hts _ th2) hstr (fun w hw => ?_) th4 hO.2.2.2.2.1 hO.2.2.2.2.2.1 hS (hl.1.trans hml.symm) d0 d3 d4 d6 d9 (fun x hx9 => (hN x hx9).elim) (show 5 < 8 * L by omega) (show _ + (13 * 3 + 43) ≤ 128 * L by omega) (show nc + 1 ≤ mc from r3) (show ns + 6 ≤ ms from r4) hlk (fun t hW hz ho1 hc1 => ⟨ho, hφ, zR_exc hR hsp hz ho1 hc1, ?_⟩) hS.2.2 r3 r4
    · rcases th3 w hw with h | h
      · exact hts w h
      · have hot : w.onTables = true := by
          have := (List.mem_filter.mp h).2
          cases w <;> first | rfl | (cases this)
        exact va_Nw.use hot (hNw w h)
    · exact (zS_more hS hz ho1).F rfl
end ZJ7
