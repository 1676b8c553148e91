/-! ARRAYS COPIED, CLONED, CAST; arrays of arrays -/
section ZCP
variable {p : Program} {l : Launch} {e : Env} {R : Room} {s : State} {m : MethodId} {args : Array Value} {below : List Frame} {meth : Method} {c : Code} {H : Heap} {locs : List Loc} {cells slots : Nat} {Q : State → Prop}
variable {cc : ByteArray} {pc : Nat} {ls : Array Slot} {rest : List Value}
/-- arraycopy between two int arrays (after va_copyi of the kit, with what it leaves alone) -/
theorem z_copyi (hexec : p.tables.exec = Jvm.exec) (hb : c.code = cc) (hml : c.maxLocals = ls.size) {own : String} {index : Nat} (hown : s.vm.findClass own = some m.cls) (hlink : (Cond.methodLink own index arraycopyName).before args s = true) (hnat : (Cond.native arraycopyName).before args s = true) (hstat : (Cond.static arraycopyName).before args s = true) (hini : (Cond.initialized "java/lang/System").before args s = true)
    {a a0 : Nat} {c0 c1 : ClassId} {n0 n1 : Nat} {f g : Nat → Int32} (hc0 : H[a0]? = some (vp_cell c0 (n0, .inl f))) (hc1 : H[a]? = some (vp_cell c1 (n1, .inl g))) (ht0 : ArrOfT s c0 .int) (ht1 : ArrOfT s c1 .int)
    {sp dp n : Int32} (h1 : ¬ sp < 0) (h2 : ¬ dp < 0) (h3 : ¬ n < 0) (h4 : sp.toNatClampNeg + n.toNatClampNeg ≤ n0) (h5 : dp.toNatClampNeg + n.toNatClampNeg ≤ n1)
    (hframes : 1 ≤ R.frames) (hlocals : (rest.map fun v => v.category).sum + (nativeFrameWords "java/lang/System" "arraycopy" 5 + 11) ≤ R.locals) (hdg : decode cc pc = .ok (.invokestatic index, 3))
    (kk : ∀ (H1 : Heap) (L : List Loc), H1[a]? = some (vp_cell c1 (n1, .inl (va_cpy f g sp.toNatClampNeg dp.toNatClampNeg n.toNatClampNeg))) → H1.size = H.size → (∀ q, q ≠ a → H1[q]? = H[q]?) → (∀ z ∈ L, z.base = a) → W p l e R s m args below meth c H1 (locs ++ L) cells slots Q (F0 m (pc + 3) ls rest)) : W p l e R s m args below meth c H locs cells slots Q (F0 m pc ls (.int n :: .int dp :: .ref a :: .int sp :: .ref a0 :: rest)) := by
  have nn : ∀ z : Int32, ¬ z < 0 → z.toInt = (z.toNatClampNeg : Int) := by
    intro z hz
    have hz0 : (0 : Int) ≤ z.toInt := by
      have := Int32.not_lt.mp hz
      simpa using Int32.le_iff_toInt_le.mp this
    show z.toInt = ((z.toInt.toNat : Nat) : Int)
    omega
  intro T hT X
  obtain ⟨-, k0, hk0, cm0, hkk0⟩ := ht0 n0 (fun j => .int (f j))
  obtain ⟨-, k1, hk1, cm1, hkk1⟩ := ht1 n1 (fun j => .int (g j))
  obtain ⟨vm', X', step⟩ := X.arraycopy hexec hown hlink hnat hstat hini (src := a0) (dst := a) (cs := vp_cell c0 (n0, .inl f)) (cd := vp_cell c1 (n1, .inl g)) (srcPos := sp) (destPos := dp) (n := n) (by rw [hT]; exact hc0) (by rw [hT]; exact hc1)
    (fun _ h => by cases h) (fun _ h => by cases h) (fun h => by cases h) (fun h => by cases h) hk0 hk1 hkk0 hkk1 (by simp [refKind]) h1 h2 h3
    (by rw [nn sp h1, nn n h3]; show ¬ _ > ((arrV c0 n0 (fun j => .int (f j))).slots.size : Int); rw [arrV_size]; omega)
    (by rw [nn dp h2, nn n h3]; show ¬ _ > ((arrV c1 n1 (fun j => .int (g j))).slots.size : Int); rw [arrV_size]; omega)
    (fun vm₁ _ i hi => by
      have e : (vp_cell c0 (n0, .inl f)).slots.getD (sp.toNatClampNeg + i) .null = .int (f (sp.toNatClampNeg + i)) := by
        show (arrV c0 n0 (fun j => .int (f j))).slots.getD _ _ = _
        rw [Array.getD_eq_getD_getElem?, arrV_read _ _ (by omega)]
        rfl
      refine ⟨?_, ?_⟩
      · rw [e]
        rfl
      · rw [e]
        exact trivial)
    (g := F0 m pc ls (.int n :: .int dp :: .ref a :: .int sp :: .ref a0 :: rest)) rfl (by rw [hml]) (rest := rest) rfl (by rw [hb]; exact hdg) hframes (by show 2 * 0 + _ + _ ≤ _; omega)
  have e1 : copied (vp_cell c0 (n0, .inl f)) (vp_cell c1 (n1, .inl g)) sp dp n = vp_cell c1 (n1, .inl (va_cpy f g sp.toNatClampNeg dp.toNatClampNeg n.toNatClampNeg)) := va_copied (fun z => .int z) c0 c1 f g h4
  rw [e1] at X' step
  have hl : a < H.size := (Array.getElem?_eq_some_iff.mp hc1).1
  have hheap : ((T.setVm vm').setCell a (vp_cell c1 (n1, .inl (va_cpy f g sp.toNatClampNeg dp.toNatClampNeg n.toNatClampNeg)))).heap = H.setIfInBounds a (vp_cell c1 (n1, .inl (va_cpy f g sp.toNatClampNeg dp.toNatClampNeg n.toNatClampNeg))) := by rw [← hT]; rfl
  obtain ⟨t, a1, b1⟩ := kk _ _ (show (H.setIfInBounds a _)[a]? = some _ by simp [Array.getElem?_setIfInBounds, hl]) (by simp) (fun q hq => by simp [Array.getElem?_setIfInBounds, Ne.symm hq]) (fun z hz => by
    obtain ⟨y, -, hy⟩ := List.mem_map.mp hz
    rw [← hy]) _ hheap X'
  exact ⟨t, step t a1, b1⟩
theorem z_copyB (hexec : p.tables.exec = Jvm.exec) (hb : c.code = cc) (hml : c.maxLocals = ls.size) {own : String} {index : Nat} (hown : s.vm.findClass own = some m.cls) (hlink : (Cond.methodLink own index arraycopyName).before args s = true) (hnat : (Cond.native arraycopyName).before args s = true) (hstat : (Cond.static arraycopyName).before args s = true) (hini : (Cond.initialized "java/lang/System").before args s = true)
    {a a0 : Nat} {c0 c1 : ClassId} {n0 n1 : Nat} {f g : Nat → Int32} (hc0 : H[a0]? = some (vp_cell c0 (n0, .inl f))) (hc1 : H[a]? = some (vp_cell c1 (n1, .inl g))) (ht0 : ArrOfT s c0 .byte) (ht1 : ArrOfT s c1 .byte) (hfb : ∀ i : Nat, fits .byte (.int (f i)) = true)
    {sp dp n : Int32} (h1 : ¬ sp < 0) (h2 : ¬ dp < 0) (h3 : ¬ n < 0) (h4 : sp.toNatClampNeg + n.toNatClampNeg ≤ n0) (h5 : dp.toNatClampNeg + n.toNatClampNeg ≤ n1)
    (hframes : 1 ≤ R.frames) (hlocals : (rest.map fun v => v.category).sum + (nativeFrameWords "java/lang/System" "arraycopy" 5 + 11) ≤ R.locals) (hdg : decode cc pc = .ok (.invokestatic index, 3))
    (kk : ∀ (H1 : Heap) (L : List Loc), H1[a]? = some (vp_cell c1 (n1, .inl (va_cpy f g sp.toNatClampNeg dp.toNatClampNeg n.toNatClampNeg))) → H1.size = H.size → (∀ q, q ≠ a → H1[q]? = H[q]?) → (∀ z ∈ L, z.base = a) → W p l e R s m args below meth c H1 (locs ++ L) cells slots Q (F0 m (pc + 3) ls rest)) : W p l e R s m args below meth c H locs cells slots Q (F0 m pc ls (.int n :: .int dp :: .ref a :: .int sp :: .ref a0 :: rest)) := by
  have nn : ∀ z : Int32, ¬ z < 0 → z.toInt = (z.toNatClampNeg : Int) := by
    intro z hz
    have hz0 : (0 : Int) ≤ z.toInt := by
      have := Int32.not_lt.mp hz
      simpa using Int32.le_iff_toInt_le.mp this
    show z.toInt = ((z.toInt.toNat : Nat) : Int)
    omega
  intro T hT X
  obtain ⟨-, k0, hk0, cm0, hkk0⟩ := ht0 n0 (fun j => .int (f j))
  obtain ⟨-, k1, hk1, cm1, hkk1⟩ := ht1 n1 (fun j => .int (g j))
  obtain ⟨vm', X', step⟩ := X.arraycopy hexec hown hlink hnat hstat hini (src := a0) (dst := a) (cs := vp_cell c0 (n0, .inl f)) (cd := vp_cell c1 (n1, .inl g)) (srcPos := sp) (destPos := dp) (n := n) (by rw [hT]; exact hc0) (by rw [hT]; exact hc1)
    (fun _ h => by cases h) (fun _ h => by cases h) (fun h => by cases h) (fun h => by cases h) hk0 hk1 hkk0 hkk1 (by simp [refKind]) h1 h2 h3
    (by rw [nn sp h1, nn n h3]; show ¬ _ > ((arrV c0 n0 (fun j => .int (f j))).slots.size : Int); rw [arrV_size]; omega)
    (by rw [nn dp h2, nn n h3]; show ¬ _ > ((arrV c1 n1 (fun j => .int (g j))).slots.size : Int); rw [arrV_size]; omega)
    (fun vm₁ _ i hi => by
      have e : (vp_cell c0 (n0, .inl f)).slots.getD (sp.toNatClampNeg + i) .null = .int (f (sp.toNatClampNeg + i)) := by
        show (arrV c0 n0 (fun j => .int (f j))).slots.getD _ _ = _
        rw [Array.getD_eq_getD_getElem?, arrV_read _ _ (by omega)]
        rfl
      refine ⟨?_, ?_⟩
      · rw [e]
        exact hfb _
      · rw [e]
        exact trivial)
    (g := F0 m pc ls (.int n :: .int dp :: .ref a :: .int sp :: .ref a0 :: rest)) rfl (by rw [hml]) (rest := rest) rfl (by rw [hb]; exact hdg) hframes (by show 2 * 0 + _ + _ ≤ _; omega)
  have e1 : copied (vp_cell c0 (n0, .inl f)) (vp_cell c1 (n1, .inl g)) sp dp n = vp_cell c1 (n1, .inl (va_cpy f g sp.toNatClampNeg dp.toNatClampNeg n.toNatClampNeg)) := va_copied (fun z => .int z) c0 c1 f g h4
  rw [e1] at X' step
  have hl : a < H.size := (Array.getElem?_eq_some_iff.mp hc1).1
  have hheap : ((T.setVm vm').setCell a (vp_cell c1 (n1, .inl (va_cpy f g sp.toNatClampNeg dp.toNatClampNeg n.toNatClampNeg)))).heap = H.setIfInBounds a (vp_cell c1 (n1, .inl (va_cpy f g sp.toNatClampNeg dp.toNatClampNeg n.toNatClampNeg))) := by rw [← hT]; rfl
  obtain ⟨t, a1, b1⟩ := kk _ _ (show (H.setIfInBounds a _)[a]? = some _ by simp [Array.getElem?_setIfInBounds, hl]) (by simp) (fun q hq => by simp [Array.getElem?_setIfInBounds, Ne.symm hq]) (fun z hz => by
    obtain ⟨y, -, hy⟩ := List.mem_map.mp hz
    rw [← hy]) _ hheap X'
  exact ⟨t, step t a1, b1⟩
end ZCP
def zCpL (own : String) (ix : Nat) : Prop := Cond.methodLink own ix arraycopyName ∈ zTs ∧ Cond.native arraycopyName ∈ zTs ∧ Cond.static arraycopyName ∈ zTs ∧ Cond.initialized "java/lang/System" ∈ zTs
section ZJ8
variable {K : zK} {l0 : Launch} {g : zG} {cc : ByteArray} {nL nc ns pc : Nat} {own : String} {lv lv1 : List (Nat × Value)} {rest : List Value} {M M1 : zM} {S S1 : zS}
variable {nm : String} {ret : Option FieldType} {L mc ms : Nat} {oc : Option Value ⊕ String} {M9 : zM} {S9 : zS} {φ φ1 : Prop}
theorem j_copy (hC : zC K l0 g cc nL own) (hE : zE K g nm ret L mc ms oc M9 S9 φ) {ix a0 a : Nat} {i0 i1 n j0 j1 n1 l1 l2 : Int} (lk : zCpL own ix) (hd : decode cc pc = .ok (.invokestatic ix, 3)) (hk0 : zkd S a0 = 20) (hk1 : zkd S a = 20) (hl0 : zlen S a0 = l1) (hl1 : zlen S a = l2) (q0 : w i0 = j0) (q1 : w i1 = j1) (q2 : w n = n1) (hc : 0 ≤ j0 ∧ 0 ≤ j1 ∧ 0 ≤ n1 ∧ j0 + n1 ≤ l1 ∧ j1 + n1 ≤ l2) (hM1 : M1 = zcpy M a0 j0 a j1 n1) (hcat : rest.length ≤ 4) (hL : 1 ≤ L)
    (k : zJ K g nc ns (pc + 3) nL lv rest M1 S) : zJ K g nc ns pc nL lv (.int (zi n) :: .int (zi i1) :: zr g a :: .int (zi i0) :: zr g a0 :: rest) M S := by
  obtain ⟨p, l, e, R, s, m, args, below, meth, c, Q⟩ := K
  obtain ⟨rfl, hx, hb, hml, hown, hts, hT, hO, hNw, hlk, htr⟩ := hC
  obtain ⟨hnm, hrt, rfl, rfl⟩ := hE
  intro H locs ls hR hS hl
  subst q0; subst q1; subst q2; subst hl0; subst hl1; subst hM1
  have h8 := zcat hcat
  have h280 : (S.2.1 a0).1 < 28 := by show zkd S a0 < 28; omega
  have h281 : (S.2.1 a).1 < 28 := by show zkd S a < 28; omega
  have hz0 := (hR.pos h280).1
  have hz1 := (hR.pos h281).1
  have e0 := (hR.2.1 a0).2 (by rw [show (S.2.1 a0).1 = 20 from hk0]; decide) h280
  have e1 := (hR.2.1 a).2 (by rw [show (S.2.1 a).1 = 20 from hk1]; decide) h281
  rw [show (S.2.1 a0).1 = 20 from hk0] at e0
  rw [show (S.2.1 a).1 = 20 from hk1] at e1
  have hneg : ∀ x : Int, 0 ≤ w x → ¬ zi x < 0 := fun x hx9 => by
    rw [zi_0, zi_ltw]; have : w 0 = 0 := by decide
    omega
  have hT0 : ∀ x : Int, 0 ≤ w x → (((zi x).toNatClampNeg : Nat) : Int) = w x := fun x hx9 => Int.toNat_of_nonneg hx9
  have z4 : zlen S a0 = ((S.2.1 a0).2 : Int) := rfl
  have z5 : zlen S a = ((S.2.1 a).2 : Int) := rfl
  have t0 := hT0 i0 hc.1
  have t1 := hT0 i1 hc.2.1
  have t2 := hT0 n hc.2.2.1
  have q4 : (zi i0).toNatClampNeg + (zi n).toNatClampNeg ≤ (S.2.1 a0).2 := by omega
  have q5 : (zi i1).toNatClampNeg + (zi n).toNatClampNeg ≤ (S.2.1 a).2 := by omega
  have q6 : nativeFrameWords "java/lang/System" "arraycopy" 5 ≤ 40 := by decide +kernel
  have q7 : (rest.map fun v => v.category).sum + (nativeFrameWords "java/lang/System" "arraycopy" 5 + 11) ≤ 128 * L := by omega
  rw [zr_nz hz0, zr_nz hz1]
  refine z_copyi (f := fun j => zi (M a0 j)) (g := fun j => zi (M a j)) hx hb (hml.trans hl.1.symm) hown (hts _ lk.1) (hts _ lk.2.1) (hts _ lk.2.2.1) (hts _ lk.2.2.2) e0 e1 (hT.2 20 (by decide) (by decide)).1 (hT.2 20 (by decide) (by decide)).1 (hneg _ hc.1) (hneg _ hc.2.1) (hneg _ hc.2.2.1) q4 q5 (show 1 ≤ 8 * L by omega) q7 hd fun H1 Lc g1 g2 g3 g4 => ?_
  have hpos : ∀ q, q ≠ a → zcpy M a0 (w i0) a (w i1) (w n) q = M q := fun q hq => up_ne _ _ hq
  have hval : ∀ j : Nat, zi (zcpy M a0 (w i0) a (w i1) (w n) a j) = va_cpy (fun j => zi (M a0 j)) (fun j => zi (M a j)) (zi i0).toNatClampNeg (zi i1).toNatClampNeg (zi n).toNatClampNeg j := fun j => by
    show zi (up M a _ a j) = _
    rw [up_eq]
    by_cases hin : w i1 ≤ (j : Int) ∧ (j : Int) < w i1 + w n
    · rw [if_pos hin, pk_cpy_in (by omega) (by omega)]
      congr 2
      omega
    · rw [if_neg hin, pk_cpy_out (by omega)]
  refine k H1 _ ls (hR.upd h281 g2 g3 (fun c1 hc1 => ⟨_, e1, by rw [g1] at hc1; cases hc1; exact (arrV_size _ _ _).trans (arrV_size _ _ _).symm⟩) (fun b hb => hpos b hb) (fun _ _ => rfl) rfl rfl ⟨fun q => ?_, fun _ _ => ?_⟩ (fun j => ?_)) ⟨by rw [g2]; exact hS.1, fun q h1 h2 => ?_, fun z hz => ?_⟩ hl
  · rw [show (S.2.1 a).1 = 20 from hk1] at q
    exact absurd q (by decide)
  · rw [show (S.2.1 a).1 = 20 from hk1, g1]
    refine congrArg some (Eq.trans (b := arrV (zc g 20) (S.2.1 a).2 (fun j => .int (va_cpy (fun j => zi (M a0 j)) (fun j => zi (M a j)) (zi i0).toNatClampNeg (zi i1).toNatClampNeg (zi n).toNatClampNeg j))) rfl ?_)
    congr 1
    funext j
    show Value.int _ = Value.int _
    rw [hval]
  · rw [show (S.2.1 a).1 = 20 from hk1]
    show inR (up M a _ a (j : Int))
    rw [up_eq]
    by_cases hin : w i1 ≤ (j : Int) ∧ (j : Int) < w i1 + w n
    · rw [if_pos hin]
      have h9 := hR.2.2.2.1 a0 (w i0 + ((j : Int) - w i1)).toNat h280
      rw [show (S.2.1 a0).1 = 20 from hk0, Int.toNat_of_nonneg (by omega)] at h9
      exact h9
    · rw [if_neg hin]
      have h9 := hR.2.2.2.1 a j h281
      rw [show (S.2.1 a).1 = 20 from hk1] at h9
      exact h9
  · rw [g3 q (fun e9 => h2 (by rw [e9]; exact zad_gt hz1 (hR.pos h281).2.2))]
    exact hS.2.1 q h1 h2
  · rcases List.mem_append.mp hz with h | h
    · exact hS.2.2 z h
    · rw [g4 z h]; exact zad_gt hz1 (hR.pos h281).2.2
theorem j_copyB (hC : zC K l0 g cc nL own) (hE : zE K g nm ret L mc ms oc M9 S9 φ) {ix a0 a : Nat} {i0 i1 n j0 j1 n1 l1 l2 : Int} (lk : zCpL own ix) (hd : decode cc pc = .ok (.invokestatic ix, 3)) (hk0 : zkd S a0 = 24) (hk1 : zkd S a = 24) (hl0 : zlen S a0 = l1) (hl1 : zlen S a = l2) (q0 : w i0 = j0) (q1 : w i1 = j1) (q2 : w n = n1) (hc : 0 ≤ j0 ∧ 0 ≤ j1 ∧ 0 ≤ n1 ∧ j0 + n1 ≤ l1 ∧ j1 + n1 ≤ l2) (hM1 : M1 = zcpy M a0 j0 a j1 n1) (hcat : rest.length ≤ 4) (hL : 1 ≤ L)
    (k : zJ K g nc ns (pc + 3) nL lv rest M1 S) : zJ K g nc ns pc nL lv (.int (zi n) :: .int (zi i1) :: zr g a :: .int (zi i0) :: zr g a0 :: rest) M S := by
  obtain ⟨p, l, e, R, s, m, args, below, meth, c, Q⟩ := K
  obtain ⟨rfl, hx, hb, hml, hown, hts, hT, hO, hNw, hlk, htr⟩ := hC
  obtain ⟨hnm, hrt, rfl, rfl⟩ := hE
  intro H locs ls hR hS hl
  subst q0; subst q1; subst q2; subst hl0; subst hl1; subst hM1
  have h8 := zcat hcat
  have h280 : (S.2.1 a0).1 < 28 := by show zkd S a0 < 28; omega
  have h281 : (S.2.1 a).1 < 28 := by show zkd S a < 28; omega
  have hz0 := (hR.pos h280).1
  have hz1 := (hR.pos h281).1
  have e0 := (hR.2.1 a0).2 (by rw [show (S.2.1 a0).1 = 24 from hk0]; decide) h280
  have e1 := (hR.2.1 a).2 (by rw [show (S.2.1 a).1 = 24 from hk1]; decide) h281
  rw [show (S.2.1 a0).1 = 24 from hk0] at e0
  rw [show (S.2.1 a).1 = 24 from hk1] at e1
  have hneg : ∀ x : Int, 0 ≤ w x → ¬ zi x < 0 := fun x hx9 => by
    rw [zi_0, zi_ltw]; have : w 0 = 0 := by decide
    omega
  have hT0 : ∀ x : Int, 0 ≤ w x → (((zi x).toNatClampNeg : Nat) : Int) = w x := fun x hx9 => Int.toNat_of_nonneg hx9
  have z4 : zlen S a0 = ((S.2.1 a0).2 : Int) := rfl
  have z5 : zlen S a = ((S.2.1 a).2 : Int) := rfl
  have t0 := hT0 i0 hc.1
  have t1 := hT0 i1 hc.2.1
  have t2 := hT0 n hc.2.2.1
  have q4 : (zi i0).toNatClampNeg + (zi n).toNatClampNeg ≤ (S.2.1 a0).2 := by omega
  have q5 : (zi i1).toNatClampNeg + (zi n).toNatClampNeg ≤ (S.2.1 a).2 := by omega
  have q6 : nativeFrameWords "java/lang/System" "arraycopy" 5 ≤ 40 := by decide +kernel
  have q7 : (rest.map fun v => v.category).sum + (nativeFrameWords "java/lang/System" "arraycopy" 5 + 11) ≤ 128 * L := by omega
  rw [zr_nz hz0, zr_nz hz1]
  refine z_copyB (f := fun j => zi (M a0 j)) (g := fun j => zi (M a j)) hx hb (hml.trans hl.1.symm) hown (hts _ lk.1) (hts _ lk.2.1) (hts _ lk.2.2.1) (hts _ lk.2.2.2) e0 e1 (hT.2 24 (by decide) (by decide)).1 (hT.2 24 (by decide) (by decide)).1 (fun i => (zfits (Or.inr (Or.inr rfl)) (by have h9 := hR.2.2.2.1 a0 i h280; rw [show (S.2.1 a0).1 = 24 from hk0] at h9; exact h9)).2) (hneg _ hc.1) (hneg _ hc.2.1) (hneg _ hc.2.2.1) q4 q5 (show 1 ≤ 8 * L by omega) q7 hd fun H1 Lc g1 g2 g3 g4 => ?_
  have hpos : ∀ q, q ≠ a → zcpy M a0 (w i0) a (w i1) (w n) q = M q := fun q hq => up_ne _ _ hq
  have hval : ∀ j : Nat, zi (zcpy M a0 (w i0) a (w i1) (w n) a j) = va_cpy (fun j => zi (M a0 j)) (fun j => zi (M a j)) (zi i0).toNatClampNeg (zi i1).toNatClampNeg (zi n).toNatClampNeg j := fun j => by
    show zi (up M a _ a j) = _
    rw [up_eq]
    by_cases hin : w i1 ≤ (j : Int) ∧ (j : Int) < w i1 + w n
    · rw [if_pos hin, pk_cpy_in (by omega) (by omega)]
      congr 2
      omega
    · rw [if_neg hin, pk_cpy_out (by omega)]
  refine k H1 _ ls (hR.upd h281 g2 g3 (fun c1 hc1 => ⟨_, e1, by rw [g1] at hc1; cases hc1; exact (arrV_size _ _ _).trans (arrV_size _ _ _).symm⟩) (fun b hb => hpos b hb) (fun _ _ => rfl) rfl rfl ⟨fun q => ?_, fun _ _ => ?_⟩ (fun j => ?_)) ⟨by rw [g2]; exact hS.1, fun q h1 h2 => ?_, fun z hz => ?_⟩ hl
  · rw [show (S.2.1 a).1 = 24 from hk1] at q
    exact absurd q (by decide)
  · rw [show (S.2.1 a).1 = 24 from hk1, g1]
    refine congrArg some (Eq.trans (b := arrV (zc g 24) (S.2.1 a).2 (fun j => .int (va_cpy (fun j => zi (M a0 j)) (fun j => zi (M a j)) (zi i0).toNatClampNeg (zi i1).toNatClampNeg (zi n).toNatClampNeg j))) rfl ?_)
    congr 1
    funext j
    show Value.int _ = Value.int _
    rw [hval]
  · rw [show (S.2.1 a).1 = 24 from hk1]
    show zrg .byte (up M a _ a (j : Int))
    rw [up_eq]
    by_cases hin : w i1 ≤ (j : Int) ∧ (j : Int) < w i1 + w n
    · rw [if_pos hin]
      have h9 := hR.2.2.2.1 a0 (w i0 + ((j : Int) - w i1)).toNat h280
      rw [show (S.2.1 a0).1 = 24 from hk0, Int.toNat_of_nonneg (by omega)] at h9
      exact h9
    · rw [if_neg hin]
      have h9 := hR.2.2.2.1 a j h281
      rw [show (S.2.1 a).1 = 24 from hk1] at h9
      exact h9
  · rw [g3 q (fun e9 => h2 (by rw [e9]; exact zad_gt hz1 (hR.pos h281).2.2))]
    exact hS.2.1 q h1 h2
  · rcases List.mem_append.mp hz with h | h
    · exact hS.2.2 z h
    · rw [g4 z h]; exact zad_gt hz1 (hR.pos h281).2.2
end ZJ8
section ZCLN
variable {p : Program} {l : Launch} {e : Env} {R : Room} {s : State} {m : MethodId} {args : Array Value} {below : List Frame} {meth : Method} {c : Code} {H : Heap} {locs : List Loc} {cells slots : Nat} {Q : State → Prop}
variable {cc : ByteArray} {pc : Nat} {ls : Array Slot} {rest : List Value}
/-- clone of an int array (after va_clone of the kit, without its list of worlds) -/
theorem z_clone (hexec : p.tables.exec = Jvm.exec) (hb : c.code = cc) (hml : c.maxLocals = ls.size) {own ad : String} {index : Nat} (hown : s.vm.findClass own = some m.cls)
    (hlink : (Cond.methodLink own index ⟨ad, "clone", "()Ljava/lang/Object;"⟩).before args s = true) (hsame : (Cond.sameMethod ad "java/lang/Object" "clone" "()Ljava/lang/Object;").before args s = true)
    (hnat : (Cond.native ⟨"java/lang/Object", "clone", "()Ljava/lang/Object;"⟩).before args s = true) (hinst : (Cond.instanceMethod ⟨"java/lang/Object", "clone", "()Ljava/lang/Object;"⟩).before args s = true)
    (hsel : (Cond.selects ad ⟨ad, "clone", "()Ljava/lang/Object;"⟩ ⟨"java/lang/Object", "clone", "()Ljava/lang/Object;"⟩).before args s = true) (hcl : va_Nw (.castable ad "java/lang/Cloneable") s)
    {a : Nat} {cA : ClassId} {N : Nat} {f : Nat → Int32} (hcell : H[a]? = some (vp_cell cA (N, .inl f))) (hAr : ArrOfT s cA .int) (hnm : s.vm.findClass ad = some cA)
    (hframes : 1 ≤ R.frames) (hlocals : (rest.map fun v => v.category).sum + 14 ≤ R.locals) (hcells : cells + 1 ≤ R.cells) (hslots : slots + N ≤ R.slots) (hdg : decode cc pc = .ok (.invokevirtual index, 3))
    (kk : ∀ (H1 : Heap), H1[H.size]? = some (vp_cell cA (N, .inl f)) → H1.size = H.size + 1 → (∀ q : Nat, q < H.size → H1[q]? = H[q]?) →
      W p l e R s m args below meth c H1 locs (cells + 1) (slots + N) Q (F0 m (pc + 3) ls (.ref H.size :: rest))) : W p l e R s m args below meth c H locs cells slots Q (F0 m pc ls (.ref a :: rest)) := by
  have hsz : (vp_cell cA (N, .inl f)).slots.size = N := arrV_size _ _ _
  obtain ⟨c0, t0', f1, f2, f3⟩ := Cond.castable_spec (va_Nw.use (A := args) rfl hcl)
  cases hnm.symm.trans f1
  intro T hT X
  have hcellT : T.heap[a]? = some (vp_cell cA (N, .inl f)) := by rw [hT]; exact hcell
  obtain ⟨-, kA, hkA, comp, hkind⟩ := State.isArrayOf_alike X.warmed.alike (hAr 0 (fun _ => .null))
  obtain ⟨-, kS, hkS, compS, hkindS⟩ := hAr 0 (fun _ => .null)
  obtain ⟨vm', X', st⟩ := X.cloneArray hexec hown hlink hsame hnat hinst hsel (a := a) (cell := vp_cell cA (N, .inl f)) hcellT (fun k h => by cases h) (fun h => by cases h) hnm f2 f3
    (fun i v hv => by
      have hv9 : v = .int (f i) := by
        by_cases hi : i < N
        · have h9 := arrV_read cA (fun j => Value.int (f j)) hi
          exact (Option.some.inj (h9.symm.trans hv)).symm
        · have h9 : (vp_cell cA (N, .inl f)).slots[i]? = none := Array.getElem?_eq_none (by rw [hsz]; omega)
          rw [h9] at hv
          cases hv
      have hk' : T.vm.classes[cA]? = some kA := hkA
      have e9 : (vp_cell cA (N, .inl f)).cls = cA := rfl
      rw [e9, hv9]
      simp [State.fitsSlot, State.slotType?, hk', hkind]
      rfl)
    (g := F0 m pc ls (.ref a :: rest)) rfl (by rw [hml]) rfl (by rw [hb]; exact hdg) hframes (by show 2 * 0 + _ + 14 ≤ _; omega) hcells (by rw [hsz]; exact hslots) (hloader := Vm.clonesLoader_of_array hkS hkindS)
  have hcellE : ({ cls := (vp_cell cA (N, .inl f)).cls, slots := (vp_cell cA (N, .inl f)).slots } : Cell) = vp_cell cA (N, .inl f) := rfl
  rw [hcellE, hsz] at X'
  obtain ⟨t, b1, b2⟩ := kk (H.push (vp_cell cA (N, .inl f))) (by rw [Array.getElem?_push_size]) (by rw [Array.size_push]) (fun q hq => by rw [Array.getElem?_push, if_neg (Nat.ne_of_lt hq)])
    ((T.setVm vm').pushCell (vp_cell cA (N, .inl f))) (by rw [← hT]; rfl) X'
  refine ⟨t, st t ?_, b2⟩
  rw [hcellE, hT]
  exact b1
theorem z_cloneB (hexec : p.tables.exec = Jvm.exec) (hb : c.code = cc) (hml : c.maxLocals = ls.size) {own ad : String} {index : Nat} (hown : s.vm.findClass own = some m.cls)
    (hlink : (Cond.methodLink own index ⟨ad, "clone", "()Ljava/lang/Object;"⟩).before args s = true) (hsame : (Cond.sameMethod ad "java/lang/Object" "clone" "()Ljava/lang/Object;").before args s = true)
    (hnat : (Cond.native ⟨"java/lang/Object", "clone", "()Ljava/lang/Object;"⟩).before args s = true) (hinst : (Cond.instanceMethod ⟨"java/lang/Object", "clone", "()Ljava/lang/Object;"⟩).before args s = true)
    (hsel : (Cond.selects ad ⟨ad, "clone", "()Ljava/lang/Object;"⟩ ⟨"java/lang/Object", "clone", "()Ljava/lang/Object;"⟩).before args s = true) (hcl : va_Nw (.castable ad "java/lang/Cloneable") s)
    {a : Nat} {cA : ClassId} {N : Nat} {f : Nat → Int32} (hcell : H[a]? = some (vp_cell cA (N, .inl f))) (hAr : ArrOfT s cA .byte) (hfb : ∀ i : Nat, fits .byte (.int (f i)) = true) (hnm : s.vm.findClass ad = some cA)
    (hframes : 1 ≤ R.frames) (hlocals : (rest.map fun v => v.category).sum + 14 ≤ R.locals) (hcells : cells + 1 ≤ R.cells) (hslots : slots + N ≤ R.slots) (hdg : decode cc pc = .ok (.invokevirtual index, 3))
    (kk : ∀ (H1 : Heap), H1[H.size]? = some (vp_cell cA (N, .inl f)) → H1.size = H.size + 1 → (∀ q : Nat, q < H.size → H1[q]? = H[q]?) →
      W p l e R s m args below meth c H1 locs (cells + 1) (slots + N) Q (F0 m (pc + 3) ls (.ref H.size :: rest))) : W p l e R s m args below meth c H locs cells slots Q (F0 m pc ls (.ref a :: rest)) := by
  have hsz : (vp_cell cA (N, .inl f)).slots.size = N := arrV_size _ _ _
  obtain ⟨c0, t0', f1, f2, f3⟩ := Cond.castable_spec (va_Nw.use (A := args) rfl hcl)
  cases hnm.symm.trans f1
  intro T hT X
  have hcellT : T.heap[a]? = some (vp_cell cA (N, .inl f)) := by rw [hT]; exact hcell
  obtain ⟨-, kA, hkA, comp, hkind⟩ := State.isArrayOf_alike X.warmed.alike (hAr 0 (fun _ => .null))
  obtain ⟨-, kS, hkS, compS, hkindS⟩ := hAr 0 (fun _ => .null)
  obtain ⟨vm', X', st⟩ := X.cloneArray hexec hown hlink hsame hnat hinst hsel (a := a) (cell := vp_cell cA (N, .inl f)) hcellT (fun k h => by cases h) (fun h => by cases h) hnm f2 f3
    (fun i v hv => by
      have hv9 : v = .int (f i) := by
        by_cases hi : i < N
        · have h9 := arrV_read cA (fun j => Value.int (f j)) hi
          exact (Option.some.inj (h9.symm.trans hv)).symm
        · have h9 : (vp_cell cA (N, .inl f)).slots[i]? = none := Array.getElem?_eq_none (by rw [hsz]; omega)
          rw [h9] at hv
          cases hv
      have hk' : T.vm.classes[cA]? = some kA := hkA
      have e9 : (vp_cell cA (N, .inl f)).cls = cA := rfl
      rw [e9, hv9]
      simp [State.fitsSlot, State.slotType?, hk', hkind]
      exact hfb i)
    (g := F0 m pc ls (.ref a :: rest)) rfl (by rw [hml]) rfl (by rw [hb]; exact hdg) hframes (by show 2 * 0 + _ + 14 ≤ _; omega) hcells (by rw [hsz]; exact hslots) (hloader := Vm.clonesLoader_of_array hkS hkindS)
  have hcellE : ({ cls := (vp_cell cA (N, .inl f)).cls, slots := (vp_cell cA (N, .inl f)).slots } : Cell) = vp_cell cA (N, .inl f) := rfl
  rw [hcellE, hsz] at X'
  obtain ⟨t, b1, b2⟩ := kk (H.push (vp_cell cA (N, .inl f))) (by rw [Array.getElem?_push_size]) (by rw [Array.size_push]) (fun q hq => by rw [Array.getElem?_push, if_neg (Nat.ne_of_lt hq)])
    ((T.setVm vm').pushCell (vp_cell cA (N, .inl f))) (by rw [← hT]; rfl) X'
  refine ⟨t, st t ?_, b2⟩
  rw [hcellE, hT]
  exact b1
theorem z_castA (hexec : p.tables.exec = Jvm.exec) (hb : c.code = cc) {own nm : String} {index a : Nat} (hown : s.vm.findClass own = some m.cls) (hlink : (Cond.classLink own index nm).before args s = true) {cA : ClassId} {N : Nat} {F : Nat → Value} (hcell : H[a]? = some (arrV cA N F)) (hnm : s.vm.findClass nm = some cA) (hdg : decode cc pc = .ok (.checkcast index, 3))
    (k : W p l e R s m args below meth c H locs cells slots Q (F0 m (pc + 3) ls (.ref a :: rest))) : W p l e R s m args below meth c H locs cells slots Q (F0 m pc ls (.ref a :: rest)) := by
  intro T hT X
  obtain ⟨vm', X', st⟩ := X.checkcastYes hexec hown hlink (by rw [hT]; exact hcell) rfl hnm (va_asg _ _) (g := F0 m pc ls (.ref a :: rest)) rfl rfl (by rw [hb]; exact hdg)
  obtain ⟨t, a1, b1⟩ := k (T.setVm vm') hT X'
  exact ⟨t, st t a1, b1⟩
theorem z_outer (c : ClassId) (N h0 : Nat) : ∀ i : Nat, Jvm.Free.Multi.outerC c N h0 i = arrV c N (fun j => va_rf (if j < i then some (h0 + 1 + j) else none)) := by
  intro i
  induction i with
  | zero =>
    show ({ cls := c, slots := Array.replicate N .null, vm := .none } : Cell) = _
    rw [arrV_new]
    exact congrArg (arrV c N) (funext fun j => by simp [va_rf])
  | succ i ih =>
    show (Jvm.Free.Multi.outerC c N h0 i).setSlot i (.ref (h0 + 1 + i)) = _
    rw [ih, arrV_store]
    refine congrArg (arrV c N) (funext fun j => ?_)
    by_cases e : j = i
    · subst e
      simp [updV, va_rf]
    · by_cases h : j < i
      · simp [updV, e, h, Nat.lt_succ_of_lt h]
      · simp [updV, e, h, show ¬ j < i + 1 by omega]
/-- an array of N int arrays, all new (after va_mna of the kit) -/
theorem z_mna (hexec : p.tables.exec = Jvm.exec) (hb : c.code = cc) {own : String} {index : Nat} {cy : ClassId} (hown : s.vm.findClass own = some m.cls) (hclink : (Cond.classLink own index ("[" ++ (FieldType.array .int).toString)).before args s = true) (hover : zAI s) (harr : (Cond.arrayClass .int).before args s = true) (hcy : s.vm.findClass (FieldType.array .int).toString = some cy)
    {n k : Int32} {N K' : Nat} (hn : ¬ n < 0) (hk : ¬ k < 0) (hN : n.toNatClampNeg = N) (hM : k.toNatClampNeg = K')
    (hb1 : N * 4 ≤ 536870912) (hb2 : K' * 4 ≤ 536870912) (hb3 : K' ≤ 536870912) (hcells : cells + (1 + N) ≤ R.cells) (hslots : slots + (N + N * K') ≤ R.slots) (hdg : decode cc pc = .ok (.multianewarray index 2, 4))
    (kk : ∀ (cA : ClassId) (H1 : Heap), s.vm.findClass ("[" ++ (FieldType.array .int).toString) = some cA → H1.size = H.size + (1 + N) → (∀ q : Nat, q < H.size → H1[q]? = H[q]?) → H1[H.size]? = some (arrV cA N (fun j => va_rf (if j < N then some (H.size + 1 + j) else none))) →
      (∀ j : Nat, j < N → H1[H.size + 1 + j]? = some (arrV cy K' (fun _ => defaultValue .int))) →
      W p l e R s m args below meth c H1 locs (cells + 1 + N) (slots + N + N * K') Q (F0 m (pc + 4) ls (.ref H.size :: rest))) : W p l e R s m args below meth c H locs cells slots Q (F0 m pc ls (.int k :: .int n :: rest)) := by
  subst hN
  subst hM
  intro T hT Xs
  obtain ⟨vm₁, cA, comp, -, fA, fC, hO, -, X', step⟩ := Xs.multianewarray2F hexec hown hclink (show (Cond.arrayOver (.array .int)).before args s = true from hover) harr (g := F0 m pc ls (.int k :: .int n :: rest)) rfl (by rw [hb]; exact hdg) rfl hn hk hb1 hb2 hb3 rfl rfl hcells hslots
  have ec : some cy = some comp := hcy.symm.trans fC
  cases ec
  generalize hF : Jvm.Free.Multi.fill (T.setVm vm₁) cA cy n.toNatClampNeg k.toNatClampNeg (defaultValue .int) n.toNatClampNeg = F at X' step
  have hTh : (T.setVm vm₁).heap = H := hT
  obtain ⟨f1, f2, -, -⟩ := Jvm.Free.Multi.fill_facts (T.setVm vm₁) cA cy n.toNatClampNeg k.toNatClampNeg (defaultValue .int) n.toNatClampNeg
  rw [hF, hTh] at f1 f2
  have hold : ∀ x : Nat, x < H.size → F.heap[x]? = H[x]? := fun x hx => by
    have := Jvm.Free.Multi.fill_old (T.setVm vm₁) cA cy n.toNatClampNeg k.toNatClampNeg (defaultValue .int) (a := x) (by rw [hTh]; exact hx) n.toNatClampNeg
    rw [hF, hTh] at this
    exact this
  have hrow : ∀ j : Nat, j < n.toNatClampNeg → F.heap[H.size + 1 + j]? = some (arrV cy k.toNatClampNeg (fun _ => defaultValue .int)) := fun j hj => by
    have := Jvm.Free.Multi.fill_inner (T.setVm vm₁) cA cy n.toNatClampNeg k.toNatClampNeg (defaultValue .int) n.toNatClampNeg j hj
    rw [hF, hTh] at this
    rw [this]
    show some ({ cls := cy, slots := Array.replicate k.toNatClampNeg (defaultValue .int), vm := .none } : Cell) = _
    rw [arrV_new]
  rw [z_outer cA n.toNatClampNeg H.size n.toNatClampNeg] at f2
  obtain ⟨t, a1, b1⟩ := kk cA F.heap fA (by rw [f1]; omega) hold f2 hrow F rfl X'
  refine ⟨t, step t ?_, b1⟩
  have e : T.heap.size = H.size := by rw [hT]
  rw [e]
  exact a1
end ZCLN
theorem zR.ext {g : zG} {M M1 : zM} {S S1 : zS} {H H1 : Heap} (n : Nat) (h : zR g M S H) (hz : H1.size = H.size + n) (ho : ∀ q, q < H.size → H1[q]? = H[q]?) (hs : S.1 + n ≤ 47 ∨ 89 ≤ S.1) (h1 : S1.1 = S.1 + n) (hk : ∀ b, b ≤ S.1 ∨ S1.1 < b → S1.2.1 b = S.2.1 b ∧ S1.2.2 b = S.2.2 b ∧ M1 b = M b)
    (hw : ∀ b, S.1 < b → b ≤ S1.1 → (∃ c1 : Cell, H1[zad g b]? = some c1 ∧ c1.slots.size ≤ max 1000 (S1.2.1 b).2) ∧ (89 < b → (S1.2.1 b).2 ≤ 1000))
    (hn : ∀ b, S.1 < b → b ≤ S1.1 → zAt g M1 S1 b H1 ∧ ((S1.2.1 b).1 < 28 → (S1.2.1 b).2 < 100000 ∧ ∀ k : Nat, zrg (zty (S1.2.1 b).1 k) (M1 b k))) : zR g M1 S1 H1 := by
  have hlo : ∀ b : Nat, ¬ (S.1 < b ∧ b ≤ S1.1) → b ≤ S.1 ∨ S1.1 < b := fun b q => by omega
  have hs8 := h.2.2.1.2.2.2
  refine ⟨?_, fun b => ?_, ⟨fun b hb => ?_, fun b hb => ?_, ⟨fun b b0 b1 b2 => ?_, fun b b0 => ?_⟩, by omega⟩, fun b k hb => ?_, fun b hb => ?_⟩
  · rw [hz, h.1, h1]
    unfold zcn
    rcases hs with q | q
    · rw [if_pos (by omega), if_pos (by omega)]; omega
    · rw [if_neg (by omega), if_neg (by omega)]; omega
  · by_cases e : S.1 < b ∧ b ≤ S1.1
    · exact (hn b e.1 e.2).1
    · obtain ⟨k1, k2, k3⟩ := hk b (hlo b e)
      by_cases e2 : S1.1 < b
      · have h8 : 28 ≤ (S1.2.1 b).1 := by rw [k1]; exact (h.2.2.1.1 b (Or.inr (by omega))).1
        exact ⟨fun q => absurd q (by omega), fun _ q => absurd q (by omega)⟩
      · exact (h.2.1 b).kept (ho _ (by rw [h.1]; exact zad_old (by omega) hs8)) k1 k3 k2
  · obtain ⟨k1, k2, k3⟩ := hk b (by omega)
    rw [k1, k2, k3]
    exact h.2.2.1.1 b (by omega)
  · have hb2 : 47 < b ∧ b < 90 := hb
    obtain ⟨k1, k2, k3⟩ := hk b (by omega)
    rw [k1]
    exact h.2.2.1.2.1 b hb
  · by_cases e : S.1 < b
    · exact (hw b e b1).1
    · obtain ⟨k1, k2, k3⟩ := hk b (by omega)
      rw [k1]
      obtain ⟨c0, q1, q2⟩ := h.2.2.1.2.2.1.1 b b0 (by omega) b2
      exact ⟨c0, by rw [ho _ (by rw [h.1]; exact zad_old (by omega) hs8)]; exact q1, q2⟩
  · by_cases e : S.1 < b ∧ b ≤ S1.1
    · exact (hw b e.1 e.2).2 b0
    · rw [(hk b (hlo b e)).1]
      exact h.2.2.1.2.2.1.2 b b0
  · by_cases e : S.1 < b ∧ b ≤ S1.1
    · exact ((hn b e.1 e.2).2 hb).2 k
    · obtain ⟨k1, k2, k3⟩ := hk b (hlo b e)
      rw [k1] at hb ⊢
      rw [k3]
      exact h.2.2.2.1 b k hb
  · by_cases e : S.1 < b ∧ b ≤ S1.1
    · exact ((hn b e.1 e.2).2 hb).1
    · obtain ⟨k1, k2, k3⟩ := hk b (hlo b e)
      rw [k1] at hb ⊢
      exact h.2.2.2.2 b hb
def zClL (own : String) (ix : Nat) : Prop := Cond.methodLink own ix ⟨"[I", "clone", "()Ljava/lang/Object;"⟩ ∈ zTs ∧ Cond.sameMethod "[I" "java/lang/Object" "clone" "()Ljava/lang/Object;" ∈ zTs ∧ Cond.native ⟨"java/lang/Object", "clone", "()Ljava/lang/Object;"⟩ ∈ zTs ∧ Cond.instanceMethod ⟨"java/lang/Object", "clone", "()Ljava/lang/Object;"⟩ ∈ zTs ∧ Cond.selects "[I" ⟨"[I", "clone", "()Ljava/lang/Object;"⟩ ⟨"java/lang/Object", "clone", "()Ljava/lang/Object;"⟩ ∈ zTs ∧ Cond.castable "[I" "java/lang/Cloneable" ∈ zTn
def zClLB (own : String) (ix : Nat) : Prop := Cond.methodLink own ix ⟨"[B", "clone", "()Ljava/lang/Object;"⟩ ∈ zTs ∧ Cond.sameMethod "[B" "java/lang/Object" "clone" "()Ljava/lang/Object;" ∈ zTs ∧ Cond.native ⟨"java/lang/Object", "clone", "()Ljava/lang/Object;"⟩ ∈ zTs ∧ Cond.instanceMethod ⟨"java/lang/Object", "clone", "()Ljava/lang/Object;"⟩ ∈ zTs ∧ Cond.selects "[B" ⟨"[B", "clone", "()Ljava/lang/Object;"⟩ ⟨"java/lang/Object", "clone", "()Ljava/lang/Object;"⟩ ∈ zTs ∧ Cond.castable "[B" "java/lang/Cloneable" ∈ zTn
section ZJ9
variable {K : zK} {l0 : Launch} {g : zG} {cc : ByteArray} {nL nc ns pc : Nat} {own : String} {lv lv1 : List (Nat × Value)} {rest : List Value} {M M1 : zM} {S S1 : zS}
variable {nm : String} {ret : Option FieldType} {L mc ms : Nat} {oc : Option Value ⊕ String} {M9 : zM} {S9 : zS} {φ φ1 : Prop}
theorem z_I {g : zG} {U : State} (hT : zT g U) : U.vm.findClass "[I" = some (zc g 20) := (hT.2 20 (by decide) (by decide)).2
theorem z_B {g : zG} {U : State} (hT : zT g U) : U.vm.findClass "[B" = some (zc g 24) := (hT.2 24 (by decide) (by decide)).2
theorem j_ckcast (hC : zC K l0 g cc nL own) {ix a : Nat} (lk : Cond.classLink own ix "[I" ∈ zTs) (hd : decode cc pc = .ok (.checkcast ix, 3)) (hk0 : zkd S a = 20) (k : zJ K g nc ns (pc + 3) nL lv (zr g a :: rest) M S) : zJ K g nc ns pc nL lv (zr g a :: rest) M S := by
  obtain ⟨p, l, e, R, s, m, args, below, meth, c, Q⟩ := K
  obtain ⟨rfl, hx, hb, hml, hown, hts, hT, hO, hNw, hlk, htr⟩ := hC
  intro H locs ls hR hS hl
  have h280 : (S.2.1 a).1 < 28 := by show zkd S a < 28; omega
  have hz0 := (hR.pos h280).1
  have e0 := (hR.2.1 a).2 (by rw [show (S.2.1 a).1 = 20 from hk0]; decide) h280
  rw [show (S.2.1 a).1 = 20 from hk0] at e0
  have k9 := k H locs ls hR hS hl
  rw [zr_nz hz0] at k9 ⊢
  exact z_castA hx hb hown (hts _ lk) e0 (z_I hT) hd k9
theorem j_ckcastB (hC : zC K l0 g cc nL own) {ix a : Nat} (lk : Cond.classLink own ix "[B" ∈ zTs) (hd : decode cc pc = .ok (.checkcast ix, 3)) (hk0 : zkd S a = 24) (k : zJ K g nc ns (pc + 3) nL lv (zr g a :: rest) M S) : zJ K g nc ns pc nL lv (zr g a :: rest) M S := by
  obtain ⟨p, l, e, R, s, m, args, below, meth, c, Q⟩ := K
  obtain ⟨rfl, hx, hb, hml, hown, hts, hT, hO, hNw, hlk, htr⟩ := hC
  intro H locs ls hR hS hl
  have h280 : (S.2.1 a).1 < 28 := by show zkd S a < 28; omega
  have hz0 := (hR.pos h280).1
  have e0 := (hR.2.1 a).2 (by rw [show (S.2.1 a).1 = 24 from hk0]; decide) h280
  rw [show (S.2.1 a).1 = 24 from hk0] at e0
  have k9 := k H locs ls hR hS hl
  rw [zr_nz hz0] at k9 ⊢
  exact z_castA hx hb hown (hts _ lk) e0 (z_B hT) hd k9
theorem j_clone (hC : zC K l0 g cc nL own) (hE : zE K g nm ret L mc ms oc M9 S9 φ) {ix a q : Nat} (lk : zClL own ix) (hd : decode cc pc = .ok (.invokevirtual ix, 3)) (hk0 : zkd S a = 20) (hc : zlen S a ≤ 60) (hq : q = S.1 + 1) (hS1 : S1 = zn S (20, (zlen S a).toNat)) (hM1 : M1 = up M q (M a)) (hsp : zst S (zlen S a).toNat) (r3 : nc + 1 ≤ mc) (r4 : ns + 60 ≤ ms) (hcat : rest.length ≤ 4) (hL : 1 ≤ L)
    (k : zJ K g (nc + 1) (ns + 60) (pc + 3) nL lv (zr g q :: rest) M1 S1) : zJ K g nc ns pc nL lv (zr g a :: rest) M S := by
  obtain ⟨p, l, e, R, s, m, args, below, meth, c, Q⟩ := K
  obtain ⟨rfl, hx, hb, hml, hown, hts, hT, hO, hNw, hlk, htr⟩ := hC
  obtain ⟨hnm, hrt, rfl, rfl⟩ := hE
  intro H locs ls hR hS hl
  subst hq; subst hS1; subst hM1
  have h8 := zcat hcat
  have h280 : (S.2.1 a).1 < 28 := by show zkd S a < 28; omega
  have hz0 := (hR.pos h280).1
  have e0 := (hR.2.1 a).2 (by rw [show (S.2.1 a).1 = 20 from hk0]; decide) h280
  rw [show (S.2.1 a).1 = 20 from hk0] at e0
  have z4 : zlen S a = ((S.2.1 a).2 : Int) := rfl
  have z5 : (zlen S a).toNat = (S.2.1 a).2 := Int.toNat_natCast _
  rw [z5] at k hsp
  have hq : zr g (S.1 + 1) = .ref H.size := zr_new hR hsp
  have hsz : zad g (S.1 + 1) = H.size := by rw [(zad_new hsp).1, hR.1]
  rw [zr_nz hz0]
  refine z_clone (f := fun j => zi (M a j)) hx hb (hml.trans hl.1.symm) hown (hts _ lk.1) (hts _ lk.2.1) (hts _ lk.2.2.1) (hts _ lk.2.2.2.1) (hts _ lk.2.2.2.2.1) (hNw _ lk.2.2.2.2.2) e0 (hT.2 20 (by decide) (by decide)).1 (z_I hT) (show 1 ≤ 8 * L by omega) (show _ + 14 ≤ 128 * L by omega) (show nc + 1 ≤ mc from r3) (show ns + (S.2.1 a).2 ≤ ms by omega) hd fun H1 g1 g2 g3 => ?_
  refine W.widen (Nat.le_refl _) (show ns + (S.2.1 a).2 ≤ ns + 60 by omega) ?_
  have u1 : ∀ b, b ≠ S.1 + 1 → up M (S.1 + 1) (M a) b = M b := fun b hb9 => up_ne _ _ hb9
  have hne := (hR.pos h280).2.1
  have k9 := k H1 locs ls (hR.ext 1 g2 g3 (by rcases hsp with q | q <;> omega) rfl (fun b hb9 => ⟨up_ne _ _ (by have h7 : (zn S (20, (S.2.1 a).2)).1 = S.1 + 1 := rfl; omega), rfl, u1 b (by have h7 : (zn S (20, (S.2.1 a).2)).1 = S.1 + 1 := rfl; omega)⟩) (fun b b1 b2 => by
    have hb : b = S.1 + 1 := by have h7 : (zn S (20, (S.2.1 a).2)).1 = S.1 + 1 := rfl; omega
    subst hb
    have kd : (zn S (20, (S.2.1 a).2)).2.1 (S.1 + 1) = (20, (S.2.1 a).2) := up_eq _ _ _
    rw [kd]
    refine ⟨⟨_, by rw [hsz]; exact g1, ?_⟩, fun h89 => ?_⟩
    · exact Nat.le_trans (Nat.le_of_eq (arrV_size _ _ _)) (Nat.le_max_right _ _)
    · rcases hsp with q | q
      · omega
      · exact q.2) (fun b b1 b2 => by
    have hb : b = S.1 + 1 := by have h7 : (zn S (20, (S.2.1 a).2)).1 = S.1 + 1 := rfl; omega
    subst hb
    have kd : (zn S (20, (S.2.1 a).2)).2.1 (S.1 + 1) = (20, (S.2.1 a).2) := up_eq _ _ _
    have mv : up M (S.1 + 1) (M a) (S.1 + 1) = M a := up_eq _ _ _
    refine ⟨⟨fun q => ?_, fun _ _ => ?_⟩, fun _ => ⟨?_, fun j => ?_⟩⟩
    · rw [kd] at q; exact absurd q (show ¬ (20 : Nat) < 20 by decide)
    · rw [kd, hsz, g1, mv]; rfl
    · rw [kd]; exact hR.2.2.2.2 a h280
    · rw [kd, mv]
      have h9 := hR.2.2.2.1 a j h280
      rw [show (S.2.1 a).1 = 20 from hk0] at h9
      exact h9)) (zS_more hS g2 g3) hl
  rw [hq] at k9
  exact k9
theorem j_cloneB (hC : zC K l0 g cc nL own) (hE : zE K g nm ret L mc ms oc M9 S9 φ) {ix a q : Nat} (lk : zClLB own ix) (hd : decode cc pc = .ok (.invokevirtual ix, 3)) (hk0 : zkd S a = 24) (hc : zlen S a ≤ 100) (hq : q = S.1 + 1) (hS1 : S1 = zn S (24, (zlen S a).toNat)) (hM1 : M1 = up M q (M a)) (hsp : zst S (zlen S a).toNat) (r3 : nc + 1 ≤ mc) (r4 : ns + 100 ≤ ms) (hcat : rest.length ≤ 4) (hL : 1 ≤ L)
    (k : zJ K g (nc + 1) (ns + 100) (pc + 3) nL lv (zr g q :: rest) M1 S1) : zJ K g nc ns pc nL lv (zr g a :: rest) M S := by
  obtain ⟨p, l, e, R, s, m, args, below, meth, c, Q⟩ := K
  obtain ⟨rfl, hx, hb, hml, hown, hts, hT, hO, hNw, hlk, htr⟩ := hC
  obtain ⟨hnm, hrt, rfl, rfl⟩ := hE
  intro H locs ls hR hS hl
  subst hq; subst hS1; subst hM1
  have h8 := zcat hcat
  have h280 : (S.2.1 a).1 < 28 := by show zkd S a < 28; omega
  have hz0 := (hR.pos h280).1
  have e0 := (hR.2.1 a).2 (by rw [show (S.2.1 a).1 = 24 from hk0]; decide) h280
  rw [show (S.2.1 a).1 = 24 from hk0] at e0
  have z4 : zlen S a = ((S.2.1 a).2 : Int) := rfl
  have z5 : (zlen S a).toNat = (S.2.1 a).2 := Int.toNat_natCast _
  rw [z5] at k hsp
  have hq : zr g (S.1 + 1) = .ref H.size := zr_new hR hsp
  have hsz : zad g (S.1 + 1) = H.size := by rw [(zad_new hsp).1, hR.1]
  rw [zr_nz hz0]
  refine z_cloneB (f := fun j => zi (M a j)) hx hb (hml.trans hl.1.symm) hown (hts _ lk.1) (hts _ lk.2.1) (hts _ lk.2.2.1) (hts _ lk.2.2.2.1) (hts _ lk.2.2.2.2.1) (hNw _ lk.2.2.2.2.2) e0 (hT.2 24 (by decide) (by decide)).1 (fun i => (zfits (Or.inr (Or.inr rfl)) (by have h9 := hR.2.2.2.1 a i h280; rw [show (S.2.1 a).1 = 24 from hk0] at h9; exact h9)).2) (z_B hT) (show 1 ≤ 8 * L by omega) (show _ + 14 ≤ 128 * L by omega) (show nc + 1 ≤ mc from r3) (show ns + (S.2.1 a).2 ≤ ms by omega) hd fun H1 g1 g2 g3 => ?_
  refine W.widen (Nat.le_refl _) (show ns + (S.2.1 a).2 ≤ ns + 100 by omega) ?_
  have u1 : ∀ b, b ≠ S.1 + 1 → up M (S.1 + 1) (M a) b = M b := fun b hb9 => up_ne _ _ hb9
  have hne := (hR.pos h280).2.1
  have k9 := k H1 locs ls (hR.ext 1 g2 g3 (by rcases hsp with q | q <;> omega) rfl (fun b hb9 => ⟨up_ne _ _ (by have h7 : (zn S (24, (S.2.1 a).2)).1 = S.1 + 1 := rfl; omega), rfl, u1 b (by have h7 : (zn S (24, (S.2.1 a).2)).1 = S.1 + 1 := rfl; omega)⟩) (fun b b1 b2 => by
    have hb : b = S.1 + 1 := by have h7 : (zn S (24, (S.2.1 a).2)).1 = S.1 + 1 := rfl; omega
    subst hb
    have kd : (zn S (24, (S.2.1 a).2)).2.1 (S.1 + 1) = (24, (S.2.1 a).2) := up_eq _ _ _
    rw [kd]
    refine ⟨⟨_, by rw [hsz]; exact g1, ?_⟩, fun h89 => ?_⟩
    · exact Nat.le_trans (Nat.le_of_eq (arrV_size _ _ _)) (Nat.le_max_right _ _)
    · rcases hsp with q | q
      · omega
      · exact q.2) (fun b b1 b2 => by
    have hb : b = S.1 + 1 := by have h7 : (zn S (24, (S.2.1 a).2)).1 = S.1 + 1 := rfl; omega
    subst hb
    have kd : (zn S (24, (S.2.1 a).2)).2.1 (S.1 + 1) = (24, (S.2.1 a).2) := up_eq _ _ _
    have mv : up M (S.1 + 1) (M a) (S.1 + 1) = M a := up_eq _ _ _
    refine ⟨⟨fun q => ?_, fun _ _ => ?_⟩, fun _ => ⟨?_, fun j => ?_⟩⟩
    · rw [kd] at q; exact absurd q (show ¬ (24 : Nat) < 20 by decide)
    · rw [kd, hsz, g1, mv]; rfl
    · rw [kd]; exact hR.2.2.2.2 a h280
    · rw [kd, mv]
      have h9 := hR.2.2.2.1 a j h280
      rw [show (S.2.1 a).1 = 24 from hk0] at h9
      exact h9)) (zS_more hS g2 g3) hl
  rw [hq] at k9
  exact k9
def zMuL (own : String) (ix : Nat) : Prop := Cond.classLink own ix "[[I" ∈ zTs ∧ Cond.arrayClass .int ∈ zTs
theorem j_multi (hC : zC K l0 g cc nL own) (hE : zE K g nm ret L mc ms oc M9 S9 φ) {ix q : Nat} {n1 n2 : Nat} (lk : zMuL own ix) (hd : decode cc pc = .ok (.multianewarray ix 2, 4)) (hn1 : n1 ≤ 99999) (hn2 : n2 ≤ 99999) (hq : q = S.1 + 1) (hS1 : S1 = zmulti S n1 n2) (hsp : S.1 + (n1 + 1) ≤ 47) (r3 : nc + (1 + n1) ≤ mc) (r4 : ns + (n1 + n1 * n2) ≤ ms)
    (k : zJ K g (nc + (1 + n1)) (ns + (n1 + n1 * n2)) (pc + 4) nL lv (zr g q :: rest) M S1) : zJ K g nc ns pc nL lv (.int (zi (n2 : Int)) :: .int (zi (n1 : Int)) :: rest) M S := by
  obtain ⟨p, l, e, R, s, m, args, below, meth, c, Q⟩ := K
  obtain ⟨rfl, hx, hb, hml, hown, hts, hT, hO, hNw, hlk, htr⟩ := hC
  obtain ⟨hnm, hrt, rfl, rfl⟩ := hE
  intro H locs ls hR hS hl
  subst hq; subst hS1
  have hw : ∀ n : Nat, n ≤ 99999 → w (n : Int) = n := fun n h => w_id (by unfold inR; omega)
  have hT0 : ∀ n : Nat, n ≤ 99999 → (zi (n : Int)).toNatClampNeg = n := fun n h => by show (w (n : Int)).toNat = n; rw [hw n h]; exact Int.toNat_natCast n
  have hneg : ∀ n : Nat, n ≤ 99999 → ¬ zi (n : Int) < 0 := fun n h => by rw [zi_0, zi_ltw, hw n h, show w 0 = 0 from by decide]; omega
  have hq : zr g (S.1 + 1) = .ref H.size := zr_new (n := 0) hR (Or.inl (by omega))
  have hzd : ∀ b : Nat, b < 48 → zad g b = zb g + b := fun b hb => by
    unfold zad
    rw [if_neg (by omega), if_pos hb]
  have hcn : zcn S.1 = S.1 := if_pos (by omega)
  refine z_mna hx hb hown (hts _ lk.1) hO.2.2.2.2.2.2.2.2.2.2.2.2.1 (hts _ lk.2) (z_I hT) (hneg _ hn1) (hneg _ hn2) (hT0 _ hn1) (hT0 _ hn2) (by omega) (by omega) (by omega) (show nc + (1 + n1) ≤ mc from r3) (show ns + (n1 + n1 * n2) ≤ ms from r4) hd fun cA H1 fA g2 g3 g4 g5 => ?_
  have hcA : cA = zc g 27 := Option.some.inj (fA.symm.trans (hT.2 27 (by decide) (by decide)).2)
  subst hcA
  rw [show nc + 1 + n1 = nc + (1 + n1) by omega, show ns + n1 + n1 * n2 = ns + (n1 + n1 * n2) by omega]
  have k9 := k H1 locs ls (hR.ext (1 + n1) g2 g3 (Or.inl (by omega)) (by show S.1 + 1 + n1 = _; omega) (fun b hb9 => ?_) (fun b b1 b2 => ?_) (fun b b1 b2 => ?_)) (zS_more hS g2 g3) hl
  · rw [hq] at k9
    exact k9
  · have z1 : (zmulti S n1 n2).1 = S.1 + 1 + n1 := rfl
    refine ⟨?_, ?_, rfl⟩
    · show (if b = S.1 + 1 then _ else if S.1 + 1 < b ∧ b ≤ S.1 + 1 + n1 then _ else S.2.1 b) = _
      rw [if_neg (by omega), if_neg (by omega)]
    · funext k
      show (if b = S.1 + 1 then _ else S.2.2 b k) = _
      rw [if_neg (by omega)]
  · have z1 : (zmulti S n1 n2).1 = S.1 + 1 + n1 := rfl
    refine ⟨?_, fun h89 => by omega⟩
    rw [hzd b (by omega)]
    by_cases e : b = S.1 + 1
    · subst e
      have kd : (zmulti S n1 n2).2.1 (S.1 + 1) = (27, n1) := if_pos rfl
      rw [kd, show zb g + (S.1 + 1) = H.size by rw [hR.1, hcn]; omega, g4]
      exact ⟨_, rfl, by exact Nat.le_trans (Nat.le_of_eq (arrV_size _ _ _)) (Nat.le_max_right _ _)⟩
    · have kd : (zmulti S n1 n2).2.1 b = (20, n2) := by
        show (if b = S.1 + 1 then _ else if S.1 + 1 < b ∧ b ≤ S.1 + 1 + n1 then (20, n2) else S.2.1 b) = _
        rw [if_neg e, if_pos (by omega)]
      have h5 := g5 (b - (S.1 + 2)) (by omega)
      rw [kd, show zb g + b = H.size + 1 + (b - (S.1 + 2)) by rw [hR.1, hcn]; omega, h5]
      exact ⟨_, rfl, by exact Nat.le_trans (Nat.le_of_eq (arrV_size _ _ _)) (Nat.le_max_right _ _)⟩
  · have z1 : (zmulti S n1 n2).1 = S.1 + 1 + n1 := rfl
    have hz := hR.2.2.1.1 b (Or.inr b1)
    by_cases e : b = S.1 + 1
    · subst e
      have kd : (zmulti S n1 n2).2.1 (S.1 + 1) = (27, n1) := if_pos rfl
      refine ⟨⟨fun q => ?_, fun _ _ => ?_⟩, fun _ => ⟨?_, fun j => ?_⟩⟩
      · rw [kd] at q; exact absurd q (show ¬ (27 : Nat) < 20 by decide)
      · rw [kd, hzd _ (by omega), show zb g + (S.1 + 1) = H.size by rw [hR.1, hcn]; omega, g4]
        congr 2
        funext j
        show va_rf (if j < n1 then some (H.size + 1 + j) else none) = zr g (if S.1 + 1 = S.1 + 1 then (if 0 ≤ (j : Int) ∧ (j : Int) < (n1 : Int) then S.1 + 2 + (j : Int).toNat else 0) else S.2.2 (S.1 + 1) j)
        rw [if_pos rfl]
        by_cases hj : j < n1
        · have e8 : zad g (S.1 + 2 + j) = H.size + 1 + j := by rw [hzd _ (by omega), hR.1, hcn]; omega
          rw [if_pos hj, if_pos (by omega), zr_nz (by omega), Int.toNat_natCast]
          show Value.ref (H.size + 1 + j) = Value.ref (zad g (S.1 + 2 + j))
          rw [e8]
        · rw [if_neg hj, if_neg (by omega)]
          rfl
      · rw [kd]; show n1 < _; omega
      · rw [kd]
        trivial
    · have kd : (zmulti S n1 n2).2.1 b = (20, n2) := by
        show (if b = S.1 + 1 then _ else if S.1 + 1 < b ∧ b ≤ S.1 + 1 + n1 then (20, n2) else S.2.1 b) = _
        rw [if_neg e, if_pos (by omega)]
      refine ⟨⟨fun q => ?_, fun _ _ => ?_⟩, fun _ => ⟨?_, fun j => ?_⟩⟩
      · rw [kd] at q; exact absurd q (show ¬ (20 : Nat) < 20 by decide)
      · have h5 := g5 (b - (S.1 + 2)) (by omega)
        rw [kd, hzd b (by omega), show zb g + b = H.size + 1 + (b - (S.1 + 2)) by rw [hR.1, hcn]; omega, h5, hz.2.1]
        rfl
      · rw [kd]; show n2 < _; omega
      · rw [kd, hz.2.1]
        show inR 0
        decide
end ZJ9
