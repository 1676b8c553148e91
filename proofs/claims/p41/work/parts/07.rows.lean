/-! what a store does to the world -/
theorem zi_nz {v : Int} (h : 0 ≤ v ∧ v ≤ 1) : narrow .boolean (.int (zi v)) = .int (zi v) := by
  obtain rfl | rfl : v = 0 ∨ v = 1 := by omega
  · decide
  · decide
theorem zi_nI {v : Int} (h : 0 ≤ v) : zi v = nI v.toNat := by
  show Int32.ofInt v = Int32.ofNat v.toNat
  rw [← Int32.ofInt_eq_ofNat, Int.toNat_of_nonneg h]
theorem zi_nc {v : Int} (h : 0 ≤ v ∧ v < 65536) : narrow .char (.int (zi v)) = .int (zi v) := by
  rw [zi_nI h.1]
  exact (pk_charN (by omega)).1
theorem set_sz (c : Cell) (i : Nat) (v : Value) : (c.setSlot i v).slots.size = c.slots.size := by
  unfold Cell.setSlot
  simp
theorem zi_nb {v : Int} (h : -128 ≤ v ∧ v < 128) : narrow .byte (.int (zi v)) = .int (zi v) := by
  have h1 : ((zi v).toInt8.toInt32) = zi v := by
    rw [← Int32.toInt_inj, Int8.toInt_toInt32, Int32.toInt_toInt8, zi_toInt ⟨by omega, by omega⟩]
    have e : v.bmod (2 ^ 8) = v := Int.bmod_eq_of_le (by omega) (by omega)
    exact e
  show Value.int _ = _
  exact congrArg Value.int h1
theorem zi2b_rg (v : Int) : -128 ≤ zi2b v ∧ zi2b v < 128 := by
  unfold zi2b
  rw [Int8.toInt_toInt32]
  exact ⟨Int8.le_toInt _, Int8.toInt_lt _⟩
theorem zi_nb2 (v : Int) : narrow .byte (.int (zi v)) = .int (zi (zi2b v)) := by
  unfold zi2b
  rw [zi_asI]
  rfl
theorem zR_store {g : zG} {M : zM} {S : zS} {H H1 : Heap} {a : Nat} {i v : Int} (hR : zR g M S H) (h20 : 20 ≤ (S.2.1 a).1) (h28 : (S.2.1 a).1 < 28) (h3 : ztc (zat (S.2.1 a).1) < 3) (h0 : 0 ≤ i) (hi : inR i) (e2 : H1.size = H.size) (e3 : ∀ q, q ≠ zad g a → H1[q]? = H[q]?) (hv : zrg (zat (S.2.1 a).1) v)
    (e1 : H1[zad g a]? = some ((arrV (zc g (S.2.1 a).1) (S.2.1 a).2 (fun j => zv g (ztc (zat (S.2.1 a).1)) (M a j) (S.2.2 a j))).setSlot (zi i).toNatClampNeg (zv g (ztc (zat (S.2.1 a).1)) v 0))) : zR g (zs M a i v) S H1 := by
  refine hR.cell h28 e2 e3 (fun c1 hc1 => ⟨_, (hR.2.1 a).2 h20 h28, by rw [e1] at hc1; cases hc1; exact set_sz _ _ _⟩) (fun b hb => zs_ne _ _ _ hb) ⟨fun q => absurd q (by omega), fun _ _ => ?_⟩ (fun k _ => ?_)
  · rw [e1, arrV_store, zi_clamp hi]
    congr 2
    funext j
    by_cases hj : j = i.toNat
    · subst hj
      rw [zs_eq, Int.toNat_of_nonneg h0, up_eq]
      simp only [updV, if_true]
      generalize ztc (zat (S.2.1 a).1) = t at h3
      match t, h3 with
      | 0, _ => rfl
      | 1, _ => rfl
      | 2, _ => rfl
    · have hj2 : (j : Int) ≠ i := by omega
      rw [zs_eq, up_ne _ _ hj2]
      simp only [updV, if_neg hj]
  · have ht : zty (S.2.1 a).1 k = zat (S.2.1 a).1 := if_neg (by omega)
    rw [ht]
    by_cases hj : (k : Int) = i
    · rw [zs_eq, hj, up_eq]; exact hv
    · rw [zs_eq, up_ne _ _ hj]
      have := hR.2.2.2.1 a k h28
      rw [ht] at this
      exact this
/-! ROWS: instructions over whole numbers and the world -/
section ZRA
variable {p : Program} {l : Launch} {e : Env} {R : Room} {s : State} {m : MethodId} {args : Array Value} {below : List Frame} {meth : Method} {c : Code} {H : Heap} {locs : List Loc} {cells slots : Nat} {Q : State → Prop}
variable {cc : ByteArray} {pc : Nat} {ls : Array Slot} {rest : List Value}
theorem z_iadd (hx : p.tables.exec = Jvm.exec) (hb : c.code = cc) {a b : Int} (hdg : decode cc pc = .ok (.iadd, 1)) (k : W p l e R s m args below meth c H locs cells slots Q (F0 m (pc + 1) ls (.int (zi (a + b)) :: rest))) : W p l e R s m args below meth c H locs cells slots Q (F0 m pc ls (.int (zi b) :: .int (zi a) :: rest)) := lv_iadd hx hb hdg (by rw [zi_add]; exact k)
theorem z_isub (hx : p.tables.exec = Jvm.exec) (hb : c.code = cc) {a b : Int} (hdg : decode cc pc = .ok (.isub, 1)) (k : W p l e R s m args below meth c H locs cells slots Q (F0 m (pc + 1) ls (.int (zi (a - b)) :: rest))) : W p l e R s m args below meth c H locs cells slots Q (F0 m pc ls (.int (zi b) :: .int (zi a) :: rest)) := lv_isub hx hb hdg (by rw [zi_sub]; exact k)
theorem z_imul (hx : p.tables.exec = Jvm.exec) (hb : c.code = cc) {a b : Int} (hdg : decode cc pc = .ok (.imul, 1)) (k : W p l e R s m args below meth c H locs cells slots Q (F0 m (pc + 1) ls (.int (zi (a * b)) :: rest))) : W p l e R s m args below meth c H locs cells slots Q (F0 m pc ls (.int (zi b) :: .int (zi a) :: rest)) := lv_imul hx hb hdg (by rw [zi_mul]; exact k)
theorem z_iand (hx : p.tables.exec = Jvm.exec) (hb : c.code = cc) {a b : Int} (hdg : decode cc pc = .ok (.iand, 1)) (k : W p l e R s m args below meth c H locs cells slots Q (F0 m (pc + 1) ls (.int (zi (zand a b)) :: rest))) : W p l e R s m args below meth c H locs cells slots Q (F0 m pc ls (.int (zi b) :: .int (zi a) :: rest)) := lv_iand hx hb hdg (by unfold zand at k; rw [zi_asI] at k; exact k)
theorem z_ior (hx : p.tables.exec = Jvm.exec) (hb : c.code = cc) {a b : Int} (hdg : decode cc pc = .ok (.ior, 1)) (k : W p l e R s m args below meth c H locs cells slots Q (F0 m (pc + 1) ls (.int (zi (zor a b)) :: rest))) : W p l e R s m args below meth c H locs cells slots Q (F0 m pc ls (.int (zi b) :: .int (zi a) :: rest)) := lv_ior hx hb hdg (by unfold zor at k; rw [zi_asI] at k; exact k)
theorem z_ixor (hx : p.tables.exec = Jvm.exec) (hb : c.code = cc) {a b : Int} (hdg : decode cc pc = .ok (.ixor, 1)) (k : W p l e R s m args below meth c H locs cells slots Q (F0 m (pc + 1) ls (.int (zi (zxor a b)) :: rest))) : W p l e R s m args below meth c H locs cells slots Q (F0 m pc ls (.int (zi b) :: .int (zi a) :: rest)) := lv_ixor hx hb hdg (by unfold zxor at k; rw [zi_asI] at k; exact k)
theorem z_ishl (hx : p.tables.exec = Jvm.exec) (hb : c.code = cc) {a b : Int} (hdg : decode cc pc = .ok (.ishl, 1)) (k : W p l e R s m args below meth c H locs cells slots Q (F0 m (pc + 1) ls (.int (zi (zshl a b)) :: rest))) : W p l e R s m args below meth c H locs cells slots Q (F0 m pc ls (.int (zi b) :: .int (zi a) :: rest)) := lv_ishl hx hb hdg (by unfold zshl at k; rw [zi_asI] at k; exact k)
theorem z_ishr (hx : p.tables.exec = Jvm.exec) (hb : c.code = cc) {a b : Int} (hdg : decode cc pc = .ok (.ishr, 1)) (k : W p l e R s m args below meth c H locs cells slots Q (F0 m (pc + 1) ls (.int (zi (zshr a b)) :: rest))) : W p l e R s m args below meth c H locs cells slots Q (F0 m pc ls (.int (zi b) :: .int (zi a) :: rest)) := lv_ishr hx hb hdg (by unfold zshr at k; rw [zi_asI] at k; exact k)
theorem z_ineg (hx : p.tables.exec = Jvm.exec) (hb : c.code = cc) {a b : Int} (hdg : decode cc pc = .ok (.ineg, 1)) (k : W p l e R s m args below meth c H locs cells slots Q (F0 m (pc + 1) ls (.int (zi (-a)) :: rest))) : W p l e R s m args below meth c H locs cells slots Q (F0 m pc ls (.int (zi a) :: rest)) := lv_ineg hx hb hdg (by rw [zi_neg]; exact k)
theorem z_idiv (hx : p.tables.exec = Jvm.exec) (hb : c.code = cc) {a b : Int} (hdg : decode cc pc = .ok (.idiv, 1)) (ha : inR a) (hb2 : inR b) (h0 : 0 ≤ a) (h1 : 0 < b) (k : W p l e R s m args below meth c H locs cells slots Q (F0 m (pc + 1) ls (.int (zi (a / b)) :: rest))) : W p l e R s m args below meth c H locs cells slots Q (F0 m pc ls (.int (zi b) :: .int (zi a) :: rest)) := lv_idiv hx hb hdg (fun q => by rw [zi_0, zi_eq hb2 inR_0] at q; omega) (by rw [zi_div ha hb2 h0 h1]; exact k)
theorem z_irem (hx : p.tables.exec = Jvm.exec) (hb : c.code = cc) {a b : Int} (hdg : decode cc pc = .ok (.irem, 1)) (ha : inR a) (hb2 : inR b) (h0 : 0 ≤ a) (h1 : 0 < b) (k : W p l e R s m args below meth c H locs cells slots Q (F0 m (pc + 1) ls (.int (zi (a % b)) :: rest))) : W p l e R s m args below meth c H locs cells slots Q (F0 m pc ls (.int (zi b) :: .int (zi a) :: rest)) := lv_irem hx hb hdg (fun q => by rw [zi_0, zi_eq hb2 inR_0] at q; omega) (by rw [zi_rem ha hb2 h0 h1]; exact k)
theorem z_i2b (hx : p.tables.exec = Jvm.exec) (hb : c.code = cc) {a b : Int} (hdg : decode cc pc = .ok (.i2b, 1)) (k : W p l e R s m args below meth c H locs cells slots Q (F0 m (pc + 1) ls (.int (zi (zi2b a)) :: rest))) : W p l e R s m args below meth c H locs cells slots Q (F0 m pc ls (.int (zi a) :: rest)) := lv_i2b hx hb hdg (zi_asI _).symm k
theorem z_i2s (hx : p.tables.exec = Jvm.exec) (hb : c.code = cc) {a b : Int} (hdg : decode cc pc = .ok (.i2s, 1)) (k : W p l e R s m args below meth c H locs cells slots Q (F0 m (pc + 1) ls (.int (zi (zi2s a)) :: rest))) : W p l e R s m args below meth c H locs cells slots Q (F0 m pc ls (.int (zi a) :: rest)) := lv_i2s hx hb hdg (zi_asI _).symm k
theorem z_i2c (hx : p.tables.exec = Jvm.exec) (hb : c.code = cc) {a b : Int} (hdg : decode cc pc = .ok (.i2c, 1)) (k : W p l e R s m args below meth c H locs cells slots Q (F0 m (pc + 1) ls (.int (zi (zi2c a)) :: rest))) : W p l e R s m args below meth c H locs cells slots Q (F0 m pc ls (.int (zi a) :: rest)) := lv_i2c hx hb hdg (zi_asI _).symm k
theorem z_i2l (hx : p.tables.exec = Jvm.exec) (hb : c.code = cc) {a b : Int} (hdg : decode cc pc = .ok (.i2l, 1)) (ha : inR a) (k : W p l e R s m args below meth c H locs cells slots Q (F0 m (pc + 1) ls (.long (zl a) :: rest))) : W p l e R s m args below meth c H locs cells slots Q (F0 m pc ls (.int (zi a) :: rest)) := lv_i2l hx hb hdg (zi_l ha) k
theorem z_ladd (hx : p.tables.exec = Jvm.exec) (hb : c.code = cc) {a b : Int} (hdg : decode cc pc = .ok (.ladd, 1)) (k : W p l e R s m args below meth c H locs cells slots Q (F0 m (pc + 1) ls (.long (zl (zladd a b)) :: rest))) : W p l e R s m args below meth c H locs cells slots Q (F0 m pc ls (.long (zl b) :: .long (zl a) :: rest)) := lv_ladd hx hb hdg (by unfold zladd at k; rw [zl_asL] at k; exact k)
theorem z_land (hx : p.tables.exec = Jvm.exec) (hb : c.code = cc) {a b : Int} (hdg : decode cc pc = .ok (.land, 1)) (k : W p l e R s m args below meth c H locs cells slots Q (F0 m (pc + 1) ls (.long (zl (zland a b)) :: rest))) : W p l e R s m args below meth c H locs cells slots Q (F0 m pc ls (.long (zl b) :: .long (zl a) :: rest)) := lv_land hx hb hdg (by unfold zland at k; rw [zl_asL] at k; exact k)
theorem z_lor (hx : p.tables.exec = Jvm.exec) (hb : c.code = cc) {a b : Int} (hdg : decode cc pc = .ok (.lor, 1)) (k : W p l e R s m args below meth c H locs cells slots Q (F0 m (pc + 1) ls (.long (zl (zlor a b)) :: rest))) : W p l e R s m args below meth c H locs cells slots Q (F0 m pc ls (.long (zl b) :: .long (zl a) :: rest)) := lv_lor hx hb hdg (by unfold zlor at k; rw [zl_asL] at k; exact k)
theorem z_lxor (hx : p.tables.exec = Jvm.exec) (hb : c.code = cc) {a b : Int} (hdg : decode cc pc = .ok (.lxor, 1)) (k : W p l e R s m args below meth c H locs cells slots Q (F0 m (pc + 1) ls (.long (zl (zlxor a b)) :: rest))) : W p l e R s m args below meth c H locs cells slots Q (F0 m pc ls (.long (zl b) :: .long (zl a) :: rest)) := lv_lxor hx hb hdg (by unfold zlxor at k; rw [zl_asL] at k; exact k)
theorem z_lshl (hx : p.tables.exec = Jvm.exec) (hb : c.code = cc) {a b : Int} (hdg : decode cc pc = .ok (.lshl, 1)) (k : W p l e R s m args below meth c H locs cells slots Q (F0 m (pc + 1) ls (.long (zl (zlshl a b)) :: rest))) : W p l e R s m args below meth c H locs cells slots Q (F0 m pc ls (.int (zi b) :: .long (zl a) :: rest)) := lv_lshl hx hb hdg (zl_asL _).symm k
theorem z_lshr (hx : p.tables.exec = Jvm.exec) (hb : c.code = cc) {a b : Int} (hdg : decode cc pc = .ok (.lshr, 1)) (k : W p l e R s m args below meth c H locs cells slots Q (F0 m (pc + 1) ls (.long (zl (zlshr a b)) :: rest))) : W p l e R s m args below meth c H locs cells slots Q (F0 m pc ls (.int (zi b) :: .long (zl a) :: rest)) := lv_lshr hx hb hdg (zl_asL _).symm k
theorem z_lcmp (hx : p.tables.exec = Jvm.exec) (hb : c.code = cc) {a b : Int} (hdg : decode cc pc = .ok (.lcmp, 1)) (ha : inL a) (hb2 : inL b) (k : W p l e R s m args below meth c H locs cells slots Q (F0 m (pc + 1) ls (.int (zi (zcmp a b)) :: rest))) : W p l e R s m args below meth c H locs cells slots Q (F0 m pc ls (.long (zl b) :: .long (zl a) :: rest)) := W.lcmp hx hb hdg (by rw [zi_cmp ha hb2]; exact k)
theorem z_icmp_eq (hx : p.tables.exec = Jvm.exec) (hb : c.code = cc) {a b : Int} {off : Int} {tgt : Nat} (hdg : decode cc pc = .ok (.if_icmp .eq off, 3)) (ht : (pc : Int) + off = (tgt : Int)) (ha : inR a) (hb2 : inR b)
    (kt : a = b → W p l e R s m args below meth c H locs cells slots Q (F0 m tgt ls rest)) (kf : ¬ a = b → W p l e R s m args below meth c H locs cells slots Q (F0 m (pc + 3) ls rest)) : W p l e R s m args below meth c H locs cells slots Q (F0 m pc ls (.int (zi b) :: .int (zi a) :: rest)) := by
  refine lv_icmp_eq hx hb hdg ht (fun q => kt ?_) (fun q => kf ?_) <;> simp only [ge_iff_le, gt_iff_lt, ne_eq, zi_lt ha hb2, zi_le ha hb2, zi_lt hb2 ha, zi_le hb2 ha, zi_eq ha hb2] at q ⊢ <;> omega
theorem z_if_eq (hx : p.tables.exec = Jvm.exec) (hb : c.code = cc) {a : Int} {off : Int} {tgt : Nat} (hdg : decode cc pc = .ok (.ifCond .eq off, 3)) (ht : (pc : Int) + off = (tgt : Int)) (ha : inR a)
    (kt : a = 0 → W p l e R s m args below meth c H locs cells slots Q (F0 m tgt ls rest)) (kf : ¬ a = 0 → W p l e R s m args below meth c H locs cells slots Q (F0 m (pc + 3) ls rest)) : W p l e R s m args below meth c H locs cells slots Q (F0 m pc ls (.int (zi a) :: rest)) := by
  refine lv_if_eq hx hb hdg ht (fun q => kt ?_) (fun q => kf ?_) <;> simp only [zi_0, ge_iff_le, gt_iff_lt, ne_eq, zi_lt ha inR_0, zi_le ha inR_0, zi_lt inR_0 ha, zi_le inR_0 ha, zi_eq ha inR_0] at q ⊢ <;> omega
theorem z_icmp_ne (hx : p.tables.exec = Jvm.exec) (hb : c.code = cc) {a b : Int} {off : Int} {tgt : Nat} (hdg : decode cc pc = .ok (.if_icmp .ne off, 3)) (ht : (pc : Int) + off = (tgt : Int)) (ha : inR a) (hb2 : inR b)
    (kt : a ≠ b → W p l e R s m args below meth c H locs cells slots Q (F0 m tgt ls rest)) (kf : ¬ a ≠ b → W p l e R s m args below meth c H locs cells slots Q (F0 m (pc + 3) ls rest)) : W p l e R s m args below meth c H locs cells slots Q (F0 m pc ls (.int (zi b) :: .int (zi a) :: rest)) := by
  refine lv_icmp_ne hx hb hdg ht (fun q => kt ?_) (fun q => kf ?_) <;> simp only [ge_iff_le, gt_iff_lt, ne_eq, zi_lt ha hb2, zi_le ha hb2, zi_lt hb2 ha, zi_le hb2 ha, zi_eq ha hb2] at q ⊢ <;> omega
theorem z_if_ne (hx : p.tables.exec = Jvm.exec) (hb : c.code = cc) {a : Int} {off : Int} {tgt : Nat} (hdg : decode cc pc = .ok (.ifCond .ne off, 3)) (ht : (pc : Int) + off = (tgt : Int)) (ha : inR a)
    (kt : a ≠ 0 → W p l e R s m args below meth c H locs cells slots Q (F0 m tgt ls rest)) (kf : ¬ a ≠ 0 → W p l e R s m args below meth c H locs cells slots Q (F0 m (pc + 3) ls rest)) : W p l e R s m args below meth c H locs cells slots Q (F0 m pc ls (.int (zi a) :: rest)) := by
  refine lv_if_ne hx hb hdg ht (fun q => kt ?_) (fun q => kf ?_) <;> simp only [zi_0, ge_iff_le, gt_iff_lt, ne_eq, zi_lt ha inR_0, zi_le ha inR_0, zi_lt inR_0 ha, zi_le inR_0 ha, zi_eq ha inR_0] at q ⊢ <;> omega
theorem z_icmp_lt (hx : p.tables.exec = Jvm.exec) (hb : c.code = cc) {a b : Int} {off : Int} {tgt : Nat} (hdg : decode cc pc = .ok (.if_icmp .lt off, 3)) (ht : (pc : Int) + off = (tgt : Int)) (ha : inR a) (hb2 : inR b)
    (kt : a < b → W p l e R s m args below meth c H locs cells slots Q (F0 m tgt ls rest)) (kf : ¬ a < b → W p l e R s m args below meth c H locs cells slots Q (F0 m (pc + 3) ls rest)) : W p l e R s m args below meth c H locs cells slots Q (F0 m pc ls (.int (zi b) :: .int (zi a) :: rest)) := by
  refine lv_icmp_lt hx hb hdg ht (fun q => kt ?_) (fun q => kf ?_) <;> simp only [ge_iff_le, gt_iff_lt, ne_eq, zi_lt ha hb2, zi_le ha hb2, zi_lt hb2 ha, zi_le hb2 ha, zi_eq ha hb2] at q ⊢ <;> omega
theorem z_if_lt (hx : p.tables.exec = Jvm.exec) (hb : c.code = cc) {a : Int} {off : Int} {tgt : Nat} (hdg : decode cc pc = .ok (.ifCond .lt off, 3)) (ht : (pc : Int) + off = (tgt : Int)) (ha : inR a)
    (kt : a < 0 → W p l e R s m args below meth c H locs cells slots Q (F0 m tgt ls rest)) (kf : ¬ a < 0 → W p l e R s m args below meth c H locs cells slots Q (F0 m (pc + 3) ls rest)) : W p l e R s m args below meth c H locs cells slots Q (F0 m pc ls (.int (zi a) :: rest)) := by
  refine lv_if_lt hx hb hdg ht (fun q => kt ?_) (fun q => kf ?_) <;> simp only [zi_0, ge_iff_le, gt_iff_lt, ne_eq, zi_lt ha inR_0, zi_le ha inR_0, zi_lt inR_0 ha, zi_le inR_0 ha, zi_eq ha inR_0] at q ⊢ <;> omega
theorem z_icmp_ge (hx : p.tables.exec = Jvm.exec) (hb : c.code = cc) {a b : Int} {off : Int} {tgt : Nat} (hdg : decode cc pc = .ok (.if_icmp .ge off, 3)) (ht : (pc : Int) + off = (tgt : Int)) (ha : inR a) (hb2 : inR b)
    (kt : a ≥ b → W p l e R s m args below meth c H locs cells slots Q (F0 m tgt ls rest)) (kf : ¬ a ≥ b → W p l e R s m args below meth c H locs cells slots Q (F0 m (pc + 3) ls rest)) : W p l e R s m args below meth c H locs cells slots Q (F0 m pc ls (.int (zi b) :: .int (zi a) :: rest)) := by
  refine lv_icmp_ge hx hb hdg ht (fun q => kt ?_) (fun q => kf ?_) <;> simp only [ge_iff_le, gt_iff_lt, ne_eq, zi_lt ha hb2, zi_le ha hb2, zi_lt hb2 ha, zi_le hb2 ha, zi_eq ha hb2] at q ⊢ <;> omega
theorem z_if_ge (hx : p.tables.exec = Jvm.exec) (hb : c.code = cc) {a : Int} {off : Int} {tgt : Nat} (hdg : decode cc pc = .ok (.ifCond .ge off, 3)) (ht : (pc : Int) + off = (tgt : Int)) (ha : inR a)
    (kt : a ≥ 0 → W p l e R s m args below meth c H locs cells slots Q (F0 m tgt ls rest)) (kf : ¬ a ≥ 0 → W p l e R s m args below meth c H locs cells slots Q (F0 m (pc + 3) ls rest)) : W p l e R s m args below meth c H locs cells slots Q (F0 m pc ls (.int (zi a) :: rest)) := by
  refine lv_if_ge hx hb hdg ht (fun q => kt ?_) (fun q => kf ?_) <;> simp only [zi_0, ge_iff_le, gt_iff_lt, ne_eq, zi_lt ha inR_0, zi_le ha inR_0, zi_lt inR_0 ha, zi_le inR_0 ha, zi_eq ha inR_0] at q ⊢ <;> omega
theorem z_icmp_gt (hx : p.tables.exec = Jvm.exec) (hb : c.code = cc) {a b : Int} {off : Int} {tgt : Nat} (hdg : decode cc pc = .ok (.if_icmp .gt off, 3)) (ht : (pc : Int) + off = (tgt : Int)) (ha : inR a) (hb2 : inR b)
    (kt : a > b → W p l e R s m args below meth c H locs cells slots Q (F0 m tgt ls rest)) (kf : ¬ a > b → W p l e R s m args below meth c H locs cells slots Q (F0 m (pc + 3) ls rest)) : W p l e R s m args below meth c H locs cells slots Q (F0 m pc ls (.int (zi b) :: .int (zi a) :: rest)) := by
  refine lv_icmp_gt hx hb hdg ht (fun q => kt ?_) (fun q => kf ?_) <;> simp only [ge_iff_le, gt_iff_lt, ne_eq, zi_lt ha hb2, zi_le ha hb2, zi_lt hb2 ha, zi_le hb2 ha, zi_eq ha hb2] at q ⊢ <;> omega
theorem z_if_gt (hx : p.tables.exec = Jvm.exec) (hb : c.code = cc) {a : Int} {off : Int} {tgt : Nat} (hdg : decode cc pc = .ok (.ifCond .gt off, 3)) (ht : (pc : Int) + off = (tgt : Int)) (ha : inR a)
    (kt : a > 0 → W p l e R s m args below meth c H locs cells slots Q (F0 m tgt ls rest)) (kf : ¬ a > 0 → W p l e R s m args below meth c H locs cells slots Q (F0 m (pc + 3) ls rest)) : W p l e R s m args below meth c H locs cells slots Q (F0 m pc ls (.int (zi a) :: rest)) := by
  refine lv_if_gt hx hb hdg ht (fun q => kt ?_) (fun q => kf ?_) <;> simp only [zi_0, ge_iff_le, gt_iff_lt, ne_eq, zi_lt ha inR_0, zi_le ha inR_0, zi_lt inR_0 ha, zi_le inR_0 ha, zi_eq ha inR_0] at q ⊢ <;> omega
theorem z_icmp_le (hx : p.tables.exec = Jvm.exec) (hb : c.code = cc) {a b : Int} {off : Int} {tgt : Nat} (hdg : decode cc pc = .ok (.if_icmp .le off, 3)) (ht : (pc : Int) + off = (tgt : Int)) (ha : inR a) (hb2 : inR b)
    (kt : a ≤ b → W p l e R s m args below meth c H locs cells slots Q (F0 m tgt ls rest)) (kf : ¬ a ≤ b → W p l e R s m args below meth c H locs cells slots Q (F0 m (pc + 3) ls rest)) : W p l e R s m args below meth c H locs cells slots Q (F0 m pc ls (.int (zi b) :: .int (zi a) :: rest)) := by
  refine lv_icmp_le hx hb hdg ht (fun q => kt ?_) (fun q => kf ?_) <;> simp only [ge_iff_le, gt_iff_lt, ne_eq, zi_lt ha hb2, zi_le ha hb2, zi_lt hb2 ha, zi_le hb2 ha, zi_eq ha hb2] at q ⊢ <;> omega
theorem z_if_le (hx : p.tables.exec = Jvm.exec) (hb : c.code = cc) {a : Int} {off : Int} {tgt : Nat} (hdg : decode cc pc = .ok (.ifCond .le off, 3)) (ht : (pc : Int) + off = (tgt : Int)) (ha : inR a)
    (kt : a ≤ 0 → W p l e R s m args below meth c H locs cells slots Q (F0 m tgt ls rest)) (kf : ¬ a ≤ 0 → W p l e R s m args below meth c H locs cells slots Q (F0 m (pc + 3) ls rest)) : W p l e R s m args below meth c H locs cells slots Q (F0 m pc ls (.int (zi a) :: rest)) := by
  refine lv_if_le hx hb hdg ht (fun q => kt ?_) (fun q => kf ?_) <;> simp only [zi_0, ge_iff_le, gt_iff_lt, ne_eq, zi_lt ha inR_0, zi_le ha inR_0, zi_lt inR_0 ha, zi_le inR_0 ha, zi_eq ha inR_0] at q ⊢ <;> omega
end ZRA
section ZRH
variable {p : Program} {l : Launch} {e : Env} {R : Room} {s : State} {m : MethodId} {args : Array Value} {below : List Frame} {meth : Method} {c : Code} {H : Heap} {locs : List Loc} {cells slots : Nat} {Q : State → Prop}
variable {cc : ByteArray} {pc : Nat} {ls : Array Slot} {rest : List Value} {g : zG} {M : zM} {S : zS} {H0 : Heap}
theorem z_vi {a : Nat} {n : Nat} {i : Int} {f : Nat → Value} {cA : ClassId} (hi : inR i) (h0 : 0 ≤ i) (h1 : i < n) : ¬ (zi i < 0 ∨ (arrV cA n f).slots.size ≤ (zi i).toNatClampNeg) := by
  rw [arrV_size, zi_clamp hi, zi_0, zi_lt hi inR_0]
  omega
theorem z_vr {n : Nat} {i : Int} {f : Nat → Value} {cA : ClassId} (hi : inR i) (h0 : 0 ≤ i) (h1 : i < n) : (arrV cA n f).slots[(zi i).toNatClampNeg]? = some (f i.toNat) := by
  rw [zi_clamp hi]
  exact arrV_read _ _ (by omega)
/-- the field k of the object a -/
theorem z_get (hx : p.tables.exec = Jvm.exec) (hb : c.code = cc) {own ref : String} {index ci : Nat} {r : vw_C} {Ts : List Cond} (hts : ∀ w ∈ Ts, w.before args s = true) (hin : ∀ w ∈ u_ws r.1 r.2.1 r.2.2, w ∈ Ts) (hown : s.vm.findClass own = some m.cls) (hT : zT g s) (hR : zR g M S H) {a : Nat} (hk : (S.2.1 a).1 = ci) (hc : vwCl[ci]? = some r) (h20 : ci < 20) (k : Nat) (hkN : k < r.2.2) (hlink : (Cond.fieldLink own index ref (r.2.1 k).2.1 (r.2.1 k).2.2.1).before args s = true) (hsame : (r.2.1 k).1 = ref) {v : Value} (hv : zv g (ztc (zft ci k)) (M a k) (S.2.2 a k) = v) (hdg : decode cc pc = .ok (.getfield index, 3))
    (kk : W p l e R s m args below meth c H locs cells slots Q (F0 m (pc + 3) ls (v :: rest))) : W p l e R s m args below meth c H locs cells slots Q (F0 m pc ls (.ref (zad g a) :: rest)) := by
  obtain ⟨r', h1, cell, q1, q2, q3, q4⟩ := (hR.2.1 a).1 (by rw [hk]; exact h20)
  rw [hk] at h1 q2 q4
  have hr : r' = r := Option.some.inj (h1.symm.trans hc)
  subst hr
  obtain ⟨hS, hfc, kC, hkC, hkind⟩ := hT.1.1 ci _ hc
  obtain ⟨cf, kf, fi, f, hi, hsl⟩ := hS k hkN
  refine W.getf hx hb hown hlink (by rw [← hsame]; exact hi) (u_facts hfc hkC (u_lays hts hin hkN) hi).1 q1 (by rw [q3]; exact fun h => by cases h) (v := v) ?_ rfl rfl hdg kk
  rw [hsl, q4 k hkN, ← hv]
theorem z_getN (hx : p.tables.exec = Jvm.exec) (hb : c.code = cc) {own ref host : String} {index ci : Nat} {r : vw_C} {Ts : List Cond} (hts : ∀ w ∈ Ts, w.before args s = true) (hin : ∀ w ∈ u_ws r.1 r.2.1 r.2.2, w ∈ Ts) (hown : s.vm.findClass own = some m.cls) (hT : zT g s) (hR : zR g M S H) {a : Nat} (hk : (S.2.1 a).1 = ci) (hc : vwCl[ci]? = some r) (h20 : ci < 20) (k : Nat) (hkN : k < r.2.2) (hlink : (Cond.fieldLinkNest own index ref (r.2.1 k).2.1 (r.2.1 k).2.2.1 host).before args s = true) (hsame : (r.2.1 k).1 = ref) {v : Value} (hv : zv g (ztc (zft ci k)) (M a k) (S.2.2 a k) = v) (hdg : decode cc pc = .ok (.getfield index, 3))
    (kk : W p l e R s m args below meth c H locs cells slots Q (F0 m (pc + 3) ls (v :: rest))) : W p l e R s m args below meth c H locs cells slots Q (F0 m pc ls (.ref (zad g a) :: rest)) := by
  obtain ⟨r', h1, cell, q1, q2, q3, q4⟩ := (hR.2.1 a).1 (by rw [hk]; exact h20)
  rw [hk] at h1 q2 q4
  have hr : r' = r := Option.some.inj (h1.symm.trans hc)
  subst hr
  obtain ⟨hS, hfc, kC, hkC, hkind⟩ := hT.1.1 ci _ hc
  obtain ⟨cf, kf, fi, f, hi, hsl⟩ := hS k hkN
  refine va_Wgetf hx hb hown hlink (by rw [← hsame]; exact hi) (u_facts hfc hkC (u_lays hts hin hkN) hi).1 q1 (by rw [q3]; exact fun h => by cases h) (v := v) ?_ rfl rfl hdg kk
  rw [hsl, q4 k hkN, ← hv]
theorem z_iald (hx : p.tables.exec = Jvm.exec) (hb : c.code = cc) (hT : zT g s) (hR : zR g M S H) {a : Nat} {i : Int} (hi : inR i) (hk : (S.2.1 a).1 = 20) (h0 : 0 ≤ i) (h1 : i < ((S.2.1 a).2 : Int)) (hdg : decode cc pc = .ok (.iaload, 1))
    (kk : W p l e R s m args below meth c H locs cells slots Q (F0 m (pc + 1) ls (.int (zi (M a i)) :: rest))) : W p l e R s m args below meth c H locs cells slots Q (F0 m pc ls (.int (zi i) :: .ref (zad g a) :: rest)) := by
  have hc := (hR.2.1 a).2 (by rw [hk]; decide) (by rw [hk]; decide)
  rw [hk] at hc
  refine W.iald (v := .int (zi (M a i))) hx hb hc ((hT.2 20 (by decide) (by decide)).1 _ _) (fun q => by cases q) (z_vi (a := a) hi h0 h1) ?_ rfl rfl hdg kk
  rw [z_vr hi h0 h1]
  show some (zv g 0 (M a (i.toNat : Int)) _) = _
  rw [Int.toNat_of_nonneg h0]
  rfl
theorem z_zald (hx : p.tables.exec = Jvm.exec) (hb : c.code = cc) (hT : zT g s) (hR : zR g M S H) {a : Nat} {i : Int} (hi : inR i) (hk : (S.2.1 a).1 = 22) (h0 : 0 ≤ i) (h1 : i < ((S.2.1 a).2 : Int)) (hdg : decode cc pc = .ok (.baload, 1))
    (kk : W p l e R s m args below meth c H locs cells slots Q (F0 m (pc + 1) ls (.int (zi (M a i)) :: rest))) : W p l e R s m args below meth c H locs cells slots Q (F0 m pc ls (.int (zi i) :: .ref (zad g a) :: rest)) := by
  have hc := (hR.2.1 a).2 (by rw [hk]; decide) (by rw [hk]; decide)
  rw [hk] at hc
  refine W.zald (v := .int (zi (M a i))) hx hb hc ((hT.2 22 (by decide) (by decide)).1 _ _) (fun q => by cases q) (z_vi (a := a) hi h0 h1) ?_ rfl rfl hdg kk
  rw [z_vr hi h0 h1]
  show some (zv g 0 (M a (i.toNat : Int)) _) = _
  rw [Int.toNat_of_nonneg h0]
  rfl
theorem z_cald (hx : p.tables.exec = Jvm.exec) (hb : c.code = cc) (hT : zT g s) (hR : zR g M S H) {a : Nat} {i : Int} (hi : inR i) (hk : (S.2.1 a).1 = 23) (h0 : 0 ≤ i) (h1 : i < ((S.2.1 a).2 : Int)) (hdg : decode cc pc = .ok (.caload, 1))
    (kk : W p l e R s m args below meth c H locs cells slots Q (F0 m (pc + 1) ls (.int (zi (M a i)) :: rest))) : W p l e R s m args below meth c H locs cells slots Q (F0 m pc ls (.int (zi i) :: .ref (zad g a) :: rest)) := by
  have hc := (hR.2.1 a).2 (by rw [hk]; decide) (by rw [hk]; decide)
  rw [hk] at hc
  refine W.cald (v := .int (zi (M a i))) hx hb hc ((hT.2 23 (by decide) (by decide)).1 _ _) (fun q => by cases q) (z_vi (a := a) hi h0 h1) ?_ rfl rfl hdg kk
  rw [z_vr hi h0 h1]
  show some (zv g 0 (M a (i.toNat : Int)) _) = _
  rw [Int.toNat_of_nonneg h0]
  rfl
theorem z_lald (hx : p.tables.exec = Jvm.exec) (hb : c.code = cc) (hT : zT g s) (hR : zR g M S H) {a : Nat} {i : Int} (hi : inR i) (hk : (S.2.1 a).1 = 21) (h0 : 0 ≤ i) (h1 : i < ((S.2.1 a).2 : Int)) (hdg : decode cc pc = .ok (.laload, 1))
    (kk : W p l e R s m args below meth c H locs cells slots Q (F0 m (pc + 1) ls (.long (zl (M a i)) :: rest))) : W p l e R s m args below meth c H locs cells slots Q (F0 m pc ls (.int (zi i) :: .ref (zad g a) :: rest)) := by
  have hc := (hR.2.1 a).2 (by rw [hk]; decide) (by rw [hk]; decide)
  rw [hk] at hc
  refine W.lald (v := .long (zl (M a i))) hx hb hc ((hT.2 21 (by decide) (by decide)).1 _ _) (fun q => by cases q) (z_vi (a := a) hi h0 h1) ?_ rfl rfl hdg kk
  rw [z_vr hi h0 h1]
  show some (zv g 1 (M a (i.toNat : Int)) _) = _
  rw [Int.toNat_of_nonneg h0]
  rfl
theorem z_bald (hx : p.tables.exec = Jvm.exec) (hb : c.code = cc) (hT : zT g s) (hR : zR g M S H) {a : Nat} {i : Int} (hi : inR i) (hk : (S.2.1 a).1 = 24) (h0 : 0 ≤ i) (h1 : i < ((S.2.1 a).2 : Int)) (hdg : decode cc pc = .ok (.baload, 1))
    (kk : W p l e R s m args below meth c H locs cells slots Q (F0 m (pc + 1) ls (.int (zi (M a i)) :: rest))) : W p l e R s m args below meth c H locs cells slots Q (F0 m pc ls (.int (zi i) :: .ref (zad g a) :: rest)) := by
  have hc := (hR.2.1 a).2 (by rw [hk]; decide) (by rw [hk]; decide)
  rw [hk] at hc
  refine W.bald (v := .int (zi (M a i))) hx hb hc ((hT.2 24 (by decide) (by decide)).1 _ _) (fun q => by cases q) (z_vi (a := a) hi h0 h1) ?_ rfl rfl hdg kk
  rw [z_vr hi h0 h1]
  show some (zv g 0 (M a (i.toNat : Int)) _) = _
  rw [Int.toNat_of_nonneg h0]
  rfl
theorem z_aald (hx : p.tables.exec = Jvm.exec) (hb : c.code = cc) (hT : zT g s) (hR : zR g M S H) {a k : Nat} {i : Int} {v : Value} (hi : inR i) (hk : (S.2.1 a).1 = k) (h25 : 25 ≤ k) (h28 : k < 28) (h0 : 0 ≤ i) (h1 : i < ((S.2.1 a).2 : Int)) (hv : zr g (S.2.2 a i) = v) (hdg : decode cc pc = .ok (.aaload, 1))
    (kk : W p l e R s m args below meth c H locs cells slots Q (F0 m (pc + 1) ls (v :: rest))) : W p l e R s m args below meth c H locs cells slots Q (F0 m pc ls (.int (zi i) :: .ref (zad g a) :: rest)) := by
  have hc := (hR.2.1 a).2 (by omega) (by omega)
  rw [hk] at hc
  have ht : (zat k).isReference = true ∧ ztc (zat k) = 3 := by
    obtain rfl | rfl | rfl : k = 25 ∨ k = 26 ∨ k = 27 := by omega
    · exact ⟨rfl, rfl⟩
    · exact ⟨rfl, rfl⟩
    · exact ⟨rfl, rfl⟩
  refine W.aald (v := v) hx hb hc ((hT.2 k (by omega) (by omega)).1 _ _) ht.1 (fun q => by cases q) (z_vi (a := a) hi h0 h1) ?_ rfl rfl hdg kk
  rw [z_vr hi h0 h1]
  show some (zv g (ztc (zat k)) (M a (i.toNat : Int)) (S.2.2 a (i.toNat : Int))) = _
  rw [ht.2, Int.toNat_of_nonneg h0, ← hv]
  rfl
theorem z_alen (hx : p.tables.exec = Jvm.exec) (hb : c.code = cc) (hT : zT g s) (hR : zR g M S H) {a k : Nat} (hk : (S.2.1 a).1 = k) (h20 : 20 ≤ k) (h28 : k < 28) {n : Int} (hn : ((S.2.1 a).2 : Int) = n) (hdg : decode cc pc = .ok (.arraylength, 1))
    (kk : W p l e R s m args below meth c H locs cells slots Q (F0 m (pc + 1) ls (.int (zi n) :: rest))) : W p l e R s m args below meth c H locs cells slots Q (F0 m pc ls (.ref (zad g a) :: rest)) := by
  have hc := (hR.2.1 a).2 (by omega) (by omega)
  rw [hk] at hc
  refine W.alen (n := zi n) hx hb hc ((hT.2 k (by omega) (by omega)).1 _ _) ?_ rfl rfl hdg kk
  rw [arrV_size, ← hn]
  exact (Int32.ofInt_eq_ofNat).symm
theorem z_iast (hx : p.tables.exec = Jvm.exec) (hb : c.code = cc) (hT : zT g s) (hR : zR g M S H) (hS : va_S (zA g) H0 H locs) {a : Nat} {i v : Int} (hi : inR i) (hv : inR v) (hk : (S.2.1 a).1 = 20) (h0 : 0 ≤ i) (h1 : i < ((S.2.1 a).2 : Int)) (hdg : decode cc pc = .ok (.iastore, 1))
    (kk : ∀ (H1 : Heap) (locs1 : List Loc), zR g (zs M a i v) S H1 → va_S (zA g) H0 H1 locs1 → W p l e R s m args below meth c H1 locs1 cells slots Q (F0 m (pc + 1) ls rest)) : W p l e R s m args below meth c H locs cells slots Q (F0 m pc ls (.int (zi v) :: .int (zi i) :: .ref (zad g a) :: rest)) := by
  have hc := (hR.2.1 a).2 (by rw [hk]; decide) (by rw [hk]; decide)
  rw [hk] at hc
  refine W.iast hx hb hc ((hT.2 20 (by decide) (by decide)).1 _ _) (fun q => by cases q) (z_vi (a := a) hi h0 h1) rfl rfl hdg fun H1 e1 e2 e3 => ?_
  exact kk H1 _ (zR_store hR (by rw [hk]; decide) (by rw [hk]; decide) (by rw [hk]; decide) h0 hi e2 e3 (by rw [hk]; exact hv) (by rw [hk]; exact e1)) (zA_put hS e2 e3 ((fun q => ⟨q.1, q.2.2⟩) (hR.pos (by rw [hk]; decide))))
theorem z_last (hx : p.tables.exec = Jvm.exec) (hb : c.code = cc) (hT : zT g s) (hR : zR g M S H) (hS : va_S (zA g) H0 H locs) {a : Nat} {i v : Int} (hi : inR i) (hv : inL v) (hk : (S.2.1 a).1 = 21) (h0 : 0 ≤ i) (h1 : i < ((S.2.1 a).2 : Int)) (hdg : decode cc pc = .ok (.lastore, 1))
    (kk : ∀ (H1 : Heap) (locs1 : List Loc), zR g (zs M a i v) S H1 → va_S (zA g) H0 H1 locs1 → W p l e R s m args below meth c H1 locs1 cells slots Q (F0 m (pc + 1) ls rest)) : W p l e R s m args below meth c H locs cells slots Q (F0 m pc ls (.long (zl v) :: .int (zi i) :: .ref (zad g a) :: rest)) := by
  have hc := (hR.2.1 a).2 (by rw [hk]; decide) (by rw [hk]; decide)
  rw [hk] at hc
  refine W.last hx hb hc ((hT.2 21 (by decide) (by decide)).1 _ _) (fun q => by cases q) (z_vi (a := a) hi h0 h1) rfl rfl hdg fun H1 e1 e2 e3 => ?_
  exact kk H1 _ (zR_store hR (by rw [hk]; decide) (by rw [hk]; decide) (by rw [hk]; decide) h0 hi e2 e3 (by rw [hk]; exact hv) (by rw [hk]; exact e1)) (zA_put hS e2 e3 ((fun q => ⟨q.1, q.2.2⟩) (hR.pos (by rw [hk]; decide))))
theorem z_zast (hx : p.tables.exec = Jvm.exec) (hb : c.code = cc) (hT : zT g s) (hR : zR g M S H) (hS : va_S (zA g) H0 H locs) {a : Nat} {i v : Int} (hi : inR i) (hv : 0 ≤ v ∧ v ≤ 1) (hk : (S.2.1 a).1 = 22) (h0 : 0 ≤ i) (h1 : i < ((S.2.1 a).2 : Int)) (hdg : decode cc pc = .ok (.bastore, 1))
    (kk : ∀ (H1 : Heap) (locs1 : List Loc), zR g (zs M a i v) S H1 → va_S (zA g) H0 H1 locs1 → W p l e R s m args below meth c H1 locs1 cells slots Q (F0 m (pc + 1) ls rest)) : W p l e R s m args below meth c H locs cells slots Q (F0 m pc ls (.int (zi v) :: .int (zi i) :: .ref (zad g a) :: rest)) := by
  have hc := (hR.2.1 a).2 (by rw [hk]; decide) (by rw [hk]; decide)
  rw [hk] at hc
  refine W.zast hx hb hc ((hT.2 22 (by decide) (by decide)).1 _ _) (fun q => by cases q) (z_vi (a := a) hi h0 h1) rfl rfl hdg fun H1 e1 e2 e3 => ?_
  rw [zi_nz hv] at e1
  exact kk H1 _ (zR_store hR (by rw [hk]; decide) (by rw [hk]; decide) (by rw [hk]; decide) h0 hi e2 e3 (by rw [hk]; exact hv) (by rw [hk]; exact e1)) (zA_put hS e2 e3 ((fun q => ⟨q.1, q.2.2⟩) (hR.pos (by rw [hk]; decide))))
theorem z_bast (hx : p.tables.exec = Jvm.exec) (hb : c.code = cc) (hT : zT g s) (hR : zR g M S H) (hS : va_S (zA g) H0 H locs) {a : Nat} {i v : Int} (hi : inR i) (hk : (S.2.1 a).1 = 24) (h0 : 0 ≤ i) (h1 : i < ((S.2.1 a).2 : Int)) (hdg : decode cc pc = .ok (.bastore, 1))
    (kk : ∀ (H1 : Heap) (locs1 : List Loc), zR g (zs M a i (zi2b v)) S H1 → va_S (zA g) H0 H1 locs1 → W p l e R s m args below meth c H1 locs1 cells slots Q (F0 m (pc + 1) ls rest)) : W p l e R s m args below meth c H locs cells slots Q (F0 m pc ls (.int (zi v) :: .int (zi i) :: .ref (zad g a) :: rest)) := by
  have hc := (hR.2.1 a).2 (by rw [hk]; decide) (by rw [hk]; decide)
  rw [hk] at hc
  refine W.bast hx hb hc ((hT.2 24 (by decide) (by decide)).1 _ _) (fun q => by cases q) (z_vi (a := a) hi h0 h1) rfl rfl hdg fun H1 e1 e2 e3 => ?_
  rw [zi_nb2 v] at e1
  exact kk H1 _ (zR_store hR (by rw [hk]; decide) (by rw [hk]; decide) (by rw [hk]; decide) h0 hi e2 e3 (by rw [hk]; exact zi2b_rg v) (by rw [hk]; exact e1)) (zA_put hS e2 e3 ((fun q => ⟨q.1, q.2.2⟩) (hR.pos (by rw [hk]; decide))))
theorem z_cast (hx : p.tables.exec = Jvm.exec) (hb : c.code = cc) (hT : zT g s) (hR : zR g M S H) (hS : va_S (zA g) H0 H locs) {a : Nat} {i v : Int} (hi : inR i) (hv : 0 ≤ v ∧ v < 65536) (hk : (S.2.1 a).1 = 23) (h0 : 0 ≤ i) (h1 : i < ((S.2.1 a).2 : Int)) (hdg : decode cc pc = .ok (.castore, 1))
    (kk : ∀ (H1 : Heap) (locs1 : List Loc), zR g (zs M a i v) S H1 → va_S (zA g) H0 H1 locs1 → W p l e R s m args below meth c H1 locs1 cells slots Q (F0 m (pc + 1) ls rest)) : W p l e R s m args below meth c H locs cells slots Q (F0 m pc ls (.int (zi v) :: .int (zi i) :: .ref (zad g a) :: rest)) := by
  have hc := (hR.2.1 a).2 (by rw [hk]; decide) (by rw [hk]; decide)
  rw [hk] at hc
  refine W.cast hx hb hc ((hT.2 23 (by decide) (by decide)).1 _ _) (fun q => by cases q) (z_vi (a := a) hi h0 h1) rfl rfl hdg fun H1 e1 e2 e3 => ?_
  rw [zi_nc hv] at e1
  exact kk H1 _ (zR_store hR (by rw [hk]; decide) (by rw [hk]; decide) (by rw [hk]; decide) h0 hi e2 e3 (by rw [hk]; exact hv) (by rw [hk]; exact e1)) (zA_put hS e2 e3 ((fun q => ⟨q.1, q.2.2⟩) (hR.pos (by rw [hk]; decide))))
end ZRH
