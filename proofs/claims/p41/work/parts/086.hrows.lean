/-! HEAP ROWS -/
/-- a field by its place in the own class's pool: class kind ci, slot k -/
def zfin (ci k : Nat) : Bool := match vwCl[ci]? with
  | some r => (r.2.1 k).2.2.2
  | none => false
def zdecl (ci k : Nat) : String := match vwCl[ci]? with
  | some r => (r.2.1 k).1
  | none => ""
theorem zR.upd {g : zG} {M M1 : zM} {S S1 : zS} {H H1 : Heap} (h : zR g M S H) {a : Nat} (hk0 : (S.2.1 a).1 < 28) (hz : H1.size = H.size) (ho : ∀ q, q ≠ zad g a → H1[q]? = H[q]?) (hs : ∀ c1, H1[zad g a]? = some c1 → ∃ c0 : Cell, H[zad g a]? = some c0 ∧ c1.slots.size = c0.slots.size) (hM : ∀ b, b ≠ a → M1 b = M b) (hSr : ∀ b, b ≠ a → S1.2.2 b = S.2.2 b) (h1 : S1.1 = S.1) (h2 : S1.2.1 = S.2.1) (ha : zAt g M1 S1 a H1) (hv : ∀ k : Nat, zrg (zty (S.2.1 a).1 k) (M1 a k)) : zR g M1 S1 H1 := by
  have hpos := h.pos hk0
  refine ⟨by rw [hz, h1]; exact h.1, fun b => ?_, ⟨fun b hb => ?_, by rw [h2]; exact h.2.2.1.2.1, h.2.2.1.2.2.1.kept h1 h2 ho hs hz, by rw [h1]; exact h.2.2.1.2.2.2⟩, fun b k hk => ?_, fun b hb => by rw [h2] at hb ⊢; exact h.2.2.2.2 b hb⟩
  · by_cases e : b = a
    · subst e; exact ha
    · exact (h.2.1 b).kept (ho _ (zad_ne hpos.1 hpos.2.2 e)) (by rw [h2]) (hM b e) (hSr b e)
  · rw [h1] at hb
    have e : b ≠ a := fun e => by subst e; omega
    obtain ⟨x1, x2, x3⟩ := h.2.2.1.1 b hb
    exact ⟨by rw [h2]; exact x1, by rw [hM b e]; exact x2, by rw [hSr b e]; exact x3⟩
  · rw [h2] at hk ⊢
    by_cases e : b = a
    · subst e; exact hv k
    · rw [hM b e]; exact h.2.2.2.1 b k hk
theorem zr_nz {g : zG} {q : Nat} (h : q ≠ 0) : zr g q = .ref (zad g q) := if_neg h
theorem zrg_int {ty : FieldType} {z : Int} (ht : ztc ty = 0) (h : zrg ty z) : inR z := by
  cases ty <;> first | (cases ht; done) | (unfold zrg at h; exact h) | (unfold zrg at h; simp only [] at h; omega) | (simp only [ztc] at ht; omega)
theorem zfits {ty : FieldType} {z : Int} (ht : ty = .int ∨ ty = .boolean ∨ ty = .byte) (h : zrg ty z) : narrow ty (.int (zi z)) = .int (zi z) ∧ fits ty (.int (zi z)) = true := by
  rcases ht with rfl | rfl | rfl
  · exact ⟨rfl, rfl⟩
  · have h2 : 0 ≤ z ∧ z ≤ 1 := h
    refine ⟨zi_nz h2, ?_⟩
    obtain rfl | rfl : z = 0 ∨ z = 1 := by omega
    · decide
    · decide
  · have h2 : -128 ≤ z ∧ z < 128 := h
    refine ⟨zi_nb h2, ?_⟩
    have h3 : (-128 : Int32) ≤ zi z := (zi_le (a := -128) (by decide) (by omega)).mpr h2.1
    have h4 : zi z ≤ 127 := (zi_le (b := 127) (by omega) (by decide)).mpr (by omega)
    show (decide ((-128 : Int32) ≤ zi z) && decide (zi z ≤ 127)) = true
    rw [decide_eq_true h3, decide_eq_true h4]
    rfl
theorem zfitq (g : zG) (q : Nat) {ty : FieldType} (ht : ztc ty = 3) : narrow ty (zr g q) = zr g q ∧ fits ty (zr g q) = true := by
  unfold zr
  cases ty <;> first | (simp only [ztc] at ht; omega) | (split <;> exact ⟨rfl, rfl⟩)
section ZHR
variable {p : Program} {l : Launch} {e : Env} {R : Room} {s : State} {m : MethodId} {args : Array Value} {below : List Frame} {meth : Method} {c : Code} {H : Heap} {locs : List Loc} {cells slots : Nat} {Q : State → Prop}
variable {cc : ByteArray} {pc : Nat} {ls : Array Slot} {rest : List Value} {g : zG} {M M1 : zM} {S S1 : zS} {H0 : Heap}
theorem z_getA (hx : p.tables.exec = Jvm.exec) (hb : c.code = cc) {own : String} {ix ci k : Nat} (hts : ∀ w ∈ zTs, w.before args s = true) (hNw : ∀ w ∈ zTn, va_Nw w s) (hown : s.vm.findClass own = some m.cls) (hT : zT g s) (hR : zR g M S H) {a : Nat} (hf : zFd own ix ci k) (hk : (S.2.1 a).1 = ci) {v : Value} (hv : zv g (ztc (zft ci k)) (M a k) (S.2.2 a k) = v) (hdg : decode cc pc = .ok (.getfield ix, 3))
    (kk : W p l e R s m args below meth c H locs cells slots Q (F0 m (pc + 3) ls (v :: rest))) : W p l e R s m args below meth c H locs cells slots Q (F0 m pc ls (.ref (zad g a) :: rest)) := by
  obtain ⟨r, hc, h20, hkN, hin, hl⟩ := hf
  rcases hl with hl | ⟨host, hl⟩
  · exact z_get hx hb hts hin hown hT hR hk hc h20 k hkN (hts _ hl) rfl hv hdg kk
  · exact z_getN hx hb hts hin hown hT hR hk hc h20 k hkN (va_Nw.use rfl (hNw _ hl)) rfl hv hdg kk
theorem z_put (hx : p.tables.exec = Jvm.exec) (hb : c.code = cc) {own : String} {ix ci k : Nat} (hts : ∀ w ∈ zTs, w.before args s = true) (hNw : ∀ w ∈ zTn, va_Nw w s) (hown : s.vm.findClass own = some m.cls) (hT : zT g s) (hR : zR g M S H) (hS : va_S (zA g) H0 H locs) {a : Nat} (hf : zFd own ix ci k) (hpf : zPf ci) (hk : (S.2.1 a).1 = ci)
    (hfin : zfin ci k = false ∨ (zfin ci k = true ∧ meth.name = "<init>" ∧ zdecl ci k = own)) {v : Value} (hn : narrow (zft ci k) v = v) (hft : fits (zft ci k) v = true)
    (hM : ∀ b, b ≠ a → M1 b = M b) (hSr : ∀ b, b ≠ a → S1.2.2 b = S.2.2 b) (h1 : S1.1 = S.1) (h2 : S1.2.1 = S.2.1) (hj : ∀ j : Nat, updV (fun j => zv g (ztc (zft ci j)) (M a j) (S.2.2 a j)) k v j = zv g (ztc (zft ci j)) (M1 a j) (S1.2.2 a j)) (hv : ∀ j : Nat, zrg (zft ci j) (M1 a j)) (hdg : decode cc pc = .ok (.putfield ix, 3))
    (kk : ∀ (H1 : Heap) (locs1 : List Loc), zR g M1 S1 H1 → va_S (zA g) H0 H1 locs1 → W p l e R s m args below meth c H1 locs1 cells slots Q (F0 m (pc + 3) ls rest)) : W p l e R s m args below meth c H locs cells slots Q (F0 m pc ls (v :: .ref (zad g a) :: rest)) := by
  obtain ⟨r, hc, h20, hkN, hin, hl⟩ := hf
  obtain ⟨r2, hc2, hty, hnm⟩ := hpf
  obtain rfl := Option.some.inj (hc.symm.trans hc2)
  obtain ⟨C, T, N⟩ := r
  dsimp only at hkN hin hl hty hnm
  have hfin9 : zfin ci k = (T k).2.2.2 := by unfold zfin; rw [hc]
  have hdecl9 : zdecl ci k = (T k).1 := by unfold zdecl; rw [hc]
  rw [hfin9, hdecl9] at hfin
  have hap := va_apart (own := own) hts hin (zft ci) hty hnm hT.1 hc
  obtain ⟨r', g1, cell, q1, q2, q3, q4⟩ := (hR.2.1 a).1 (by rw [hk]; exact h20)
  rw [hk] at g1 q2 q4
  obtain rfl := Option.some.inj (g1.symm.trans hc)
  obtain ⟨hSl, hfc, kC, hkC, hkind⟩ := hT.1.1 ci _ hc
  obtain ⟨cf, kf, fi, f, hi, hsl⟩ := hSl k hkN
  have hpos := hR.pos (show (S.2.1 a).1 < 28 by rw [hk]; omega)
  have hst := (u_facts hfc hkC (u_lays hts hin hkN) hi).1
  have hlay := hts _ (hin _ (u_in_lay hkN))
  unfold u_lay at hlay
  have fin : ∀ H' : Heap, H'[zad g a]? = some (cell.setSlot f.slot v) → H'.size = H.size → (∀ q, q ≠ zad g a → H'[q]? = H[q]?) → W p l e R s m args below meth c H' (locs ++ [⟨zad g a, f.slot⟩]) cells slots Q (F0 m (pc + 3) ls rest) := by
    intro H' e1 e2 e3
    rw [hsl] at e1 ⊢
    refine kk H' _ (hR.upd (a := a) (by rw [hk]; omega) e2 e3 (fun c1 hc1 => ⟨cell, q1, by rw [e1] at hc1; cases hc1; exact set_sz _ _ _⟩) hM hSr h1 h2 ⟨fun _ => ?_, fun q => ?_⟩ (fun j => ?_)) (zA_put hS e2 e3 ⟨hpos.1, hpos.2.2⟩)
    · rw [h2, hk]
      exact ⟨_, hc, t_OB.to ⟨_, e1, q2, q3, t_set q4 hap hkN v⟩ (fun j _ => hj j)⟩
    · rw [h2, hk] at q; omega
    · rw [hk]
      show zrg (zty ci j) _
      unfold zty
      rw [if_pos h20]
      exact hv j
  rcases hfin with hfin | ⟨hfin, hin2, hdecl⟩
  · rw [if_neg (by rw [hfin]; decide)] at hlay
    have h6 := u_store hfc hkC hkind hlay hi (hty k hkN) hn hft
    rcases hl with hl | ⟨host, hl⟩
    · exact W.putK hx hb (f := f) ⟨hown, hts _ hl, ⟨_, _, _, hi⟩, hst⟩ (by rw [q2]; exact h6) q1 q3 (by rw [hsl]; exact k2_hasslot (q4 k hkN)) rfl rfl hdg fin
    · exact va_WputK hx hb (f := f) hown (va_Nw.use rfl (hNw _ hl)) hi hst (by rw [q2]; exact h6) q1 q3 (by rw [hsl]; exact k2_hasslot (q4 k hkN)) rfl rfl hdg fin
  · rw [if_pos hfin] at hlay
    have hcf : m.cls = cf := by
      obtain ⟨_, _, c', _, _, _, -, -, hf', -, -, -, hown2, -⟩ := Cond.laysFinal_spec hlay
      have e1 : c' = cf := by have := hi.symm.trans hf'; simp at this; exact this.1.symm
      rw [hdecl] at hown2
      rw [← e1]; exact Option.some.inj (hown.symm.trans hown2)
    have h6 := u_fits hfc hkC hkind (Or.inr hlay) hi (hty k hkN) hn hft
    rcases hl with hl | ⟨host, hl⟩
    · exact W.putFinK hx hb hown (hts _ hl) hi hst hcf hin2 (by rw [q2]; exact h6) q1 q3 (by rw [hsl]; exact k2_hasslot (q4 k hkN)) rfl rfl hdg fin
    · exact va_Wputf hx hb hown (va_Nw.use rfl (hNw _ hl)) hi hst (Or.inr ⟨hcf, hin2⟩) q1 (by rw [q3]; exact fun h => by cases h) (by rw [hsl]; exact k2_hasslot (q4 k hkN)) h6.1 (by rw [q2, q3]; exact h6.2) rfl rfl hdg (fin _ (by
        have := k2_hasslot (q4 k hkN)
        rw [Array.getElem?_setIfInBounds_self_of_lt (Array.getElem?_eq_some_iff.mp q1).1]) (by simp) (fun q hq => by rw [Array.getElem?_setIfInBounds_ne (Ne.symm hq)]))
end ZHR
section ZJ2
variable {K : zK} {l0 : Launch} {g : zG} {cc : ByteArray} {nL nc ns pc : Nat} {own : String} {lv lv1 : List (Nat × Value)} {rest : List Value} {M M1 : zM} {S S1 : zS}

theorem j_get (hC : zC K l0 g cc nL own) {ix ci k a : Nat} (hd : decode cc pc = .ok (.getfield ix, 3)) (hf : zFd own ix ci k) (hk : zkd S a = ci) (ht : ztc (zft ci k) = 0) (ki : Int) (hki : (k : Int) = ki) (kk : inR (M a ki) → zJ K g nc ns (pc + 3) nL lv (.int (zi (M a ki)) :: rest) M S) : zJ K g nc ns pc nL lv (zr g a :: rest) M S := by
  obtain ⟨p, l, e, R, s, m, args, below, meth, c, Q⟩ := K
  obtain ⟨rfl, hx, hb, hml, hown, hts, hT, hO, hNw, hlk, htr⟩ := hC
  intro H locs ls hR hS hl
  have h28 : (S.2.1 a).1 < 28 := by obtain ⟨r, -, h20, -⟩ := hf; show zkd S a < 28; omega
  have hz := (hR.pos h28).1
  rw [zr_nz hz]
  subst hki
  have hv := hR.2.2.2.1 a k h28
  rw [show zty (S.2.1 a).1 k = zft ci k by obtain ⟨r, -, h20, -⟩ := hf; unfold zty; rw [show (S.2.1 a).1 = ci from hk, if_pos h20]] at hv
  exact z_getA hx hb hts hNw hown hT hR hf hk (by rw [ht]; rfl) hd (kk (zrg_int ht hv) H locs ls hR hS hl)
theorem j_getz (hC : zC K l0 g cc nL own) {ix ci k a : Nat} (hd : decode cc pc = .ok (.getfield ix, 3)) (hf : zFd own ix ci k) (hk : zkd S a = ci) (ht : zft ci k = .boolean) (ki : Int) (hki : (k : Int) = ki) (kk : 0 ≤ M a ki ∧ M a ki ≤ 1 → zJ K g nc ns (pc + 3) nL lv (.int (zi (M a ki)) :: rest) M S) : zJ K g nc ns pc nL lv (zr g a :: rest) M S := by
  obtain ⟨p, l, e, R, s, m, args, below, meth, c, Q⟩ := K
  obtain ⟨rfl, hx, hb, hml, hown, hts, hT, hO, hNw, hlk, htr⟩ := hC
  intro H locs ls hR hS hl
  have h28 : (S.2.1 a).1 < 28 := by obtain ⟨r, -, h20, -⟩ := hf; show zkd S a < 28; omega
  have hz := (hR.pos h28).1
  rw [zr_nz hz]
  subst hki
  have hv := hR.2.2.2.1 a k h28
  rw [show zty (S.2.1 a).1 k = .boolean by obtain ⟨r, -, h20, -⟩ := hf; unfold zty; rw [show (S.2.1 a).1 = ci from hk, if_pos h20, ht]] at hv
  exact z_getA hx hb hts hNw hown hT hR hf hk (by rw [ht]; rfl) hd (kk hv H locs ls hR hS hl)
theorem j_getq (hC : zC K l0 g cc nL own) {ix ci k a q : Nat} (hd : decode cc pc = .ok (.getfield ix, 3)) (hf : zFd own ix ci k) (hk : zkd S a = ci) (ht : ztc (zft ci k) = 3) (ki : Int) (hki : (k : Int) = ki) (hv : zrf S a ki = q) (kk : zJ K g nc ns (pc + 3) nL lv (zr g q :: rest) M S) : zJ K g nc ns pc nL lv (zr g a :: rest) M S := by
  obtain ⟨p, l, e, R, s, m, args, below, meth, c, Q⟩ := K
  obtain ⟨rfl, hx, hb, hml, hown, hts, hT, hO, hNw, hlk, htr⟩ := hC
  intro H locs ls hR hS hl
  have h28 : (S.2.1 a).1 < 28 := by obtain ⟨r, -, h20, -⟩ := hf; show zkd S a < 28; omega
  have hz := (hR.pos h28).1
  rw [zr_nz hz]
  subst hki
  exact z_getA hx hb hts hNw hown hT hR hf hk (by rw [ht]; show zr g _ = _; rw [show S.2.2 a (k : Int) = q from hv]) hd (kk H locs ls hR hS hl)
theorem j_put (hC : zC K l0 g cc nL own) {ix ci k a : Nat} {x x1 : Int} (hd : decode cc pc = .ok (.putfield ix, 3)) (hf : zFd own ix ci k) (hpf : zPf ci) (hk : zkd S a = ci) (ht : zft ci k = .int ∨ zft ci k = .boolean ∨ zft ci k = .byte) (hfin : zfin ci k = false) (ki : Int) (hki : (k : Int) = ki) (ha : w x = x1) (hrg : zrg (zft ci k) x1) (hM1 : M1 = zs M a ki x1) (kk : zJ K g nc ns (pc + 3) nL lv rest M1 S) : zJ K g nc ns pc nL lv (.int (zi x) :: zr g a :: rest) M S := by
  obtain ⟨p, l, e, R, s, m, args, below, meth, c, Q⟩ := K
  obtain ⟨rfl, hx, hb, hml, hown, hts, hT, hO, hNw, hlk, htr⟩ := hC
  intro H locs ls hR hS hl
  have h28 : (S.2.1 a).1 < 28 := by obtain ⟨r, -, h20, -⟩ := hf; show zkd S a < 28; omega
  have hz := (hR.pos h28).1
  rw [zr_nz hz]
  subst hki
  subst hM1
  subst ha
  have hcast : ∀ j : Nat, ((j : Int) = (k : Int)) ↔ j = k := fun j => by omega
  have hv9 : ∀ j : Nat, zrg (zft ci j) (zs M a k (w x) a j) := fun j => by
    by_cases e : j = k
    · subst e; rw [zs_at]; exact hrg
    · rw [zs_off M _ (Or.inr (fun q => e ((hcast j).mp q)))]
      have hv := hR.2.2.2.1 a j h28
      rw [show zty (S.2.1 a).1 j = zft ci j by obtain ⟨r, -, h20, -⟩ := hf; unfold zty; rw [show (S.2.1 a).1 = ci from hk, if_pos h20]] at hv
      exact hv
  have hfn := zfits ht hrg
  rw [zi_w] at hfn
  refine z_put (M1 := zs M a k (w x)) (S1 := S) hx hb hts hNw hown hT hR hS hf hpf hk (Or.inl hfin) hfn.1 hfn.2 (fun b hb => zs_ne M _ _ hb) (fun _ _ => rfl) rfl rfl (fun j => ?_) hv9 hd (fun H1 locs1 hR1 hS1 => kk H1 locs1 ls hR1 hS1 hl)
  by_cases e : j = k
  · subst e
    have h0 : ztc (zft ci j) = 0 := by rcases ht with h | h | h <;> rw [h] <;> rfl
    rw [zs_at, h0]
    show updV _ j _ j = .int (zi (w x))
    rw [zi_w]
    exact if_pos rfl
  · rw [zs_off M _ (Or.inr (fun q => e ((hcast j).mp q)))]
    exact if_neg e
/-- the end: which method K is in, its room, what it owes -/
def zEx (e : Nat) : String := match e with
  | 0 => "java/lang/IllegalStateException"
  | 1 => "java/lang/IllegalArgumentException"
  | 2 => "java/lang/IndexOutOfBoundsException"
  | 3 => "java/lang/UnsupportedOperationException"
  | _ => "java/util/NoSuchElementException"
def zRm (L mc ms : Nat) : Room := { frames := 8 * L, cells := mc, slots := ms, locals := 128 * L }
def zB (g : zG) (M : zM) (S : zS) (U : State) : Prop := zR g M S U.heap ∧ zT g U ∧ zO g U ∧ ∀ w ∈ zTn, va_Nw w U
def zQc (g : zG) (oc : Option Value ⊕ String) (M' : zM) (S' : zS) (φ : Prop) : Array Value → State → Outcome → State → Prop := fun _ st o t => (∃ v, oc = .inl v ∧ o = .returned v) ∧ φ ∧ zR g M' S' t.heap ∧ va_F (zA g) st t
def zXC (g : zG) (oc : Option Value ⊕ String) (M' : zM) (S' : zS) (φ : Prop) : String → State → State → Prop := fun E st t => oc = .inr E ∧ φ ∧ zR g M' S' t.heap ∧ va_F (zA g) st t
def zE (K : zK) (g : zG) (nm : String) (ret : Option FieldType) (L mc ms : Nat) (oc : Option Value ⊕ String) (M' : zM) (S' : zS) (φ : Prop) : Prop := match K with
  | (p, l, e, R, s, m, args, below, meth, c, Q) => meth.name = nm ∧ meth.sig.returnType = ret ∧ R = zRm L mc ms ∧ Q = vx_MQ below (zQc g oc M' S' φ) (zXC g oc M' S' φ) args s mc ms (zA g)

theorem j_putF (hC : zC K l0 g cc nL own) {L mc ms : Nat} {ret : Option FieldType} {oc : Option Value ⊕ String} {M9 : zM} {S9 : zS} {φ : Prop} (hE : zE K g "<init>" ret L mc ms oc M9 S9 φ) {ix ci k a : Nat} {x x1 : Int} (hd : decode cc pc = .ok (.putfield ix, 3)) (hf : zFd own ix ci k) (hpf : zPf ci) (hk : zkd S a = ci) (ht : zft ci k = .int ∨ zft ci k = .boolean ∨ zft ci k = .byte) (hfin : zfin ci k = true) (ki : Int) (hki : (k : Int) = ki) (ha : w x = x1) (hrg : zrg (zft ci k) x1) (hM1 : M1 = zs M a ki x1) (hdecl : zdecl ci k = own) (kk : zJ K g nc ns (pc + 3) nL lv rest M1 S) : zJ K g nc ns pc nL lv (.int (zi x) :: zr g a :: rest) M S := by
  obtain ⟨p, l, e, R, s, m, args, below, meth, c, Q⟩ := K
  obtain ⟨rfl, hx, hb, hml, hown, hts, hT, hO, hNw, hlk, htr⟩ := hC
  intro H locs ls hR hS hl
  have h28 : (S.2.1 a).1 < 28 := by obtain ⟨r, -, h20, -⟩ := hf; show zkd S a < 28; omega
  have hz := (hR.pos h28).1
  rw [zr_nz hz]
  subst hki
  subst hM1
  subst ha
  have hcast : ∀ j : Nat, ((j : Int) = (k : Int)) ↔ j = k := fun j => by omega
  have hv9 : ∀ j : Nat, zrg (zft ci j) (zs M a k (w x) a j) := fun j => by
    by_cases e : j = k
    · subst e; rw [zs_at]; exact hrg
    · rw [zs_off M _ (Or.inr (fun q => e ((hcast j).mp q)))]
      have hv := hR.2.2.2.1 a j h28
      rw [show zty (S.2.1 a).1 j = zft ci j by obtain ⟨r, -, h20, -⟩ := hf; unfold zty; rw [show (S.2.1 a).1 = ci from hk, if_pos h20]] at hv
      exact hv
  have hfn := zfits ht hrg
  rw [zi_w] at hfn
  refine z_put (M1 := zs M a k (w x)) (S1 := S) hx hb hts hNw hown hT hR hS hf hpf hk (Or.inr ⟨hfin, hE.1, hdecl⟩) hfn.1 hfn.2 (fun b hb => zs_ne M _ _ hb) (fun _ _ => rfl) rfl rfl (fun j => ?_) hv9 hd (fun H1 locs1 hR1 hS1 => kk H1 locs1 ls hR1 hS1 hl)
  by_cases e : j = k
  · subst e
    have h0 : ztc (zft ci j) = 0 := by rcases ht with h | h | h <;> rw [h] <;> rfl
    rw [zs_at, h0]
    show updV _ j _ j = .int (zi (w x))
    rw [zi_w]
    exact if_pos rfl
  · rw [zs_off M _ (Or.inr (fun q => e ((hcast j).mp q)))]
    exact if_neg e
theorem j_putq (hC : zC K l0 g cc nL own) {L mc ms : Nat} {ret : Option FieldType} {oc : Option Value ⊕ String} {M9 : zM} {S9 : zS} {φ : Prop} (hE : zE K g "<init>" ret L mc ms oc M9 S9 φ) {ix ci k a x : Nat} (hd : decode cc pc = .ok (.putfield ix, 3)) (hf : zFd own ix ci k) (hpf : zPf ci) (hk : zkd S a = ci) (ht : ztc (zft ci k) = 3) (hfin : zfin ci k = true) (hdecl : zdecl ci k = own) (ki : Int) (hki : (k : Int) = ki) (hS1 : S1 = zq S a ki x) (kk : zJ K g nc ns (pc + 3) nL lv rest M S1) : zJ K g nc ns pc nL lv (zr g x :: zr g a :: rest) M S := by
  obtain ⟨p, l, e, R, s, m, args, below, meth, c, Q⟩ := K
  obtain ⟨rfl, hx, hb, hml, hown, hts, hT, hO, hNw, hlk, htr⟩ := hC
  intro H locs ls hR hS hl
  have h28 : (S.2.1 a).1 < 28 := by obtain ⟨r, -, h20, -⟩ := hf; show zkd S a < 28; omega
  have hz := (hR.pos h28).1
  rw [zr_nz hz]
  subst hki
  subst hS1
  have hcast : ∀ j : Nat, ((j : Int) = (k : Int)) ↔ j = k := fun j => by omega
  have hv9 : ∀ j : Nat, zrg (zft ci j) (M a j) := fun j => by
    have hv := hR.2.2.2.1 a j h28
    rw [show zty (S.2.1 a).1 j = zft ci j by obtain ⟨r, -, h20, -⟩ := hf; unfold zty; rw [show (S.2.1 a).1 = ci from hk, if_pos h20]] at hv
    exact hv
  have hfn := zfitq g x ht
  refine z_put (M1 := M) (S1 := zq S a k x) hx hb hts hNw hown hT hR hS hf hpf hk (Or.inr ⟨hfin, hE.1, hdecl⟩) hfn.1 hfn.2 (fun _ _ => rfl) (fun b hb => up_ne _ _ hb) rfl rfl (fun j => ?_) hv9 hd (fun H1 locs1 hR1 hS1 => kk H1 locs1 ls hR1 hS1 hl)
  by_cases e : j = k
  · subst e
    rw [ht]
    show updV _ j _ j = zr g (up S.2.2 a (up (S.2.2 a) _ x) a _)
    rw [up_eq, up_eq]
    exact if_pos rfl
  · show updV _ k _ j = zv g _ _ (up S.2.2 a (up (S.2.2 a) _ x) a _)
    rw [up_eq, up_ne _ _ (fun q => e ((hcast j).mp q))]
    exact if_neg e
theorem j_iald (hC : zC K l0 g cc nL own) {a : Nat} {i i1 n : Int} (hd : decode cc pc = .ok (.iaload, 1)) (hi : w i = i1) (hk : zkd S a = 20) (hn : zlen S a = n) (h0 : 0 ≤ i1) (h1 : i1 < n) (kk : inR (M a i1) → zJ K g nc ns (pc + 1) nL lv (.int (zi (M a i1)) :: rest) M S) : zJ K g nc ns pc nL lv (.int (zi i) :: zr g a :: rest) M S := by
  obtain ⟨p, l, e, R, s, m, args, below, meth, c, Q⟩ := K
  obtain ⟨rfl, hx, hb, hml, hown, hts, hT, hO, hNw, hlk, htr⟩ := hC
  intro H locs ls hR hS hl
  have h28 : (S.2.1 a).1 < 28 := by show zkd S a < 28; omega
  have hz := (hR.pos h28).1
  rw [zr_nz hz]
  subst hi; subst hn
  rw [← zi_w i]
  have hv := hR.2.2.2.1 a (w i).toNat h28
  rw [show (S.2.1 a).1 = 20 from hk, Int.toNat_of_nonneg h0] at hv
  exact z_iald hx hb hT hR (inR_w _) hk h0 h1 hd (kk hv H locs ls hR hS hl)
theorem j_zald (hC : zC K l0 g cc nL own) {a : Nat} {i i1 n : Int} (hd : decode cc pc = .ok (.baload, 1)) (hi : w i = i1) (hk : zkd S a = 22) (hn : zlen S a = n) (h0 : 0 ≤ i1) (h1 : i1 < n) (kk : 0 ≤ M a i1 ∧ M a i1 ≤ 1 → zJ K g nc ns (pc + 1) nL lv (.int (zi (M a i1)) :: rest) M S) : zJ K g nc ns pc nL lv (.int (zi i) :: zr g a :: rest) M S := by
  obtain ⟨p, l, e, R, s, m, args, below, meth, c, Q⟩ := K
  obtain ⟨rfl, hx, hb, hml, hown, hts, hT, hO, hNw, hlk, htr⟩ := hC
  intro H locs ls hR hS hl
  have h28 : (S.2.1 a).1 < 28 := by show zkd S a < 28; omega
  have hz := (hR.pos h28).1
  rw [zr_nz hz]
  subst hi; subst hn
  rw [← zi_w i]
  have hv := hR.2.2.2.1 a (w i).toNat h28
  rw [show (S.2.1 a).1 = 22 from hk, Int.toNat_of_nonneg h0] at hv
  exact z_zald hx hb hT hR (inR_w _) hk h0 h1 hd (kk hv H locs ls hR hS hl)
theorem j_cald (hC : zC K l0 g cc nL own) {a : Nat} {i i1 n : Int} (hd : decode cc pc = .ok (.caload, 1)) (hi : w i = i1) (hk : zkd S a = 23) (hn : zlen S a = n) (h0 : 0 ≤ i1) (h1 : i1 < n) (kk : 0 ≤ M a i1 ∧ M a i1 < 65536 → zJ K g nc ns (pc + 1) nL lv (.int (zi (M a i1)) :: rest) M S) : zJ K g nc ns pc nL lv (.int (zi i) :: zr g a :: rest) M S := by
  obtain ⟨p, l, e, R, s, m, args, below, meth, c, Q⟩ := K
  obtain ⟨rfl, hx, hb, hml, hown, hts, hT, hO, hNw, hlk, htr⟩ := hC
  intro H locs ls hR hS hl
  have h28 : (S.2.1 a).1 < 28 := by show zkd S a < 28; omega
  have hz := (hR.pos h28).1
  rw [zr_nz hz]
  subst hi; subst hn
  rw [← zi_w i]
  have hv := hR.2.2.2.1 a (w i).toNat h28
  rw [show (S.2.1 a).1 = 23 from hk, Int.toNat_of_nonneg h0] at hv
  exact z_cald hx hb hT hR (inR_w _) hk h0 h1 hd (kk hv H locs ls hR hS hl)
theorem j_lald (hC : zC K l0 g cc nL own) {a : Nat} {i i1 n : Int} (hd : decode cc pc = .ok (.laload, 1)) (hi : w i = i1) (hk : zkd S a = 21) (hn : zlen S a = n) (h0 : 0 ≤ i1) (h1 : i1 < n) (kk : inL (M a i1) → zJ K g nc ns (pc + 1) nL lv (.long (zl (M a i1)) :: rest) M S) : zJ K g nc ns pc nL lv (.int (zi i) :: zr g a :: rest) M S := by
  obtain ⟨p, l, e, R, s, m, args, below, meth, c, Q⟩ := K
  obtain ⟨rfl, hx, hb, hml, hown, hts, hT, hO, hNw, hlk, htr⟩ := hC
  intro H locs ls hR hS hl
  have h28 : (S.2.1 a).1 < 28 := by show zkd S a < 28; omega
  have hz := (hR.pos h28).1
  rw [zr_nz hz]
  subst hi; subst hn
  rw [← zi_w i]
  have hv := hR.2.2.2.1 a (w i).toNat h28
  rw [show (S.2.1 a).1 = 21 from hk, Int.toNat_of_nonneg h0] at hv
  exact z_lald hx hb hT hR (inR_w _) hk h0 h1 hd (kk hv H locs ls hR hS hl)
theorem j_bald (hC : zC K l0 g cc nL own) {a : Nat} {i i1 n : Int} (hd : decode cc pc = .ok (.baload, 1)) (hi : w i = i1) (hk : zkd S a = 24) (hn : zlen S a = n) (h0 : 0 ≤ i1) (h1 : i1 < n) (kk : -128 ≤ M a i1 ∧ M a i1 < 128 → zJ K g nc ns (pc + 1) nL lv (.int (zi (M a i1)) :: rest) M S) : zJ K g nc ns pc nL lv (.int (zi i) :: zr g a :: rest) M S := by
  obtain ⟨p, l, e, R, s, m, args, below, meth, c, Q⟩ := K
  obtain ⟨rfl, hx, hb, hml, hown, hts, hT, hO, hNw, hlk, htr⟩ := hC
  intro H locs ls hR hS hl
  have h28 : (S.2.1 a).1 < 28 := by show zkd S a < 28; omega
  have hz := (hR.pos h28).1
  rw [zr_nz hz]
  subst hi; subst hn
  rw [← zi_w i]
  have hv := hR.2.2.2.1 a (w i).toNat h28
  rw [show (S.2.1 a).1 = 24 from hk, Int.toNat_of_nonneg h0] at hv
  exact z_bald hx hb hT hR (inR_w _) hk h0 h1 hd (kk hv H locs ls hR hS hl)
theorem j_aald (hC : zC K l0 g cc nL own) {a k : Nat} {i i1 n : Int} (hd : decode cc pc = .ok (.aaload, 1)) (hi : w i = i1) (hk : zkd S a = k) (h25 : 25 ≤ k) (h28 : k + 1 ≤ 28) (hn : zlen S a = n) (h0 : 0 ≤ i1) (h1 : i1 < n) (kk : zJ K g nc ns (pc + 1) nL lv (zr g (zrf S a i1) :: rest) M S) : zJ K g nc ns pc nL lv (.int (zi i) :: zr g a :: rest) M S := by
  obtain ⟨p, l, e, R, s, m, args, below, meth, c, Q⟩ := K
  obtain ⟨rfl, hx, hb, hml, hown, hts, hT, hO, hNw, hlk, htr⟩ := hC
  intro H locs ls hR hS hl
  have hz := (hR.pos (show (S.2.1 a).1 < 28 by show zkd S a < 28; omega)).1
  rw [zr_nz hz]
  subst hi; subst hn
  rw [← zi_w i]
  exact z_aald hx hb hT hR (inR_w _) hk h25 (by omega) h0 h1 rfl hd (kk H locs ls hR hS hl)
theorem j_alen (hC : zC K l0 g cc nL own) {a k : Nat} {n : Int} (hd : decode cc pc = .ok (.arraylength, 1)) (hk : zkd S a = k) (h20 : 20 ≤ k) (h28 : k + 1 ≤ 28) (hn : zlen S a = n) (kk : inR n → zJ K g nc ns (pc + 1) nL lv (.int (zi n) :: rest) M S) : zJ K g nc ns pc nL lv (zr g a :: rest) M S := by
  obtain ⟨p, l, e, R, s, m, args, below, meth, c, Q⟩ := K
  obtain ⟨rfl, hx, hb, hml, hown, hts, hT, hO, hNw, hlk, htr⟩ := hC
  intro H locs ls hR hS hl
  have hz := (hR.pos (show (S.2.1 a).1 < 28 by show zkd S a < 28; omega)).1
  have hlt := hR.2.2.2.2 a (show (S.2.1 a).1 < 28 by show zkd S a < 28; omega)
  rw [zr_nz hz]
  exact z_alen hx hb hT hR hk h20 (by omega) hn hd (kk (by rw [← hn]; unfold zlen; omega) H locs ls hR hS hl)
theorem j_iast (hC : zC K l0 g cc nL own) {a : Nat} {i i1 n x x1 : Int} (hd : decode cc pc = .ok (.iastore, 1)) (hi : w i = i1) (hx1 : w x = x1) (hrg : inR x1) (hk : zkd S a = 20) (hn : zlen S a = n) (h0 : 0 ≤ i1) (h1 : i1 < n) (hM1 : M1 = zs M a i1 x1) (kk : zJ K g nc ns (pc + 1) nL lv rest M1 S) : zJ K g nc ns pc nL lv (.int (zi x) :: .int (zi i) :: zr g a :: rest) M S := by
  obtain ⟨p, l, e, R, s, m, args, below, meth, c, Q⟩ := K
  obtain ⟨rfl, hx, hb, hml, hown, hts, hT, hO, hNw, hlk, htr⟩ := hC
  intro H locs ls hR hS hl
  have h28 : (S.2.1 a).1 < 28 := by show zkd S a < 28; omega
  have hz := (hR.pos h28).1
  rw [zr_nz hz]
  subst hi; subst hn; subst hx1; subst hM1
  rw [← zi_w i, ← zi_w x]
  exact z_iast hx hb hT hR hS (inR_w _) hrg hk h0 h1 hd (fun H1 locs1 hR1 hS1 => kk H1 locs1 ls hR1 hS1 hl)
theorem j_last (hC : zC K l0 g cc nL own) {a : Nat} {i i1 n x x1 : Int} (hd : decode cc pc = .ok (.lastore, 1)) (hi : w i = i1) (hx1 : wl x = x1) (hrg : inL x1) (hk : zkd S a = 21) (hn : zlen S a = n) (h0 : 0 ≤ i1) (h1 : i1 < n) (hM1 : M1 = zs M a i1 x1) (kk : zJ K g nc ns (pc + 1) nL lv rest M1 S) : zJ K g nc ns pc nL lv (.long (zl x) :: .int (zi i) :: zr g a :: rest) M S := by
  obtain ⟨p, l, e, R, s, m, args, below, meth, c, Q⟩ := K
  obtain ⟨rfl, hx, hb, hml, hown, hts, hT, hO, hNw, hlk, htr⟩ := hC
  intro H locs ls hR hS hl
  have h28 : (S.2.1 a).1 < 28 := by show zkd S a < 28; omega
  have hz := (hR.pos h28).1
  rw [zr_nz hz]
  subst hi; subst hn; subst hx1; subst hM1
  rw [← zi_w i, ← zl_wl x]
  exact z_last hx hb hT hR hS (inR_w _) hrg hk h0 h1 hd (fun H1 locs1 hR1 hS1 => kk H1 locs1 ls hR1 hS1 hl)
theorem j_zast (hC : zC K l0 g cc nL own) {a : Nat} {i i1 n x x1 : Int} (hd : decode cc pc = .ok (.bastore, 1)) (hi : w i = i1) (hx1 : w x = x1) (hrg : 0 ≤ x1 ∧ x1 ≤ 1) (hk : zkd S a = 22) (hn : zlen S a = n) (h0 : 0 ≤ i1) (h1 : i1 < n) (hM1 : M1 = zs M a i1 x1) (kk : zJ K g nc ns (pc + 1) nL lv rest M1 S) : zJ K g nc ns pc nL lv (.int (zi x) :: .int (zi i) :: zr g a :: rest) M S := by
  obtain ⟨p, l, e, R, s, m, args, below, meth, c, Q⟩ := K
  obtain ⟨rfl, hx, hb, hml, hown, hts, hT, hO, hNw, hlk, htr⟩ := hC
  intro H locs ls hR hS hl
  have h28 : (S.2.1 a).1 < 28 := by show zkd S a < 28; omega
  have hz := (hR.pos h28).1
  rw [zr_nz hz]
  subst hi; subst hn; subst hx1; subst hM1
  rw [← zi_w i, ← zi_w x]
  exact z_zast hx hb hT hR hS (inR_w _) hrg hk h0 h1 hd (fun H1 locs1 hR1 hS1 => kk H1 locs1 ls hR1 hS1 hl)
theorem j_bast (hC : zC K l0 g cc nL own) {a : Nat} {i i1 n x x1 : Int} (hd : decode cc pc = .ok (.bastore, 1)) (hi : w i = i1) (hx1 : zi2b x = x1) (hk : zkd S a = 24) (hn : zlen S a = n) (h0 : 0 ≤ i1) (h1 : i1 < n) (hM1 : M1 = zs M a i1 x1) (kk : zJ K g nc ns (pc + 1) nL lv rest M1 S) : zJ K g nc ns pc nL lv (.int (zi x) :: .int (zi i) :: zr g a :: rest) M S := by
  obtain ⟨p, l, e, R, s, m, args, below, meth, c, Q⟩ := K
  obtain ⟨rfl, hx, hb, hml, hown, hts, hT, hO, hNw, hlk, htr⟩ := hC
  intro H locs ls hR hS hl
  have h28 : (S.2.1 a).1 < 28 := by show zkd S a < 28; omega
  have hz := (hR.pos h28).1
  rw [zr_nz hz]
  subst hi; subst hn; subst hx1; subst hM1
  rw [← zi_w i]
  exact z_bast hx hb hT hR hS (inR_w _) hk h0 h1 hd (fun H1 locs1 hR1 hS1 => kk H1 locs1 ls hR1 hS1 hl)
theorem j_cast (hC : zC K l0 g cc nL own) {a : Nat} {i i1 n x x1 : Int} (hd : decode cc pc = .ok (.castore, 1)) (hi : w i = i1) (hx1 : w x = x1) (hrg : 0 ≤ x1 ∧ x1 < 65536) (hk : zkd S a = 23) (hn : zlen S a = n) (h0 : 0 ≤ i1) (h1 : i1 < n) (hM1 : M1 = zs M a i1 x1) (kk : zJ K g nc ns (pc + 1) nL lv rest M1 S) : zJ K g nc ns pc nL lv (.int (zi x) :: .int (zi i) :: zr g a :: rest) M S := by
  obtain ⟨p, l, e, R, s, m, args, below, meth, c, Q⟩ := K
  obtain ⟨rfl, hx, hb, hml, hown, hts, hT, hO, hNw, hlk, htr⟩ := hC
  intro H locs ls hR hS hl
  have h28 : (S.2.1 a).1 < 28 := by show zkd S a < 28; omega
  have hz := (hR.pos h28).1
  rw [zr_nz hz]
  subst hi; subst hn; subst hx1; subst hM1
  rw [← zi_w i, ← zi_w x]
  exact z_cast hx hb hT hR hS (inR_w _) hrg hk h0 h1 hd (fun H1 locs1 hR1 hS1 => kk H1 locs1 ls hR1 hS1 hl)
end ZJ2
