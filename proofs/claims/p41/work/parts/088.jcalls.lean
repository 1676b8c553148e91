theorem zcat {rest : List Value} (h : rest.length ≤ 4) : (rest.map fun v => v.category).sum ≤ 8 := by
  have h2 : ∀ (l : List Value), (l.map fun v => v.category).sum ≤ 2 * l.length := by
    intro l
    induction l with
    | nil => exact Nat.le_refl _
    | cons a l ih =>
      rw [List.map_cons, List.sum_cons, List.length_cons]
      rcases lv_cat a with h | h <;> omega
  have := h2 rest
  omega
/-- thrown at pc, not caught yet -/
def zJx (K : zK) (g : zG) (nc ns pc nL : Nat) (lv : List (Nat × Value)) (rest : List Value) (M : zM) (S : zS) (e9 : Nat) : Prop := match K with
  | (p, l, e, R, s, m, args, below, meth, c, Q) => ∀ (H : Heap) (locs : List Loc) (ls : Array Slot) (q9 : Addr) (ce : Cell), zR g M S H → va_S (zA g) s.heap H locs → lv_has ls nL lv → H[q9]? = some ce → ce.vm = .none → s.vm.findClass (zEx e9) = some ce.cls → vx_W p l e R s m args below meth c H locs nc ns Q (F0 m pc ls rest) q9
section ZJ5
variable {K : zK} {l0 : Launch} {g : zG} {cc : ByteArray} {nL nc ns pc : Nat} {own : String} {lv lv1 : List (Nat × Value)} {M M1 : zM} {S S1 : zS}
variable {nm : String} {ret : Option FieldType} {L mc ms : Nat} {oc : Option Value ⊕ String} {M9 : zM} {S9 : zS} {φ φ1 : Prop}
variable {y : MethodName} {cc2 : ByteArray} {nL2 : Nat} {ret2 : Option FieldType} {L2 mc2 ms2 n ix : Nat} {av st : List Value}
theorem j_callSi (hC : zC K l0 g cc nL own) (hE : zE K g nm ret L mc ms oc M9 S9 φ) {r : Int} (lk : zLkS own ix y cc2 nL2 ret2 n) (hd : decode cc pc = .ok (.invokestatic ix, 3)) (ct : zMet l0 g y cc2 nL2 ret2 L2 mc2 ms2 av M S (.inl (some (.int (zi r)))) M1 S1 φ1) (As rest : List Value)  (hst : st = As.reverse ++ rest) (hA : av = As) (hn : As.length = n) (hcat : (rest.map fun v => v.category).sum ≤ 8) (r1 : nL2 ≤ 100) (r2 : L2 + 1 ≤ L) (r3 : nc + mc2 ≤ mc) (r4 : ns + ms2 ≤ ms) (k : φ1 → zJ K g (nc + mc2) (ns + ms2) (pc + 3) nL lv (.int (zi r) :: rest) M1 S1) : zJ K g nc ns pc nL lv st M S := by
  obtain ⟨p, l, e, R, s, m, args, below, meth, c, Q⟩ := K
  obtain ⟨rfl, hx, hb, hml, hown, hts, hT, hO, hNw, hlk, htr⟩ := hC
  obtain ⟨hnm, hrt, rfl, rfl⟩ := hE
  subst hst
  intro H locs ls hR hS hl
  exact z_runS hx hb hml hown hts hNw hT hO hR hS hl lk hd ct hA hn hcat r1 r2 r3 r4 (fun E ce q9 H1 locs1 hoc => by cases hoc) (fun v H1 locs1 hoc hφ hR1 hS1 => by cases hoc; exact k hφ H1 locs1 ls hR1 hS1 hl)
theorem j_callXSi (hC : zC K l0 g cc nL own) (hE : zE K g nm ret L mc ms oc M9 S9 φ) (hN : zNt K) {r : Nat ⊕ Int} (lk : zLkS own ix y cc2 nL2 ret2 n) (hd : decode cc pc = .ok (.invokestatic ix, 3)) (ct : zMet l0 g y cc2 nL2 ret2 L2 mc2 ms2 av M S (zOX zki r) M1 S1 φ1) (As rest : List Value)  (hst : st = As.reverse ++ rest) (hA : av = As) (hn : As.length = n) (hcat : (rest.map fun v => v.category).sum ≤ 8) (r1 : nL2 ≤ 100) (r2 : L2 + 1 ≤ L) (r3 : nc + mc2 ≤ mc) (r4 : ns + ms2 ≤ ms)
    (kx : ∀ e9, r = .inl e9 → φ1 → oc = .inr (zEx e9) ∧ M1 = M9 ∧ S1 = S9 ∧ φ) (k : ∀ a9, r = .inr a9 → φ1 → zJ K g (nc + mc2) (ns + ms2) (pc + 3) nL lv (.int (zi a9) :: rest) M1 S1) : zJ K g nc ns pc nL lv st M S := by
  obtain ⟨p, l, e, R, s, m, args, below, meth, c, Q⟩ := K
  obtain ⟨rfl, hx, hb, hml, hown, hts, hT, hO, hNw, hlk, htr⟩ := hC
  obtain ⟨hnm, hrt, rfl, rfl⟩ := hE
  subst hst
  intro H locs ls hR hS hl
  refine z_runS hx hb hml hown hts hNw hT hO hR hS hl lk hd ct hA hn hcat r1 r2 r3 r4 (fun E ce q9 H1 locs1 hoc hφ hR1 hS1 hce hcv hcl => ?_) (fun v H1 locs1 hoc hφ hR1 hS1 => ?_)
  · rcases r with e9 | a9
    · obtain ⟨x1, rfl, rfl, x4⟩ := kx e9 rfl hφ
      cases hoc
      exact vx_out (fun x hx9 => (hN x hx9).elim) hlk hce hcv hcl (fun t ht hW => ⟨x1, x4, by rw [ht]; exact hR1, hS1.F ht⟩) hS1.2.2 r3 r4
    · cases hoc
  · rcases r with e9 | a9
    · cases hoc
    · cases hoc
      exact k a9 rfl hφ H1 locs1 ls hR1 hS1 hl
theorem j_callSl (hC : zC K l0 g cc nL own) (hE : zE K g nm ret L mc ms oc M9 S9 φ) {r : Int} (lk : zLkS own ix y cc2 nL2 ret2 n) (hd : decode cc pc = .ok (.invokestatic ix, 3)) (ct : zMet l0 g y cc2 nL2 ret2 L2 mc2 ms2 av M S (.inl (some (.long (zl r)))) M1 S1 φ1) (As rest : List Value)  (hst : st = As.reverse ++ rest) (hA : av = As) (hn : As.length = n) (hcat : (rest.map fun v => v.category).sum ≤ 8) (r1 : nL2 ≤ 100) (r2 : L2 + 1 ≤ L) (r3 : nc + mc2 ≤ mc) (r4 : ns + ms2 ≤ ms) (k : φ1 → zJ K g (nc + mc2) (ns + ms2) (pc + 3) nL lv (.long (zl r) :: rest) M1 S1) : zJ K g nc ns pc nL lv st M S := by
  obtain ⟨p, l, e, R, s, m, args, below, meth, c, Q⟩ := K
  obtain ⟨rfl, hx, hb, hml, hown, hts, hT, hO, hNw, hlk, htr⟩ := hC
  obtain ⟨hnm, hrt, rfl, rfl⟩ := hE
  subst hst
  intro H locs ls hR hS hl
  exact z_runS hx hb hml hown hts hNw hT hO hR hS hl lk hd ct hA hn hcat r1 r2 r3 r4 (fun E ce q9 H1 locs1 hoc => by cases hoc) (fun v H1 locs1 hoc hφ hR1 hS1 => by cases hoc; exact k hφ H1 locs1 ls hR1 hS1 hl)
theorem j_callXSl (hC : zC K l0 g cc nL own) (hE : zE K g nm ret L mc ms oc M9 S9 φ) (hN : zNt K) {r : Nat ⊕ Int} (lk : zLkS own ix y cc2 nL2 ret2 n) (hd : decode cc pc = .ok (.invokestatic ix, 3)) (ct : zMet l0 g y cc2 nL2 ret2 L2 mc2 ms2 av M S (zOX zkl r) M1 S1 φ1) (As rest : List Value)  (hst : st = As.reverse ++ rest) (hA : av = As) (hn : As.length = n) (hcat : (rest.map fun v => v.category).sum ≤ 8) (r1 : nL2 ≤ 100) (r2 : L2 + 1 ≤ L) (r3 : nc + mc2 ≤ mc) (r4 : ns + ms2 ≤ ms)
    (kx : ∀ e9, r = .inl e9 → φ1 → oc = .inr (zEx e9) ∧ M1 = M9 ∧ S1 = S9 ∧ φ) (k : ∀ a9, r = .inr a9 → φ1 → zJ K g (nc + mc2) (ns + ms2) (pc + 3) nL lv (.long (zl a9) :: rest) M1 S1) : zJ K g nc ns pc nL lv st M S := by
  obtain ⟨p, l, e, R, s, m, args, below, meth, c, Q⟩ := K
  obtain ⟨rfl, hx, hb, hml, hown, hts, hT, hO, hNw, hlk, htr⟩ := hC
  obtain ⟨hnm, hrt, rfl, rfl⟩ := hE
  subst hst
  intro H locs ls hR hS hl
  refine z_runS hx hb hml hown hts hNw hT hO hR hS hl lk hd ct hA hn hcat r1 r2 r3 r4 (fun E ce q9 H1 locs1 hoc hφ hR1 hS1 hce hcv hcl => ?_) (fun v H1 locs1 hoc hφ hR1 hS1 => ?_)
  · rcases r with e9 | a9
    · obtain ⟨x1, rfl, rfl, x4⟩ := kx e9 rfl hφ
      cases hoc
      exact vx_out (fun x hx9 => (hN x hx9).elim) hlk hce hcv hcl (fun t ht hW => ⟨x1, x4, by rw [ht]; exact hR1, hS1.F ht⟩) hS1.2.2 r3 r4
    · cases hoc
  · rcases r with e9 | a9
    · cases hoc
    · cases hoc
      exact k a9 rfl hφ H1 locs1 ls hR1 hS1 hl
theorem j_callSd (hC : zC K l0 g cc nL own) (hE : zE K g nm ret L mc ms oc M9 S9 φ) {r : UInt64} (lk : zLkS own ix y cc2 nL2 ret2 n) (hd : decode cc pc = .ok (.invokestatic ix, 3)) (ct : zMet l0 g y cc2 nL2 ret2 L2 mc2 ms2 av M S (.inl (some (.double r))) M1 S1 φ1) (As rest : List Value)  (hst : st = As.reverse ++ rest) (hA : av = As) (hn : As.length = n) (hcat : (rest.map fun v => v.category).sum ≤ 8) (r1 : nL2 ≤ 100) (r2 : L2 + 1 ≤ L) (r3 : nc + mc2 ≤ mc) (r4 : ns + ms2 ≤ ms) (k : φ1 → zJ K g (nc + mc2) (ns + ms2) (pc + 3) nL lv (.double r :: rest) M1 S1) : zJ K g nc ns pc nL lv st M S := by
  obtain ⟨p, l, e, R, s, m, args, below, meth, c, Q⟩ := K
  obtain ⟨rfl, hx, hb, hml, hown, hts, hT, hO, hNw, hlk, htr⟩ := hC
  obtain ⟨hnm, hrt, rfl, rfl⟩ := hE
  subst hst
  intro H locs ls hR hS hl
  exact z_runS hx hb hml hown hts hNw hT hO hR hS hl lk hd ct hA hn hcat r1 r2 r3 r4 (fun E ce q9 H1 locs1 hoc => by cases hoc) (fun v H1 locs1 hoc hφ hR1 hS1 => by cases hoc; exact k hφ H1 locs1 ls hR1 hS1 hl)
theorem j_callXSd (hC : zC K l0 g cc nL own) (hE : zE K g nm ret L mc ms oc M9 S9 φ) (hN : zNt K) {r : Nat ⊕ UInt64} (lk : zLkS own ix y cc2 nL2 ret2 n) (hd : decode cc pc = .ok (.invokestatic ix, 3)) (ct : zMet l0 g y cc2 nL2 ret2 L2 mc2 ms2 av M S (zOX zkd2 r) M1 S1 φ1) (As rest : List Value)  (hst : st = As.reverse ++ rest) (hA : av = As) (hn : As.length = n) (hcat : (rest.map fun v => v.category).sum ≤ 8) (r1 : nL2 ≤ 100) (r2 : L2 + 1 ≤ L) (r3 : nc + mc2 ≤ mc) (r4 : ns + ms2 ≤ ms)
    (kx : ∀ e9, r = .inl e9 → φ1 → oc = .inr (zEx e9) ∧ M1 = M9 ∧ S1 = S9 ∧ φ) (k : ∀ a9, r = .inr a9 → φ1 → zJ K g (nc + mc2) (ns + ms2) (pc + 3) nL lv (.double a9 :: rest) M1 S1) : zJ K g nc ns pc nL lv st M S := by
  obtain ⟨p, l, e, R, s, m, args, below, meth, c, Q⟩ := K
  obtain ⟨rfl, hx, hb, hml, hown, hts, hT, hO, hNw, hlk, htr⟩ := hC
  obtain ⟨hnm, hrt, rfl, rfl⟩ := hE
  subst hst
  intro H locs ls hR hS hl
  refine z_runS hx hb hml hown hts hNw hT hO hR hS hl lk hd ct hA hn hcat r1 r2 r3 r4 (fun E ce q9 H1 locs1 hoc hφ hR1 hS1 hce hcv hcl => ?_) (fun v H1 locs1 hoc hφ hR1 hS1 => ?_)
  · rcases r with e9 | a9
    · obtain ⟨x1, rfl, rfl, x4⟩ := kx e9 rfl hφ
      cases hoc
      exact vx_out (fun x hx9 => (hN x hx9).elim) hlk hce hcv hcl (fun t ht hW => ⟨x1, x4, by rw [ht]; exact hR1, hS1.F ht⟩) hS1.2.2 r3 r4
    · cases hoc
  · rcases r with e9 | a9
    · cases hoc
    · cases hoc
      exact k a9 rfl hφ H1 locs1 ls hR1 hS1 hl
theorem j_callSr (hC : zC K l0 g cc nL own) (hE : zE K g nm ret L mc ms oc M9 S9 φ) {r : Nat} (lk : zLkS own ix y cc2 nL2 ret2 n) (hd : decode cc pc = .ok (.invokestatic ix, 3)) (ct : zMet l0 g y cc2 nL2 ret2 L2 mc2 ms2 av M S (.inl (some (zr g r))) M1 S1 φ1) (As rest : List Value)  (hst : st = As.reverse ++ rest) (hA : av = As) (hn : As.length = n) (hcat : (rest.map fun v => v.category).sum ≤ 8) (r1 : nL2 ≤ 100) (r2 : L2 + 1 ≤ L) (r3 : nc + mc2 ≤ mc) (r4 : ns + ms2 ≤ ms) (k : φ1 → zJ K g (nc + mc2) (ns + ms2) (pc + 3) nL lv (zr g r :: rest) M1 S1) : zJ K g nc ns pc nL lv st M S := by
  obtain ⟨p, l, e, R, s, m, args, below, meth, c, Q⟩ := K
  obtain ⟨rfl, hx, hb, hml, hown, hts, hT, hO, hNw, hlk, htr⟩ := hC
  obtain ⟨hnm, hrt, rfl, rfl⟩ := hE
  subst hst
  intro H locs ls hR hS hl
  exact z_runS hx hb hml hown hts hNw hT hO hR hS hl lk hd ct hA hn hcat r1 r2 r3 r4 (fun E ce q9 H1 locs1 hoc => by cases hoc) (fun v H1 locs1 hoc hφ hR1 hS1 => by cases hoc; exact k hφ H1 locs1 ls hR1 hS1 hl)
theorem j_callXSr (hC : zC K l0 g cc nL own) (hE : zE K g nm ret L mc ms oc M9 S9 φ) (hN : zNt K) {r : Nat ⊕ Nat} (lk : zLkS own ix y cc2 nL2 ret2 n) (hd : decode cc pc = .ok (.invokestatic ix, 3)) (ct : zMet l0 g y cc2 nL2 ret2 L2 mc2 ms2 av M S (zOX (zkr g) r) M1 S1 φ1) (As rest : List Value)  (hst : st = As.reverse ++ rest) (hA : av = As) (hn : As.length = n) (hcat : (rest.map fun v => v.category).sum ≤ 8) (r1 : nL2 ≤ 100) (r2 : L2 + 1 ≤ L) (r3 : nc + mc2 ≤ mc) (r4 : ns + ms2 ≤ ms)
    (kx : ∀ e9, r = .inl e9 → φ1 → oc = .inr (zEx e9) ∧ M1 = M9 ∧ S1 = S9 ∧ φ) (k : ∀ a9, r = .inr a9 → φ1 → zJ K g (nc + mc2) (ns + ms2) (pc + 3) nL lv (zr g a9 :: rest) M1 S1) : zJ K g nc ns pc nL lv st M S := by
  obtain ⟨p, l, e, R, s, m, args, below, meth, c, Q⟩ := K
  obtain ⟨rfl, hx, hb, hml, hown, hts, hT, hO, hNw, hlk, htr⟩ := hC
  obtain ⟨hnm, hrt, rfl, rfl⟩ := hE
  subst hst
  intro H locs ls hR hS hl
  refine z_runS hx hb hml hown hts hNw hT hO hR hS hl lk hd ct hA hn hcat r1 r2 r3 r4 (fun E ce q9 H1 locs1 hoc hφ hR1 hS1 hce hcv hcl => ?_) (fun v H1 locs1 hoc hφ hR1 hS1 => ?_)
  · rcases r with e9 | a9
    · obtain ⟨x1, rfl, rfl, x4⟩ := kx e9 rfl hφ
      cases hoc
      exact vx_out (fun x hx9 => (hN x hx9).elim) hlk hce hcv hcl (fun t ht hW => ⟨x1, x4, by rw [ht]; exact hR1, hS1.F ht⟩) hS1.2.2 r3 r4
    · cases hoc
  · rcases r with e9 | a9
    · cases hoc
    · cases hoc
      exact k a9 rfl hφ H1 locs1 ls hR1 hS1 hl
theorem j_callSs (hC : zC K l0 g cc nL own) (hE : zE K g nm ret L mc ms oc M9 S9 φ) {r : Nat} (lk : zLkS own ix y cc2 nL2 ret2 n) (hd : decode cc pc = .ok (.invokestatic ix, 3)) (ct : zMet l0 g y cc2 nL2 ret2 L2 mc2 ms2 av M S (.inl (some (.ref r))) M1 S1 φ1) (As rest : List Value)  (hst : st = As.reverse ++ rest) (hA : av = As) (hn : As.length = n) (hcat : (rest.map fun v => v.category).sum ≤ 8) (r1 : nL2 ≤ 100) (r2 : L2 + 1 ≤ L) (r3 : nc + mc2 ≤ mc) (r4 : ns + ms2 ≤ ms) (k : φ1 → zJ K g (nc + mc2) (ns + ms2) (pc + 3) nL lv (.ref r :: rest) M1 S1) : zJ K g nc ns pc nL lv st M S := by
  obtain ⟨p, l, e, R, s, m, args, below, meth, c, Q⟩ := K
  obtain ⟨rfl, hx, hb, hml, hown, hts, hT, hO, hNw, hlk, htr⟩ := hC
  obtain ⟨hnm, hrt, rfl, rfl⟩ := hE
  subst hst
  intro H locs ls hR hS hl
  exact z_runS hx hb hml hown hts hNw hT hO hR hS hl lk hd ct hA hn hcat r1 r2 r3 r4 (fun E ce q9 H1 locs1 hoc => by cases hoc) (fun v H1 locs1 hoc hφ hR1 hS1 => by cases hoc; exact k hφ H1 locs1 ls hR1 hS1 hl)
theorem j_callSv (hC : zC K l0 g cc nL own) (hE : zE K g nm ret L mc ms oc M9 S9 φ)  (lk : zLkS own ix y cc2 nL2 ret2 n) (hd : decode cc pc = .ok (.invokestatic ix, 3)) (ct : zMet l0 g y cc2 nL2 ret2 L2 mc2 ms2 av M S (.inl none) M1 S1 φ1) (As rest : List Value)  (hst : st = As.reverse ++ rest) (hA : av = As) (hn : As.length = n) (hcat : (rest.map fun v => v.category).sum ≤ 8) (r1 : nL2 ≤ 100) (r2 : L2 + 1 ≤ L) (r3 : nc + mc2 ≤ mc) (r4 : ns + ms2 ≤ ms) (k : φ1 → zJ K g (nc + mc2) (ns + ms2) (pc + 3) nL lv rest M1 S1) : zJ K g nc ns pc nL lv st M S := by
  obtain ⟨p, l, e, R, s, m, args, below, meth, c, Q⟩ := K
  obtain ⟨rfl, hx, hb, hml, hown, hts, hT, hO, hNw, hlk, htr⟩ := hC
  obtain ⟨hnm, hrt, rfl, rfl⟩ := hE
  subst hst
  intro H locs ls hR hS hl
  exact z_runS hx hb hml hown hts hNw hT hO hR hS hl lk hd ct hA hn hcat r1 r2 r3 r4 (fun E ce q9 H1 locs1 hoc => by cases hoc) (fun v H1 locs1 hoc hφ hR1 hS1 => by cases hoc; exact k hφ H1 locs1 ls hR1 hS1 hl)
theorem j_callXSv (hC : zC K l0 g cc nL own) (hE : zE K g nm ret L mc ms oc M9 S9 φ) (hN : zNt K) {r : Nat ⊕ Unit} (lk : zLkS own ix y cc2 nL2 ret2 n) (hd : decode cc pc = .ok (.invokestatic ix, 3)) (ct : zMet l0 g y cc2 nL2 ret2 L2 mc2 ms2 av M S (zOX zkv r) M1 S1 φ1) (As rest : List Value)  (hst : st = As.reverse ++ rest) (hA : av = As) (hn : As.length = n) (hcat : (rest.map fun v => v.category).sum ≤ 8) (r1 : nL2 ≤ 100) (r2 : L2 + 1 ≤ L) (r3 : nc + mc2 ≤ mc) (r4 : ns + ms2 ≤ ms)
    (kx : ∀ e9, r = .inl e9 → φ1 → oc = .inr (zEx e9) ∧ M1 = M9 ∧ S1 = S9 ∧ φ) (k : ∀ a9, r = .inr a9 → φ1 → zJ K g (nc + mc2) (ns + ms2) (pc + 3) nL lv (rest) M1 S1) : zJ K g nc ns pc nL lv st M S := by
  obtain ⟨p, l, e, R, s, m, args, below, meth, c, Q⟩ := K
  obtain ⟨rfl, hx, hb, hml, hown, hts, hT, hO, hNw, hlk, htr⟩ := hC
  obtain ⟨hnm, hrt, rfl, rfl⟩ := hE
  subst hst
  intro H locs ls hR hS hl
  refine z_runS hx hb hml hown hts hNw hT hO hR hS hl lk hd ct hA hn hcat r1 r2 r3 r4 (fun E ce q9 H1 locs1 hoc hφ hR1 hS1 hce hcv hcl => ?_) (fun v H1 locs1 hoc hφ hR1 hS1 => ?_)
  · rcases r with e9 | a9
    · obtain ⟨x1, rfl, rfl, x4⟩ := kx e9 rfl hφ
      cases hoc
      exact vx_out (fun x hx9 => (hN x hx9).elim) hlk hce hcv hcl (fun t ht hW => ⟨x1, x4, by rw [ht]; exact hR1, hS1.F ht⟩) hS1.2.2 r3 r4
    · cases hoc
  · rcases r with e9 | a9
    · cases hoc
    · cases hoc
      exact k a9 rfl hφ H1 locs1 ls hR1 hS1 hl
theorem j_callVi (hC : zC K l0 g cc nL own) (hE : zE K g nm ret L mc ms oc M9 S9 φ) {r : Int} (lk : zLkV own ix y cc2 nL2 ret2 n) (hd : decode cc pc = .ok (.invokevirtual ix, 3)) (ct : zMet l0 g y cc2 nL2 ret2 L2 mc2 ms2 av M S (.inl (some (.int (zi r)))) M1 S1 φ1) (As rest : List Value) {a ci : Nat} (hk : zkd S a = ci) (hc : ∃ r, vwCl[ci]? = some r ∧ ci < 20 ∧ r.1 = y.cls) (hst : st = As.reverse ++ zr g a :: rest) (hA : av = zr g a :: As) (hn : As.length = n) (hcat : (rest.map fun v => v.category).sum ≤ 8) (r1 : nL2 ≤ 100) (r2 : L2 + 1 ≤ L) (r3 : nc + mc2 ≤ mc) (r4 : ns + ms2 ≤ ms) (k : φ1 → zJ K g (nc + mc2) (ns + ms2) (pc + 3) nL lv (.int (zi r) :: rest) M1 S1) : zJ K g nc ns pc nL lv st M S := by
  obtain ⟨p, l, e, R, s, m, args, below, meth, c, Q⟩ := K
  obtain ⟨rfl, hx, hb, hml, hown, hts, hT, hO, hNw, hlk, htr⟩ := hC
  obtain ⟨hnm, hrt, rfl, rfl⟩ := hE
  subst hst
  intro H locs ls hR hS hl
  exact z_runV hx hb hml hown hts hNw hT hO hR hS hl lk hd ct hk hc hA hn hcat r1 r2 r3 r4 (fun E ce q9 H1 locs1 hoc => by cases hoc) (fun v H1 locs1 hoc hφ hR1 hS1 => by cases hoc; exact k hφ H1 locs1 ls hR1 hS1 hl)
theorem j_callXVi (hC : zC K l0 g cc nL own) (hE : zE K g nm ret L mc ms oc M9 S9 φ) (hN : zNt K) {r : Nat ⊕ Int} (lk : zLkV own ix y cc2 nL2 ret2 n) (hd : decode cc pc = .ok (.invokevirtual ix, 3)) (ct : zMet l0 g y cc2 nL2 ret2 L2 mc2 ms2 av M S (zOX zki r) M1 S1 φ1) (As rest : List Value) {a ci : Nat} (hk : zkd S a = ci) (hc : ∃ r, vwCl[ci]? = some r ∧ ci < 20 ∧ r.1 = y.cls) (hst : st = As.reverse ++ zr g a :: rest) (hA : av = zr g a :: As) (hn : As.length = n) (hcat : (rest.map fun v => v.category).sum ≤ 8) (r1 : nL2 ≤ 100) (r2 : L2 + 1 ≤ L) (r3 : nc + mc2 ≤ mc) (r4 : ns + ms2 ≤ ms)
    (kx : ∀ e9, r = .inl e9 → φ1 → oc = .inr (zEx e9) ∧ M1 = M9 ∧ S1 = S9 ∧ φ) (k : ∀ a9, r = .inr a9 → φ1 → zJ K g (nc + mc2) (ns + ms2) (pc + 3) nL lv (.int (zi a9) :: rest) M1 S1) : zJ K g nc ns pc nL lv st M S := by
  obtain ⟨p, l, e, R, s, m, args, below, meth, c, Q⟩ := K
  obtain ⟨rfl, hx, hb, hml, hown, hts, hT, hO, hNw, hlk, htr⟩ := hC
  obtain ⟨hnm, hrt, rfl, rfl⟩ := hE
  subst hst
  intro H locs ls hR hS hl
  refine z_runV hx hb hml hown hts hNw hT hO hR hS hl lk hd ct hk hc hA hn hcat r1 r2 r3 r4 (fun E ce q9 H1 locs1 hoc hφ hR1 hS1 hce hcv hcl => ?_) (fun v H1 locs1 hoc hφ hR1 hS1 => ?_)
  · rcases r with e9 | a9
    · obtain ⟨x1, rfl, rfl, x4⟩ := kx e9 rfl hφ
      cases hoc
      exact vx_out (fun x hx9 => (hN x hx9).elim) hlk hce hcv hcl (fun t ht hW => ⟨x1, x4, by rw [ht]; exact hR1, hS1.F ht⟩) hS1.2.2 r3 r4
    · cases hoc
  · rcases r with e9 | a9
    · cases hoc
    · cases hoc
      exact k a9 rfl hφ H1 locs1 ls hR1 hS1 hl
theorem j_callHVi (hC : zC K l0 g cc nL own) (hE : zE K g nm ret L mc ms oc M9 S9 φ) {r : Nat ⊕ Int} (lk : zLkV own ix y cc2 nL2 ret2 n) (hd : decode cc pc = .ok (.invokevirtual ix, 3)) (ct : zMet l0 g y cc2 nL2 ret2 L2 mc2 ms2 av M S (zOX zki r) M1 S1 φ1) (As rest : List Value) {a ci : Nat} (hk : zkd S a = ci) (hc : ∃ r, vwCl[ci]? = some r ∧ ci < 20 ∧ r.1 = y.cls) (hst : st = As.reverse ++ zr g a :: rest) (hA : av = zr g a :: As) (hn : As.length = n) (hcat : (rest.map fun v => v.category).sum ≤ 8) (r1 : nL2 ≤ 100) (r2 : L2 + 1 ≤ L) (r3 : nc + mc2 ≤ mc) (r4 : ns + ms2 ≤ ms)
    (kx : ∀ e9, r = .inl e9 → φ1 → zJx K g (nc + mc2) (ns + ms2) pc nL lv rest M1 S1 e9) (k : ∀ a9, r = .inr a9 → φ1 → zJ K g (nc + mc2) (ns + ms2) (pc + 3) nL lv (.int (zi a9) :: rest) M1 S1) : zJ K g nc ns pc nL lv st M S := by
  obtain ⟨p, l, e, R, s, m, args, below, meth, c, Q⟩ := K
  obtain ⟨rfl, hx, hb, hml, hown, hts, hT, hO, hNw, hlk, htr⟩ := hC
  obtain ⟨hnm, hrt, rfl, rfl⟩ := hE
  subst hst
  intro H locs ls hR hS hl
  refine z_runV hx hb hml hown hts hNw hT hO hR hS hl lk hd ct hk hc hA hn hcat r1 r2 r3 r4 (fun E ce q9 H1 locs1 hoc hφ hR1 hS1 hce hcv hcl => ?_) (fun v H1 locs1 hoc hφ hR1 hS1 => ?_)
  · rcases r with e9 | a9
    · cases hoc
      exact kx e9 rfl hφ H1 locs1 ls q9 ce hR1 hS1 hl hce hcv hcl
    · cases hoc
  · rcases r with e9 | a9
    · cases hoc
    · cases hoc
      exact k a9 rfl hφ H1 locs1 ls hR1 hS1 hl
theorem j_callVl (hC : zC K l0 g cc nL own) (hE : zE K g nm ret L mc ms oc M9 S9 φ) {r : Int} (lk : zLkV own ix y cc2 nL2 ret2 n) (hd : decode cc pc = .ok (.invokevirtual ix, 3)) (ct : zMet l0 g y cc2 nL2 ret2 L2 mc2 ms2 av M S (.inl (some (.long (zl r)))) M1 S1 φ1) (As rest : List Value) {a ci : Nat} (hk : zkd S a = ci) (hc : ∃ r, vwCl[ci]? = some r ∧ ci < 20 ∧ r.1 = y.cls) (hst : st = As.reverse ++ zr g a :: rest) (hA : av = zr g a :: As) (hn : As.length = n) (hcat : (rest.map fun v => v.category).sum ≤ 8) (r1 : nL2 ≤ 100) (r2 : L2 + 1 ≤ L) (r3 : nc + mc2 ≤ mc) (r4 : ns + ms2 ≤ ms) (k : φ1 → zJ K g (nc + mc2) (ns + ms2) (pc + 3) nL lv (.long (zl r) :: rest) M1 S1) : zJ K g nc ns pc nL lv st M S := by
  obtain ⟨p, l, e, R, s, m, args, below, meth, c, Q⟩ := K
  obtain ⟨rfl, hx, hb, hml, hown, hts, hT, hO, hNw, hlk, htr⟩ := hC
  obtain ⟨hnm, hrt, rfl, rfl⟩ := hE
  subst hst
  intro H locs ls hR hS hl
  exact z_runV hx hb hml hown hts hNw hT hO hR hS hl lk hd ct hk hc hA hn hcat r1 r2 r3 r4 (fun E ce q9 H1 locs1 hoc => by cases hoc) (fun v H1 locs1 hoc hφ hR1 hS1 => by cases hoc; exact k hφ H1 locs1 ls hR1 hS1 hl)
theorem j_callXVl (hC : zC K l0 g cc nL own) (hE : zE K g nm ret L mc ms oc M9 S9 φ) (hN : zNt K) {r : Nat ⊕ Int} (lk : zLkV own ix y cc2 nL2 ret2 n) (hd : decode cc pc = .ok (.invokevirtual ix, 3)) (ct : zMet l0 g y cc2 nL2 ret2 L2 mc2 ms2 av M S (zOX zkl r) M1 S1 φ1) (As rest : List Value) {a ci : Nat} (hk : zkd S a = ci) (hc : ∃ r, vwCl[ci]? = some r ∧ ci < 20 ∧ r.1 = y.cls) (hst : st = As.reverse ++ zr g a :: rest) (hA : av = zr g a :: As) (hn : As.length = n) (hcat : (rest.map fun v => v.category).sum ≤ 8) (r1 : nL2 ≤ 100) (r2 : L2 + 1 ≤ L) (r3 : nc + mc2 ≤ mc) (r4 : ns + ms2 ≤ ms)
    (kx : ∀ e9, r = .inl e9 → φ1 → oc = .inr (zEx e9) ∧ M1 = M9 ∧ S1 = S9 ∧ φ) (k : ∀ a9, r = .inr a9 → φ1 → zJ K g (nc + mc2) (ns + ms2) (pc + 3) nL lv (.long (zl a9) :: rest) M1 S1) : zJ K g nc ns pc nL lv st M S := by
  obtain ⟨p, l, e, R, s, m, args, below, meth, c, Q⟩ := K
  obtain ⟨rfl, hx, hb, hml, hown, hts, hT, hO, hNw, hlk, htr⟩ := hC
  obtain ⟨hnm, hrt, rfl, rfl⟩ := hE
  subst hst
  intro H locs ls hR hS hl
  refine z_runV hx hb hml hown hts hNw hT hO hR hS hl lk hd ct hk hc hA hn hcat r1 r2 r3 r4 (fun E ce q9 H1 locs1 hoc hφ hR1 hS1 hce hcv hcl => ?_) (fun v H1 locs1 hoc hφ hR1 hS1 => ?_)
  · rcases r with e9 | a9
    · obtain ⟨x1, rfl, rfl, x4⟩ := kx e9 rfl hφ
      cases hoc
      exact vx_out (fun x hx9 => (hN x hx9).elim) hlk hce hcv hcl (fun t ht hW => ⟨x1, x4, by rw [ht]; exact hR1, hS1.F ht⟩) hS1.2.2 r3 r4
    · cases hoc
  · rcases r with e9 | a9
    · cases hoc
    · cases hoc
      exact k a9 rfl hφ H1 locs1 ls hR1 hS1 hl
theorem j_callHVl (hC : zC K l0 g cc nL own) (hE : zE K g nm ret L mc ms oc M9 S9 φ) {r : Nat ⊕ Int} (lk : zLkV own ix y cc2 nL2 ret2 n) (hd : decode cc pc = .ok (.invokevirtual ix, 3)) (ct : zMet l0 g y cc2 nL2 ret2 L2 mc2 ms2 av M S (zOX zkl r) M1 S1 φ1) (As rest : List Value) {a ci : Nat} (hk : zkd S a = ci) (hc : ∃ r, vwCl[ci]? = some r ∧ ci < 20 ∧ r.1 = y.cls) (hst : st = As.reverse ++ zr g a :: rest) (hA : av = zr g a :: As) (hn : As.length = n) (hcat : (rest.map fun v => v.category).sum ≤ 8) (r1 : nL2 ≤ 100) (r2 : L2 + 1 ≤ L) (r3 : nc + mc2 ≤ mc) (r4 : ns + ms2 ≤ ms)
    (kx : ∀ e9, r = .inl e9 → φ1 → zJx K g (nc + mc2) (ns + ms2) pc nL lv rest M1 S1 e9) (k : ∀ a9, r = .inr a9 → φ1 → zJ K g (nc + mc2) (ns + ms2) (pc + 3) nL lv (.long (zl a9) :: rest) M1 S1) : zJ K g nc ns pc nL lv st M S := by
  obtain ⟨p, l, e, R, s, m, args, below, meth, c, Q⟩ := K
  obtain ⟨rfl, hx, hb, hml, hown, hts, hT, hO, hNw, hlk, htr⟩ := hC
  obtain ⟨hnm, hrt, rfl, rfl⟩ := hE
  subst hst
  intro H locs ls hR hS hl
  refine z_runV hx hb hml hown hts hNw hT hO hR hS hl lk hd ct hk hc hA hn hcat r1 r2 r3 r4 (fun E ce q9 H1 locs1 hoc hφ hR1 hS1 hce hcv hcl => ?_) (fun v H1 locs1 hoc hφ hR1 hS1 => ?_)
  · rcases r with e9 | a9
    · cases hoc
      exact kx e9 rfl hφ H1 locs1 ls q9 ce hR1 hS1 hl hce hcv hcl
    · cases hoc
  · rcases r with e9 | a9
    · cases hoc
    · cases hoc
      exact k a9 rfl hφ H1 locs1 ls hR1 hS1 hl
theorem j_callVd (hC : zC K l0 g cc nL own) (hE : zE K g nm ret L mc ms oc M9 S9 φ) {r : UInt64} (lk : zLkV own ix y cc2 nL2 ret2 n) (hd : decode cc pc = .ok (.invokevirtual ix, 3)) (ct : zMet l0 g y cc2 nL2 ret2 L2 mc2 ms2 av M S (.inl (some (.double r))) M1 S1 φ1) (As rest : List Value) {a ci : Nat} (hk : zkd S a = ci) (hc : ∃ r, vwCl[ci]? = some r ∧ ci < 20 ∧ r.1 = y.cls) (hst : st = As.reverse ++ zr g a :: rest) (hA : av = zr g a :: As) (hn : As.length = n) (hcat : (rest.map fun v => v.category).sum ≤ 8) (r1 : nL2 ≤ 100) (r2 : L2 + 1 ≤ L) (r3 : nc + mc2 ≤ mc) (r4 : ns + ms2 ≤ ms) (k : φ1 → zJ K g (nc + mc2) (ns + ms2) (pc + 3) nL lv (.double r :: rest) M1 S1) : zJ K g nc ns pc nL lv st M S := by
  obtain ⟨p, l, e, R, s, m, args, below, meth, c, Q⟩ := K
  obtain ⟨rfl, hx, hb, hml, hown, hts, hT, hO, hNw, hlk, htr⟩ := hC
  obtain ⟨hnm, hrt, rfl, rfl⟩ := hE
  subst hst
  intro H locs ls hR hS hl
  exact z_runV hx hb hml hown hts hNw hT hO hR hS hl lk hd ct hk hc hA hn hcat r1 r2 r3 r4 (fun E ce q9 H1 locs1 hoc => by cases hoc) (fun v H1 locs1 hoc hφ hR1 hS1 => by cases hoc; exact k hφ H1 locs1 ls hR1 hS1 hl)
theorem j_callXVd (hC : zC K l0 g cc nL own) (hE : zE K g nm ret L mc ms oc M9 S9 φ) (hN : zNt K) {r : Nat ⊕ UInt64} (lk : zLkV own ix y cc2 nL2 ret2 n) (hd : decode cc pc = .ok (.invokevirtual ix, 3)) (ct : zMet l0 g y cc2 nL2 ret2 L2 mc2 ms2 av M S (zOX zkd2 r) M1 S1 φ1) (As rest : List Value) {a ci : Nat} (hk : zkd S a = ci) (hc : ∃ r, vwCl[ci]? = some r ∧ ci < 20 ∧ r.1 = y.cls) (hst : st = As.reverse ++ zr g a :: rest) (hA : av = zr g a :: As) (hn : As.length = n) (hcat : (rest.map fun v => v.category).sum ≤ 8) (r1 : nL2 ≤ 100) (r2 : L2 + 1 ≤ L) (r3 : nc + mc2 ≤ mc) (r4 : ns + ms2 ≤ ms)
    (kx : ∀ e9, r = .inl e9 → φ1 → oc = .inr (zEx e9) ∧ M1 = M9 ∧ S1 = S9 ∧ φ) (k : ∀ a9, r = .inr a9 → φ1 → zJ K g (nc + mc2) (ns + ms2) (pc + 3) nL lv (.double a9 :: rest) M1 S1) : zJ K g nc ns pc nL lv st M S := by
  obtain ⟨p, l, e, R, s, m, args, below, meth, c, Q⟩ := K
  obtain ⟨rfl, hx, hb, hml, hown, hts, hT, hO, hNw, hlk, htr⟩ := hC
  obtain ⟨hnm, hrt, rfl, rfl⟩ := hE
  subst hst
  intro H locs ls hR hS hl
  refine z_runV hx hb hml hown hts hNw hT hO hR hS hl lk hd ct hk hc hA hn hcat r1 r2 r3 r4 (fun E ce q9 H1 locs1 hoc hφ hR1 hS1 hce hcv hcl => ?_) (fun v H1 locs1 hoc hφ hR1 hS1 => ?_)
  · rcases r with e9 | a9
    · obtain ⟨x1, rfl, rfl, x4⟩ := kx e9 rfl hφ
      cases hoc
      exact vx_out (fun x hx9 => (hN x hx9).elim) hlk hce hcv hcl (fun t ht hW => ⟨x1, x4, by rw [ht]; exact hR1, hS1.F ht⟩) hS1.2.2 r3 r4
    · cases hoc
  · rcases r with e9 | a9
    · cases hoc
    · cases hoc
      exact k a9 rfl hφ H1 locs1 ls hR1 hS1 hl
theorem j_callHVd (hC : zC K l0 g cc nL own) (hE : zE K g nm ret L mc ms oc M9 S9 φ) {r : Nat ⊕ UInt64} (lk : zLkV own ix y cc2 nL2 ret2 n) (hd : decode cc pc = .ok (.invokevirtual ix, 3)) (ct : zMet l0 g y cc2 nL2 ret2 L2 mc2 ms2 av M S (zOX zkd2 r) M1 S1 φ1) (As rest : List Value) {a ci : Nat} (hk : zkd S a = ci) (hc : ∃ r, vwCl[ci]? = some r ∧ ci < 20 ∧ r.1 = y.cls) (hst : st = As.reverse ++ zr g a :: rest) (hA : av = zr g a :: As) (hn : As.length = n) (hcat : (rest.map fun v => v.category).sum ≤ 8) (r1 : nL2 ≤ 100) (r2 : L2 + 1 ≤ L) (r3 : nc + mc2 ≤ mc) (r4 : ns + ms2 ≤ ms)
    (kx : ∀ e9, r = .inl e9 → φ1 → zJx K g (nc + mc2) (ns + ms2) pc nL lv rest M1 S1 e9) (k : ∀ a9, r = .inr a9 → φ1 → zJ K g (nc + mc2) (ns + ms2) (pc + 3) nL lv (.double a9 :: rest) M1 S1) : zJ K g nc ns pc nL lv st M S := by
  obtain ⟨p, l, e, R, s, m, args, below, meth, c, Q⟩ := K
  obtain ⟨rfl, hx, hb, hml, hown, hts, hT, hO, hNw, hlk, htr⟩ := hC
  obtain ⟨hnm, hrt, rfl, rfl⟩ := hE
  subst hst
  intro H locs ls hR hS hl
  refine z_runV hx hb hml hown hts hNw hT hO hR hS hl lk hd ct hk hc hA hn hcat r1 r2 r3 r4 (fun E ce q9 H1 locs1 hoc hφ hR1 hS1 hce hcv hcl => ?_) (fun v H1 locs1 hoc hφ hR1 hS1 => ?_)
  · rcases r with e9 | a9
    · cases hoc
      exact kx e9 rfl hφ H1 locs1 ls q9 ce hR1 hS1 hl hce hcv hcl
    · cases hoc
  · rcases r with e9 | a9
    · cases hoc
    · cases hoc
      exact k a9 rfl hφ H1 locs1 ls hR1 hS1 hl
theorem j_callVr (hC : zC K l0 g cc nL own) (hE : zE K g nm ret L mc ms oc M9 S9 φ) {r : Nat} (lk : zLkV own ix y cc2 nL2 ret2 n) (hd : decode cc pc = .ok (.invokevirtual ix, 3)) (ct : zMet l0 g y cc2 nL2 ret2 L2 mc2 ms2 av M S (.inl (some (zr g r))) M1 S1 φ1) (As rest : List Value) {a ci : Nat} (hk : zkd S a = ci) (hc : ∃ r, vwCl[ci]? = some r ∧ ci < 20 ∧ r.1 = y.cls) (hst : st = As.reverse ++ zr g a :: rest) (hA : av = zr g a :: As) (hn : As.length = n) (hcat : (rest.map fun v => v.category).sum ≤ 8) (r1 : nL2 ≤ 100) (r2 : L2 + 1 ≤ L) (r3 : nc + mc2 ≤ mc) (r4 : ns + ms2 ≤ ms) (k : φ1 → zJ K g (nc + mc2) (ns + ms2) (pc + 3) nL lv (zr g r :: rest) M1 S1) : zJ K g nc ns pc nL lv st M S := by
  obtain ⟨p, l, e, R, s, m, args, below, meth, c, Q⟩ := K
  obtain ⟨rfl, hx, hb, hml, hown, hts, hT, hO, hNw, hlk, htr⟩ := hC
  obtain ⟨hnm, hrt, rfl, rfl⟩ := hE
  subst hst
  intro H locs ls hR hS hl
  exact z_runV hx hb hml hown hts hNw hT hO hR hS hl lk hd ct hk hc hA hn hcat r1 r2 r3 r4 (fun E ce q9 H1 locs1 hoc => by cases hoc) (fun v H1 locs1 hoc hφ hR1 hS1 => by cases hoc; exact k hφ H1 locs1 ls hR1 hS1 hl)
theorem j_callXVr (hC : zC K l0 g cc nL own) (hE : zE K g nm ret L mc ms oc M9 S9 φ) (hN : zNt K) {r : Nat ⊕ Nat} (lk : zLkV own ix y cc2 nL2 ret2 n) (hd : decode cc pc = .ok (.invokevirtual ix, 3)) (ct : zMet l0 g y cc2 nL2 ret2 L2 mc2 ms2 av M S (zOX (zkr g) r) M1 S1 φ1) (As rest : List Value) {a ci : Nat} (hk : zkd S a = ci) (hc : ∃ r, vwCl[ci]? = some r ∧ ci < 20 ∧ r.1 = y.cls) (hst : st = As.reverse ++ zr g a :: rest) (hA : av = zr g a :: As) (hn : As.length = n) (hcat : (rest.map fun v => v.category).sum ≤ 8) (r1 : nL2 ≤ 100) (r2 : L2 + 1 ≤ L) (r3 : nc + mc2 ≤ mc) (r4 : ns + ms2 ≤ ms)
    (kx : ∀ e9, r = .inl e9 → φ1 → oc = .inr (zEx e9) ∧ M1 = M9 ∧ S1 = S9 ∧ φ) (k : ∀ a9, r = .inr a9 → φ1 → zJ K g (nc + mc2) (ns + ms2) (pc + 3) nL lv (zr g a9 :: rest) M1 S1) : zJ K g nc ns pc nL lv st M S := by
  obtain ⟨p, l, e, R, s, m, args, below, meth, c, Q⟩ := K
  obtain ⟨rfl, hx, hb, hml, hown, hts, hT, hO, hNw, hlk, htr⟩ := hC
  obtain ⟨hnm, hrt, rfl, rfl⟩ := hE
  subst hst
  intro H locs ls hR hS hl
  refine z_runV hx hb hml hown hts hNw hT hO hR hS hl lk hd ct hk hc hA hn hcat r1 r2 r3 r4 (fun E ce q9 H1 locs1 hoc hφ hR1 hS1 hce hcv hcl => ?_) (fun v H1 locs1 hoc hφ hR1 hS1 => ?_)
  · rcases r with e9 | a9
    · obtain ⟨x1, rfl, rfl, x4⟩ := kx e9 rfl hφ
      cases hoc
      exact vx_out (fun x hx9 => (hN x hx9).elim) hlk hce hcv hcl (fun t ht hW => ⟨x1, x4, by rw [ht]; exact hR1, hS1.F ht⟩) hS1.2.2 r3 r4
    · cases hoc
  · rcases r with e9 | a9
    · cases hoc
    · cases hoc
      exact k a9 rfl hφ H1 locs1 ls hR1 hS1 hl
theorem j_callHVr (hC : zC K l0 g cc nL own) (hE : zE K g nm ret L mc ms oc M9 S9 φ) {r : Nat ⊕ Nat} (lk : zLkV own ix y cc2 nL2 ret2 n) (hd : decode cc pc = .ok (.invokevirtual ix, 3)) (ct : zMet l0 g y cc2 nL2 ret2 L2 mc2 ms2 av M S (zOX (zkr g) r) M1 S1 φ1) (As rest : List Value) {a ci : Nat} (hk : zkd S a = ci) (hc : ∃ r, vwCl[ci]? = some r ∧ ci < 20 ∧ r.1 = y.cls) (hst : st = As.reverse ++ zr g a :: rest) (hA : av = zr g a :: As) (hn : As.length = n) (hcat : (rest.map fun v => v.category).sum ≤ 8) (r1 : nL2 ≤ 100) (r2 : L2 + 1 ≤ L) (r3 : nc + mc2 ≤ mc) (r4 : ns + ms2 ≤ ms)
    (kx : ∀ e9, r = .inl e9 → φ1 → zJx K g (nc + mc2) (ns + ms2) pc nL lv rest M1 S1 e9) (k : ∀ a9, r = .inr a9 → φ1 → zJ K g (nc + mc2) (ns + ms2) (pc + 3) nL lv (zr g a9 :: rest) M1 S1) : zJ K g nc ns pc nL lv st M S := by
  obtain ⟨p, l, e, R, s, m, args, below, meth, c, Q⟩ := K
  obtain ⟨rfl, hx, hb, hml, hown, hts, hT, hO, hNw, hlk, htr⟩ := hC
  obtain ⟨hnm, hrt, rfl, rfl⟩ := hE
  subst hst
  intro H locs ls hR hS hl
  refine z_runV hx hb hml hown hts hNw hT hO hR hS hl lk hd ct hk hc hA hn hcat r1 r2 r3 r4 (fun E ce q9 H1 locs1 hoc hφ hR1 hS1 hce hcv hcl => ?_) (fun v H1 locs1 hoc hφ hR1 hS1 => ?_)
  · rcases r with e9 | a9
    · cases hoc
      exact kx e9 rfl hφ H1 locs1 ls q9 ce hR1 hS1 hl hce hcv hcl
    · cases hoc
  · rcases r with e9 | a9
    · cases hoc
    · cases hoc
      exact k a9 rfl hφ H1 locs1 ls hR1 hS1 hl
theorem j_callVs (hC : zC K l0 g cc nL own) (hE : zE K g nm ret L mc ms oc M9 S9 φ) {r : Nat} (lk : zLkV own ix y cc2 nL2 ret2 n) (hd : decode cc pc = .ok (.invokevirtual ix, 3)) (ct : zMet l0 g y cc2 nL2 ret2 L2 mc2 ms2 av M S (.inl (some (.ref r))) M1 S1 φ1) (As rest : List Value) {a ci : Nat} (hk : zkd S a = ci) (hc : ∃ r, vwCl[ci]? = some r ∧ ci < 20 ∧ r.1 = y.cls) (hst : st = As.reverse ++ zr g a :: rest) (hA : av = zr g a :: As) (hn : As.length = n) (hcat : (rest.map fun v => v.category).sum ≤ 8) (r1 : nL2 ≤ 100) (r2 : L2 + 1 ≤ L) (r3 : nc + mc2 ≤ mc) (r4 : ns + ms2 ≤ ms) (k : φ1 → zJ K g (nc + mc2) (ns + ms2) (pc + 3) nL lv (.ref r :: rest) M1 S1) : zJ K g nc ns pc nL lv st M S := by
  obtain ⟨p, l, e, R, s, m, args, below, meth, c, Q⟩ := K
  obtain ⟨rfl, hx, hb, hml, hown, hts, hT, hO, hNw, hlk, htr⟩ := hC
  obtain ⟨hnm, hrt, rfl, rfl⟩ := hE
  subst hst
  intro H locs ls hR hS hl
  exact z_runV hx hb hml hown hts hNw hT hO hR hS hl lk hd ct hk hc hA hn hcat r1 r2 r3 r4 (fun E ce q9 H1 locs1 hoc => by cases hoc) (fun v H1 locs1 hoc hφ hR1 hS1 => by cases hoc; exact k hφ H1 locs1 ls hR1 hS1 hl)
theorem j_callVv (hC : zC K l0 g cc nL own) (hE : zE K g nm ret L mc ms oc M9 S9 φ)  (lk : zLkV own ix y cc2 nL2 ret2 n) (hd : decode cc pc = .ok (.invokevirtual ix, 3)) (ct : zMet l0 g y cc2 nL2 ret2 L2 mc2 ms2 av M S (.inl none) M1 S1 φ1) (As rest : List Value) {a ci : Nat} (hk : zkd S a = ci) (hc : ∃ r, vwCl[ci]? = some r ∧ ci < 20 ∧ r.1 = y.cls) (hst : st = As.reverse ++ zr g a :: rest) (hA : av = zr g a :: As) (hn : As.length = n) (hcat : (rest.map fun v => v.category).sum ≤ 8) (r1 : nL2 ≤ 100) (r2 : L2 + 1 ≤ L) (r3 : nc + mc2 ≤ mc) (r4 : ns + ms2 ≤ ms) (k : φ1 → zJ K g (nc + mc2) (ns + ms2) (pc + 3) nL lv rest M1 S1) : zJ K g nc ns pc nL lv st M S := by
  obtain ⟨p, l, e, R, s, m, args, below, meth, c, Q⟩ := K
  obtain ⟨rfl, hx, hb, hml, hown, hts, hT, hO, hNw, hlk, htr⟩ := hC
  obtain ⟨hnm, hrt, rfl, rfl⟩ := hE
  subst hst
  intro H locs ls hR hS hl
  exact z_runV hx hb hml hown hts hNw hT hO hR hS hl lk hd ct hk hc hA hn hcat r1 r2 r3 r4 (fun E ce q9 H1 locs1 hoc => by cases hoc) (fun v H1 locs1 hoc hφ hR1 hS1 => by cases hoc; exact k hφ H1 locs1 ls hR1 hS1 hl)
theorem j_callXVv (hC : zC K l0 g cc nL own) (hE : zE K g nm ret L mc ms oc M9 S9 φ) (hN : zNt K) {r : Nat ⊕ Unit} (lk : zLkV own ix y cc2 nL2 ret2 n) (hd : decode cc pc = .ok (.invokevirtual ix, 3)) (ct : zMet l0 g y cc2 nL2 ret2 L2 mc2 ms2 av M S (zOX zkv r) M1 S1 φ1) (As rest : List Value) {a ci : Nat} (hk : zkd S a = ci) (hc : ∃ r, vwCl[ci]? = some r ∧ ci < 20 ∧ r.1 = y.cls) (hst : st = As.reverse ++ zr g a :: rest) (hA : av = zr g a :: As) (hn : As.length = n) (hcat : (rest.map fun v => v.category).sum ≤ 8) (r1 : nL2 ≤ 100) (r2 : L2 + 1 ≤ L) (r3 : nc + mc2 ≤ mc) (r4 : ns + ms2 ≤ ms)
    (kx : ∀ e9, r = .inl e9 → φ1 → oc = .inr (zEx e9) ∧ M1 = M9 ∧ S1 = S9 ∧ φ) (k : ∀ a9, r = .inr a9 → φ1 → zJ K g (nc + mc2) (ns + ms2) (pc + 3) nL lv (rest) M1 S1) : zJ K g nc ns pc nL lv st M S := by
  obtain ⟨p, l, e, R, s, m, args, below, meth, c, Q⟩ := K
  obtain ⟨rfl, hx, hb, hml, hown, hts, hT, hO, hNw, hlk, htr⟩ := hC
  obtain ⟨hnm, hrt, rfl, rfl⟩ := hE
  subst hst
  intro H locs ls hR hS hl
  refine z_runV hx hb hml hown hts hNw hT hO hR hS hl lk hd ct hk hc hA hn hcat r1 r2 r3 r4 (fun E ce q9 H1 locs1 hoc hφ hR1 hS1 hce hcv hcl => ?_) (fun v H1 locs1 hoc hφ hR1 hS1 => ?_)
  · rcases r with e9 | a9
    · obtain ⟨x1, rfl, rfl, x4⟩ := kx e9 rfl hφ
      cases hoc
      exact vx_out (fun x hx9 => (hN x hx9).elim) hlk hce hcv hcl (fun t ht hW => ⟨x1, x4, by rw [ht]; exact hR1, hS1.F ht⟩) hS1.2.2 r3 r4
    · cases hoc
  · rcases r with e9 | a9
    · cases hoc
    · cases hoc
      exact k a9 rfl hφ H1 locs1 ls hR1 hS1 hl
theorem j_callHVv (hC : zC K l0 g cc nL own) (hE : zE K g nm ret L mc ms oc M9 S9 φ) {r : Nat ⊕ Unit} (lk : zLkV own ix y cc2 nL2 ret2 n) (hd : decode cc pc = .ok (.invokevirtual ix, 3)) (ct : zMet l0 g y cc2 nL2 ret2 L2 mc2 ms2 av M S (zOX zkv r) M1 S1 φ1) (As rest : List Value) {a ci : Nat} (hk : zkd S a = ci) (hc : ∃ r, vwCl[ci]? = some r ∧ ci < 20 ∧ r.1 = y.cls) (hst : st = As.reverse ++ zr g a :: rest) (hA : av = zr g a :: As) (hn : As.length = n) (hcat : (rest.map fun v => v.category).sum ≤ 8) (r1 : nL2 ≤ 100) (r2 : L2 + 1 ≤ L) (r3 : nc + mc2 ≤ mc) (r4 : ns + ms2 ≤ ms)
    (kx : ∀ e9, r = .inl e9 → φ1 → zJx K g (nc + mc2) (ns + ms2) pc nL lv rest M1 S1 e9) (k : ∀ a9, r = .inr a9 → φ1 → zJ K g (nc + mc2) (ns + ms2) (pc + 3) nL lv (rest) M1 S1) : zJ K g nc ns pc nL lv st M S := by
  obtain ⟨p, l, e, R, s, m, args, below, meth, c, Q⟩ := K
  obtain ⟨rfl, hx, hb, hml, hown, hts, hT, hO, hNw, hlk, htr⟩ := hC
  obtain ⟨hnm, hrt, rfl, rfl⟩ := hE
  subst hst
  intro H locs ls hR hS hl
  refine z_runV hx hb hml hown hts hNw hT hO hR hS hl lk hd ct hk hc hA hn hcat r1 r2 r3 r4 (fun E ce q9 H1 locs1 hoc hφ hR1 hS1 hce hcv hcl => ?_) (fun v H1 locs1 hoc hφ hR1 hS1 => ?_)
  · rcases r with e9 | a9
    · cases hoc
      exact kx e9 rfl hφ H1 locs1 ls q9 ce hR1 hS1 hl hce hcv hcl
    · cases hoc
  · rcases r with e9 | a9
    · cases hoc
    · cases hoc
      exact k a9 rfl hφ H1 locs1 ls hR1 hS1 hl
theorem j_callIv (hC : zC K l0 g cc nL own) (hE : zE K g nm ret L mc ms oc M9 S9 φ)  (lk : zLkI own ix y cc2 nL2 none n) (hd : decode cc pc = .ok (.invokespecial ix, 3)) (ct : zMet l0 g y cc2 nL2 none L2 mc2 ms2 av M S (.inl none) M1 S1 φ1) (As rest : List Value) {a : Nat} (hz : a ≠ 0) (hst : st = As.reverse ++ zr g a :: rest) (hA : av = zr g a :: As) (hn : As.length = n) (hcat : (rest.map fun v => v.category).sum ≤ 8) (r1 : nL2 ≤ 100) (r2 : L2 + 1 ≤ L) (r3 : nc + mc2 ≤ mc) (r4 : ns + ms2 ≤ ms) (k : φ1 → zJ K g (nc + mc2) (ns + ms2) (pc + 3) nL lv rest M1 S1) : zJ K g nc ns pc nL lv st M S := by
  obtain ⟨p, l, e, R, s, m, args, below, meth, c, Q⟩ := K
  obtain ⟨rfl, hx, hb, hml, hown, hts, hT, hO, hNw, hlk, htr⟩ := hC
  obtain ⟨hnm, hrt, rfl, rfl⟩ := hE
  subst hst
  intro H locs ls hR hS hl
  exact z_runI hx hb hml hown hts hNw hT hO hR hS hl lk hd ct hz hA hn hcat r1 r2 r3 r4 (fun E ce q9 H1 locs1 hoc => by cases hoc) (fun v H1 locs1 hoc hφ hR1 hS1 => by cases hoc; exact k hφ H1 locs1 ls hR1 hS1 hl)
theorem j_callINv (hC : zC K l0 g cc nL own) (hE : zE K g nm ret L mc ms oc M9 S9 φ)  (lk : zLkIN own ix y cc2 nL2 none n) (hd : decode cc pc = .ok (.invokespecial ix, 3)) (ct : zMet l0 g y cc2 nL2 none L2 mc2 ms2 av M S (.inl none) M1 S1 φ1) (As rest : List Value) {a : Nat} (hz : a ≠ 0) (hst : st = As.reverse ++ zr g a :: rest) (hA : av = zr g a :: As) (hn : As.length = n) (hcat : (rest.map fun v => v.category).sum ≤ 8) (r1 : nL2 ≤ 100) (r2 : L2 + 1 ≤ L) (r3 : nc + mc2 ≤ mc) (r4 : ns + ms2 ≤ ms) (k : φ1 → zJ K g (nc + mc2) (ns + ms2) (pc + 3) nL lv rest M1 S1) : zJ K g nc ns pc nL lv st M S := by
  obtain ⟨p, l, e, R, s, m, args, below, meth, c, Q⟩ := K
  obtain ⟨rfl, hx, hb, hml, hown, hts, hT, hO, hNw, hlk, htr⟩ := hC
  obtain ⟨hnm, hrt, rfl, rfl⟩ := hE
  subst hst
  intro H locs ls hR hS hl
  exact z_runIN hx hb hml hown hts hNw hT hO hR hS hl lk hd ct hz hA hn hcat r1 r2 r3 r4 (fun E ce q9 H1 locs1 hoc => by cases hoc) (fun v H1 locs1 hoc hφ hR1 hS1 => by cases hoc; exact k hφ H1 locs1 ls hR1 hS1 hl)
end ZJ5
