/-! POWERS, Math, Object's constructor, what is new, what is thrown -/
theorem zX_pow {g : zG} {s : State} {H : Heap} {locs : List Loc} (hO : zO g s) (hS : va_S (zA g) s.heap H locs) : zk g 0 < s.heap.size ∧ ¬ zA g (zk g 0) := ⟨hO.2.2.1, Nat.not_lt.mpr hO.2.2.2.1⟩
section ZJ6
variable {K : zK} {l0 : Launch} {g : zG} {cc : ByteArray} {nL nc ns pc : Nat} {own : String} {lv lv1 : List (Nat × Value)} {rest : List Value} {M M1 : zM} {S S1 : zS}
variable {nm : String} {ret : Option FieldType} {L mc ms : Nat} {oc : Option Value ⊕ String} {M9 : zM} {S9 : zS} {φ φ1 : Prop}
theorem j_gets (hC : zC K l0 g cc nL own) {ix : Nat} (hd : decode cc pc = .ok (.getstatic ix, 3)) (hw : Cond.fieldLink own ix "ContextualGrammarLab$Words" "POWERS" "[I" ∈ zTs) (k : zJ K g nc ns (pc + 3) nL lv (.ref (zk g 0) :: rest) M S) : zJ K g nc ns pc nL lv rest M S := by
  obtain ⟨p, l, e, R, s, m, args, below, meth, c, Q⟩ := K
  obtain ⟨rfl, hx, hb, hml, hown, hts, hT, hO, hNw, hlk, htr⟩ := hC

  intro H locs ls hR hS hl
  exact va_gets hx hb hO.1 hS hown (hts _ hw) (fun _ h => h) hd (k H locs ls hR hS hl)
theorem j_powln (hC : zC K l0 g cc nL own) (hd : decode cc pc = .ok (.arraylength, 1)) (k : zJ K g nc ns (pc + 1) nL lv (.int (zi 10) :: rest) M S) : zJ K g nc ns pc nL lv (.ref (zk g 0) :: rest) M S := by
  obtain ⟨p, l, e, R, s, m, args, below, meth, c, Q⟩ := K
  obtain ⟨rfl, hx, hb, hml, hown, hts, hT, hO, hNw, hlk, htr⟩ := hC

  intro H locs ls hR hS hl
  exact va_tlen hx hb hO.2.1 hS (show Int32.ofNat 10 = zi 10 by decide +kernel) hd (k H locs ls hR hS hl)
theorem j_powld (hC : zC K l0 g cc nL own) {i i1 : Int} (hd : decode cc pc = .ok (.iaload, 1)) (hi : w i = i1) (h0 : 0 ≤ i1) (h1 : i1 < 10) (k : zJ K g nc ns (pc + 1) nL lv (.int (zi (zpow i1)) :: rest) M S) : zJ K g nc ns pc nL lv (.int (zi i) :: .ref (zk g 0) :: rest) M S := by
  obtain ⟨p, l, e, R, s, m, args, below, meth, c, Q⟩ := K
  obtain ⟨rfl, hx, hb, hml, hown, hts, hT, hO, hNw, hlk, htr⟩ := hC

  intro H locs ls hR hS hl
  subst hi
  have hcl : (zi i).toNatClampNeg = (w i).toNat := rfl
  have hin : vp_in (zi i) 10 := vp_in_iff.mpr ⟨h0, h1⟩
  refine va_ti hx hb hO.2.1 hS hin rfl hd ?_
  have k9 := k H locs ls hR hS hl
  unfold zpow at k9
  rw [zi_asI] at k9
  exact k9
theorem j_objI (hC : zC K l0 g cc nL own) (hE : zE K g nm ret L mc ms oc M9 S9 φ) {a ix : Nat} (hd : decode cc pc = .ok (.invokespecial ix, 3)) (hw : Cond.methodLink own ix objectInit ∈ zTs) (hi : Cond.instanceMethod objectInit ∈ zTs) (hc : Cond.code objectInit ⟨#[0xb1]⟩ 1 none ∈ zTs) (hz : ¬ a = 0) (hcat : rest.length ≤ 4) (hL : 1 ≤ L) (k : zJ K g nc ns (pc + 3) nL lv rest M S) : zJ K g nc ns pc nL lv (zr g a :: rest) M S := by
  obtain ⟨p, l, e, R, s, m, args, below, meth, c, Q⟩ := K
  obtain ⟨rfl, hx, hb, hml, hown, hts, hT, hO, hNw, hlk, htr⟩ := hC
  obtain ⟨hnm, hrt, rfl, rfl⟩ := hE
  intro H locs ls hR hS hl
  rw [zr_nz hz]
  have h8 := zcat hcat
  exact W.objInit hx hb hown (hts _ hw) (hts _ hi) (hts _ hc) rfl (hl.1.trans hml.symm) rfl hd (show 1 ≤ 8 * L by omega) (show 2 * 0 + _ + 12 ≤ 128 * L by omega) (k H locs ls hR hS hl)
theorem j_mmax (hC : zC K l0 g cc nL own) (hE : zE K g nm ret L mc ms oc M9 S9 φ) {a b a1 b1 : Int} {ix : Nat} (lk : Cond.methodLink own ix Lib.Math.max.name ∈ zTs ∧ Cond.static Lib.Math.max.name ∈ zTs ∧ Cond.initialized "java/lang/Math" ∈ zTs ∧ Cond.code Lib.Math.max.name Lib.Math.max.code 2 (some .int) ∈ zTs) (hd : decode cc pc = .ok (.invokestatic ix, 3)) (ha : w a = a1) (hb2 : w b = b1) (hcat : rest.length ≤ 4) (hL : 1 ≤ L) (hc : nc ≤ mc) (hs : ns ≤ ms) (k : zJ K g nc ns (pc + 3) nL lv (.int (zi (zmax a1 b1)) :: rest) M S) : zJ K g nc ns pc nL lv (.int (zi b) :: .int (zi a) :: rest) M S := by
  obtain ⟨p, l, e, R, s, m, args, below, meth, c, Q⟩ := K
  obtain ⟨rfl, hx, hb, hml, hown, hts, hT, hO, hNw, hlk, htr⟩ := hC
  obtain ⟨hnm, hrt, rfl, rfl⟩ := hE
  intro H locs ls hR hS hl
  subst ha; subst hb2
  have h8 := zcat hcat
  refine va_mmax hx hb (hml.trans hl.1.symm) hown (hts _ lk.1) (hts _ lk.2.1) (hts _ lk.2.2.1) (hts _ lk.2.2.2) (show 1 ≤ 8 * L by omega) (show _ + 13 ≤ 128 * L by omega) hc hs hd ?_
  have k9 := k H locs ls hR hS hl
  have e9 : (if zi a < zi b then zi b else zi a) = zi (zmax (w a) (w b)) := by
    unfold zmax
    by_cases h : zi a < zi b
    · rw [if_pos h, if_pos ((zi_ltw _ _).mp h), zi_w]
    · rw [if_neg h, if_neg (fun q => h ((zi_ltw _ _).mpr q)), zi_w]
  rw [e9]
  exact k9
theorem j_mmin (hC : zC K l0 g cc nL own) (hE : zE K g nm ret L mc ms oc M9 S9 φ) {a b a1 b1 : Int} {ix : Nat} (lk : Cond.methodLink own ix Lib.Math.min.name ∈ zTs ∧ Cond.static Lib.Math.min.name ∈ zTs ∧ Cond.initialized "java/lang/Math" ∈ zTs ∧ Cond.code Lib.Math.min.name Lib.Math.min.code 2 (some .int) ∈ zTs) (hd : decode cc pc = .ok (.invokestatic ix, 3)) (ha : w a = a1) (hb2 : w b = b1) (hcat : rest.length ≤ 4) (hL : 1 ≤ L) (hc : nc ≤ mc) (hs : ns ≤ ms) (k : zJ K g nc ns (pc + 3) nL lv (.int (zi (zmin a1 b1)) :: rest) M S) : zJ K g nc ns pc nL lv (.int (zi b) :: .int (zi a) :: rest) M S := by
  obtain ⟨p, l, e, R, s, m, args, below, meth, c, Q⟩ := K
  obtain ⟨rfl, hx, hb, hml, hown, hts, hT, hO, hNw, hlk, htr⟩ := hC
  obtain ⟨hnm, hrt, rfl, rfl⟩ := hE
  intro H locs ls hR hS hl
  subst ha; subst hb2
  have h8 := zcat hcat
  refine va_mmin hx hb (hml.trans hl.1.symm) hown (hts _ lk.1) (hts _ lk.2.1) (hts _ lk.2.2.1) (hts _ lk.2.2.2) (show 1 ≤ 8 * L by omega) (show _ + 13 ≤ 128 * L by omega) hc hs hd ?_
  have k9 := k H locs ls hR hS hl
  have e9 : (if zi b < zi a then zi b else zi a) = zi (zmin (w a) (w b)) := by
    unfold zmin
    by_cases h : zi b < zi a
    · rw [if_pos h, if_pos ((zi_ltw _ _).mp h), zi_w]
    · rw [if_neg h, if_neg (fun q => h ((zi_ltw _ _).mpr q)), zi_w]
  rw [e9]
  exact k9
end ZJ6
