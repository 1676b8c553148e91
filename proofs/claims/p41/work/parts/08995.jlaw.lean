/-! THE LAW'S SCRIPT; doubles compared -/
def zscr (xs : Nat → Int32) (i : Int) : Int := (xs i.toNat).toInt
theorem cR_zscr (xs : Nat → Int32) (i : Int) : inR (zscr xs i) := inR_i _
def zdcl (x y : UInt64) : Int := (Op.cmpValue (FP.dcmp x y) .l).toInt
theorem cR_zdcl (x y : UInt64) : inR (zdcl x y) := inR_i _
section ZJ20
variable {K : zK} {l0 : Launch} {g : zG} {cc : ByteArray} {nL nc ns pc : Nat} {own : String} {lv lv1 : List (Nat × Value)} {rest : List Value} {M M1 : zM} {S S1 : zS}
theorem j_scln (hC : zC K l0 g cc nL own) {ln : Int} (hln : ln = (zgL g : Int)) (hd : decode cc pc = .ok (.arraylength, 1)) (k : zJ K g nc ns (pc + 1) nL lv (.int (zi ln) :: rest) M S) : zJ K g nc ns pc nL lv (.ref (zgb g) :: rest) M S := by
  obtain ⟨p, l, e, R, s, m, args, below, meth, c, Q⟩ := K
  obtain ⟨rfl, hx, hb, hml, hown, hts, hT, hO, hNw, hlk, htr⟩ := hC
  obtain ⟨x1, x2, x3, -⟩ := hO.2.2.2.2.2.2.2.2.2.2.2.2.2.2
  subst hln
  intro H locs ls hR hS hl
  exact va_slen hx hb x1 x2 x3 hS hd (k H locs ls hR hS hl)
theorem j_scld (hC : zC K l0 g cc nL own) {ln i i1 : Int} (hln : ln = (zgL g : Int)) (hd : decode cc pc = .ok (.iaload, 1)) (hi : w i = i1) (h0 : 0 ≤ i1) (h1 : i1 < ln) (k : zJ K g nc ns (pc + 1) nL lv (.int (zi (zscr (zgx g) i1)) :: rest) M S) : zJ K g nc ns pc nL lv (.int (zi i) :: .ref (zgb g) :: rest) M S := by
  obtain ⟨p, l, e, R, s, m, args, below, meth, c, Q⟩ := K
  obtain ⟨rfl, hx, hb, hml, hown, hts, hT, hO, hNw, hlk, htr⟩ := hC
  obtain ⟨x1, x2, x3, -⟩ := hO.2.2.2.2.2.2.2.2.2.2.2.2.2.2
  subst hln
  intro H locs ls hR hS hl
  subst hi
  have hin : vp_in (zi i) (zgL g) := vp_in_iff.mpr ⟨h0, h1⟩
  refine va_sld hx hb x1 x2 x3 hS hin hd ?_
  have k9 := k H locs ls hR hS hl
  unfold zscr at k9
  rw [zi_asI] at k9
  exact k9
theorem j_dcmpl (hC : zC K l0 g cc nL own) {x y : UInt64} (hd : decode cc pc = .ok (.dcmp .l, 1)) (k : zJ K g nc ns (pc + 1) nL lv (.int (zi (zdcl x y)) :: rest) M S) : zJ K g nc ns pc nL lv (.double y :: .double x :: rest) M S := by
  obtain ⟨p, l, e, R, s, m, args, below, meth, c, Q⟩ := K
  obtain ⟨rfl, hx, hb, hml, hown, hts, hT, hO, hNw, hlk, htr⟩ := hC
  exact fun H locs ls hR hS hl => lv_dcmp hx hb hd (by have k9 := k H locs ls hR hS hl; unfold zdcl at k9; rw [zi_asI] at k9; exact k9)
end ZJ20
abbrev zd1 : UInt64 := FP.dconst1
