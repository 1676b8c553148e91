noncomputable section
/-! functions of a reader of texts, as plain functions over numbers: the proof of the reading holds the class against them; no machine runs them here -/
def F_X11_isIn_J14 : Option (Int) :=
  some 0
def F_X11_isIn (v0 : Int) (v1 : Int) (v2 : Int) : Option (Int) :=
  if v0 < v1 then (F_X11_isIn_J14) else (if v2 < v0 then (F_X11_isIn_J14) else (some 1))
def F_X11_fail (v1 : Int) (M : zM) : Option (Int × zM) :=
  zlet (zs M 48 0 v1) fun M1 => ( some (0, M1))
def F_X11_power_J19 (v1 : Int) : Option (Int) :=
  some v1
def F_X11_power_B4 (v0 : Int) (v1 : Int) (v2 : Int) : Option ((Int × Int) ⊕ (Int)) :=
  if v2 < v0 then (zlet (w (v1 * 3)) fun x2 => ( zlet (w (v2 + 1)) fun x3 => ( some (.inl (x2, x3))))) else (some (.inr v1))
def F_X11_power_L4 (v0 : Int) (v1 : Int) (v2 : Int) : Option (Int) :=
  zb1 (zloop (fun (s : Int × Int) => F_X11_power_B4 v0 s.1 s.2) zN (v1, v2)) (fun (e : Int) => F_X11_power_J19 e)
def F_X11_power (v0 : Int) : Option (Int) :=
  F_X11_power_L4 v0 1 0
def F_X11_first (v0 : Int) : Option (Int) :=
  zb1 (F_X11_power v0) fun r1 => ( some (zdiv (r1 - 1) 2))
def F_X11_lengthOf_J18 (v1 : Int) : Option (Int) :=
  some v1
def F_X11_lengthOf_B2 (v0 : Int) (v1 : Int) : Option ((Int) ⊕ (Int)) :=
  zb1 (F_X11_first (w (v1 + 1))) fun r1 => ( if v0 < r1 then (some (.inr v1)) else (zlet (w (v1 + 1)) fun x4 => ( some (.inl x4))))
def F_X11_lengthOf_L2 (v0 : Int) (v1 : Int) : Option (Int) :=
  zb1 (zloop (fun (s : Int) => F_X11_lengthOf_B2 v0 s) zN v1) (fun (e : Int) => F_X11_lengthOf_J18 e)
def F_X11_lengthOf (v0 : Int) : Option (Int) :=
  F_X11_lengthOf_L2 v0 0
def F_X11_joined (v0 : Int) (v1 : Int) : Option (Int) :=
  zb1 (F_X11_lengthOf v0) fun r1 => ( zb1 (F_X11_lengthOf v1) fun r3 => ( zb1 (F_X11_first (w (r1 + r3))) fun r5 => ( zb1 (F_X11_first r1) fun r7 => ( zb1 (F_X11_power r3) fun r9 => ( zb1 (F_X11_first r3) fun r11 => ( some (w (((r5 + ((v0 - r7) * r9)) + v1) - r11))))))))
def F_X11_sign (M : zM) : Option (Int) :=
  if (M 48 13) < (M 48 12) then (zchk ((0 : Int) ≤ (M 48 13) ∧ (M 48 13) < 60) ( some (M 54 (M 48 13)))) else (some (-1))
def F_X11_goes_J35 (v2 : Int) (t1 : Int) (t2 : Int) (M : zM) : Option (Int × zM) :=
  zlet (zs M 48 13 (w (t1 + t2))) fun M1 => ( zchk ((0 : Int) ≤ v2 ∧ (v2 : Int) ≤ 1) ( some (v2, M1)))
def F_X11_goes_J20 (t0 : Int) (M : zM) : Option (Int × zM) :=
  if t0 = 0 then (F_X11_goes_J35 t0 (M 48 13) 0 M) else (F_X11_goes_J35 t0 (M 48 13) 1 M)
def F_X11_goes_J19 (M : zM) : Option (Int × zM) :=
  F_X11_goes_J20 0 M
def F_X11_goes (v1 : Int) (M : zM) : Option (Int × zM) :=
  if (M 48 14) < 0 then (zb1 (F_X11_sign M) fun r7 => ( if r7 = v1 then (F_X11_goes_J20 1 M) else (F_X11_goes_J19 M))) else (F_X11_goes_J19 M)
def F_X11_expect (v1 : Int) (M : zM) : Option (zM) :=
  zb2 (F_X11_goes v1 M) fun r1 M2 => ( if r1 = 0 then (if (M2 48 14) < 0 then (zlet (zs M2 48 14 (M2 48 13)) fun M8 => ( some M8)) else (some M2)) else (some M2))
def F_X11_isLetter_J25 (M : zM) : Option (Int) :=
  some 0
def F_X11_isLetter (M : zM) : Option (Int) :=
  if (M 48 14) < 0 then (zb1 (F_X11_sign M) fun r3 => ( zb1 (F_X11_isIn r3 97 99) fun r5 => ( if r5 = 0 then (F_X11_isLetter_J25 M) else (some 1)))) else (F_X11_isLetter_J25 M)
def F_X11_readWord_J48 (v1 : Int) (v3 : Int) (v4 : Int) (M : zM) : Option (Int × zM) :=
  if v4 < v1 then (if (M 48 14) < 0 then (zlet (zs M 48 14 (M 48 13)) fun M5 => ( some (v3, M5))) else (some (v3, M))) else (some (v3, M))
def F_X11_readWord_B5 (v1 : Int) (v2 : Int) (v3 : Int) (v4 : Int) (M : zM) : Option ((Int × Int × zM) ⊕ (Int × Int × zM)) :=
  if v4 < v2 then (zb1 (F_X11_isLetter M) fun r7 => ( if r7 = 0 then (some (.inr (v3, v4, M))) else (zb1 (F_X11_sign M) fun r10 => ( zb1 (F_X11_joined v3 (w ((1 + r10) - 97))) fun r12 => ( zlet (w (v4 + 1)) fun x14 => ( zlet (zs M 48 13 (w ((M 48 13) + 1))) fun M16 => ( some (.inl (r12, x14, M16))))))))) else (some (.inr (v3, v4, M)))
def F_X11_readWord_L5 (v1 : Int) (v2 : Int) (v3 : Int) (v4 : Int) (M : zM) : Option (Int × zM) :=
  zb1 (zloop (fun (s : Int × Int × zM) => F_X11_readWord_B5 v1 v2 s.1 s.2.1 s.2.2) zN (v3, v4, M)) (fun (e : Int × Int × zM) => F_X11_readWord_J48 v1 e.1 e.2.1 e.2.2)
def F_X11_readWord (v1 : Int) (v2 : Int) (M : zM) : Option (Int × zM) :=
  F_X11_readWord_L5 v1 v2 0 0 M
def F_X11_put (v1 : Int) (M : zM) : Option (zM) :=
  if (M 48 14) < 0 then (zchk ((0 : Int) ≤ (M 48 17) ∧ (M 48 17) < 60) ( zlet (zs M 55 (M 48 17) v1) fun M5 => ( zlet (zs M5 48 17 (w ((M5 48 17) + 1))) fun M7 => ( some M7)))) else (some M)
def F_X11_opens_J26 (M : zM) : Option (zM) :=
  zlet (zs M 48 15 (w ((M 48 15) + 1))) fun M2 => ( some M2)
def F_X11_opens (M : zM) : Option (zM) :=
  if (M 48 15) = 6 then (if (M 48 14) < 0 then (zlet (zs M 48 14 (w ((M 48 13) - 1))) fun M8 => ( F_X11_opens_J26 M8)) else (F_X11_opens_J26 M)) else (F_X11_opens_J26 M)
def F_X11_readDigit_J67 (v2 : Int) (t1 : Int) (t2 : Int) (M : zM) : Option (Int × zM) :=
  zlet (zs M 48 13 (w (t1 + t2))) fun M1 => ( some (v2, M1))
def F_X11_readDigit_J49 (t0 : Int) (M : zM) : Option (Int × zM) :=
  if (M 48 14) < 0 then (F_X11_readDigit_J67 t0 (M 48 13) 1 M) else (F_X11_readDigit_J67 t0 (M 48 13) 0 M)
def F_X11_readDigit_J31 (M : zM) : Option (Int × zM) :=
  if (M 48 14) < 0 then (zb1 (F_X11_sign M) fun r7 => ( F_X11_readDigit_J49 (w (r7 - 48)) M)) else (F_X11_readDigit_J49 0 M)
def F_X11_readDigit (v1 : Int) (M : zM) : Option (Int × zM) :=
  if (M 48 14) < 0 then (zb1 (F_X11_sign M) fun r11 => ( zb1 (F_X11_isIn r11 (w (48 + v1)) 57) fun r13 => ( if r13 = 0 then (zlet (zs M 48 14 (M 48 13)) fun M17 => ( F_X11_readDigit_J31 M17)) else (F_X11_readDigit_J31 M)))) else (F_X11_readDigit_J31 M)
def F_X11_readComparison_J90 (v1 : Int) (v2 : Int) (M : zM) : Option (zM) :=
  zb2 (F_X11_readDigit 0 M) fun r1 M2 => ( zb1 (F_X11_put (w (((1000 + (100 * v1)) + (10 * v2)) + r1)) M2) fun M4 => ( some M4))
def F_X11_readComparison_J78 (v1 : Int) (t0 : Int) (M : zM) : Option (zM) :=
  if t0 = 2 then (zb1 (F_X11_expect 62 M) fun M7 => ( F_X11_readComparison_J90 v1 t0 M7)) else (F_X11_readComparison_J90 v1 t0 M)
def F_X11_readComparison_J51 (v1 : Int) (M : zM) : Option (zM) :=
  zb2 (F_X11_goes 60 M) fun r9 M10 => ( if r9 = 0 then (zb2 (F_X11_goes 61 M10) fun r13 M14 => ( if r13 = 0 then (F_X11_readComparison_J78 v1 2 M14) else (F_X11_readComparison_J78 v1 1 M14))) else (F_X11_readComparison_J78 v1 0 M10))
def F_X11_readComparison_J36 (v1 : Int) (t1 : Int) (t2 : Int) (M : zM) : Option (zM) :=
  zlet (zs M 48 13 (w (t1 + t2))) fun M17 => ( if v1 = 3 then (zb1 (F_X11_expect 35 M17) fun M19 => ( F_X11_readComparison_J51 v1 M19)) else (F_X11_readComparison_J51 v1 M17))
def F_X11_readComparison_J18 (t0 : Int) (M : zM) : Option (zM) :=
  zb1 (F_X11_isLetter M) fun r22 => ( if r22 = 0 then (F_X11_readComparison_J36 t0 (M 48 13) 0 M) else (F_X11_readComparison_J36 t0 (M 48 13) 1 M))
def F_X11_readComparison (M : zM) : Option (zM) :=
  zb1 (F_X11_isLetter M) fun r25 => ( if r25 = 0 then (F_X11_readComparison_J18 3 M) else (zb1 (F_X11_sign M) fun r28 => ( F_X11_readComparison_J18 (w (r28 - 97)) M)))
def F_X11_readOne (rc : Nat → zM → Option (zM)) (M : zM) : Option (zM) :=
  zb2 (F_X11_goes 33 M) fun r1 M2 => ( if r1 = 0 then (zb2 (F_X11_goes 40 M2) fun r5 M6 => ( if r5 = 0 then (zb2 (F_X11_goes 42 M6) fun r9 M10 => ( if r9 = 0 then (zb2 (F_X11_goes 94 M10) fun r13 M14 => ( if r13 = 0 then (zb2 (F_X11_goes 36 M14) fun r17 M18 => ( if r17 = 0 then (zb2 (F_X11_goes 126 M18) fun r21 M22 => ( if r21 = 0 then (zb1 (F_X11_readComparison M22) fun M25 => ( some M25)) else (zb2 (F_X11_readWord 1 3 M22) fun r27 M28 => ( zb1 (F_X11_put (w (5200 + r27)) M28) fun M30 => ( some M30))))) else (zb2 (F_X11_readWord 1 3 M18) fun r32 M33 => ( zb1 (F_X11_put (w (5100 + r32)) M33) fun M35 => ( some M35))))) else (zb2 (F_X11_readWord 1 3 M14) fun r37 M38 => ( zb1 (F_X11_put (w (5000 + r37)) M38) fun M40 => ( some M40))))) else (zb1 (F_X11_put 1 M10) fun M42 => ( some M42)))) else (zb1 (F_X11_opens M6) fun M44 => ( zb1 (rc 0 M44) fun M46 => ( zb1 (F_X11_expect 41 M46) fun M48 => ( zlet (zs M48 48 15 (w ((M48 48 15) - 1))) fun M51 => ( some M51))))))) else (zb1 (F_X11_opens M2) fun M52 => ( zb1 (rc 2 M52) fun M54 => ( zlet (zs M54 48 15 (w ((M54 48 15) - 1))) fun M57 => ( zb1 (F_X11_put 2 M57) fun M58 => ( some M58))))))
def F_X11_readAll_J25 (rc : Nat → zM → Option (zM)) (M : zM) : Option (zM) :=
  some M
def F_X11_readAll_B4 (rc : Nat → zM → Option (zM)) (M : zM) : Option ((zM) ⊕ (zM)) :=
  zb2 (F_X11_goes 38 M) fun r1 M2 => ( if r1 = 0 then (some (.inr M2)) else (zb1 (rc 2 M2) fun M5 => ( zb1 (F_X11_put 3 M5) fun M7 => ( some (.inl M7)))))
def F_X11_readAll_L4 (rc : Nat → zM → Option (zM)) (M : zM) : Option (zM) :=
  zb1 (zloop (fun (s : zM) => F_X11_readAll_B4 rc s) zN M) (fun (e : zM) => F_X11_readAll_J25 rc e)
def F_X11_readAll (rc : Nat → zM → Option (zM)) (M : zM) : Option (zM) :=
  zb1 (rc 2 M) fun M9 => ( F_X11_readAll_L4 rc M9)
def F_X11_readSelector_J25 (rc : Nat → zM → Option (zM)) (M : zM) : Option (zM) :=
  some M
def F_X11_readSelector_B4 (rc : Nat → zM → Option (zM)) (M : zM) : Option ((zM) ⊕ (zM)) :=
  zb2 (F_X11_goes 124 M) fun r1 M2 => ( if r1 = 0 then (some (.inr M2)) else (zb1 (rc 1 M2) fun M5 => ( zb1 (F_X11_put 4 M5) fun M7 => ( some (.inl M7)))))
def F_X11_readSelector_L4 (rc : Nat → zM → Option (zM)) (M : zM) : Option (zM) :=
  zb1 (zloop (fun (s : zM) => F_X11_readSelector_B4 rc s) zN M) (fun (e : zM) => F_X11_readSelector_J25 rc e)
def F_X11_readSelector (rc : Nat → zM → Option (zM)) (M : zM) : Option (zM) :=
  zb1 (rc 1 M) fun M9 => ( F_X11_readSelector_L4 rc M9)
def F_GQ (n : Nat) (k : Nat) (M : zM) : Option (zM) := match n with
  | 0 => none
  | n + 1 => if k = 0 then F_X11_readSelector (F_GQ n) M else if k = 1 then F_X11_readAll (F_GQ n) M else F_X11_readOne (F_GQ n) M
def F_X11_ernal (v0 : Int) : Option (Int) :=
  if v0 = 0 then (some 101) else (if v0 = 1 then (some 114) else (if v0 = 2 then (some 110) else (if v0 = 3 then (some 97) else (some 108))))
def F_X11_imal (v0 : Int) : Option (Int) :=
  if v0 = 0 then (some 105) else (if v0 = 1 then (some 109) else (if v0 = 2 then (some 97) else (some 108)))
def F_X11_nameAt (v0 : Int) (v1 : Int) : Option (Int) :=
  if v0 = 0 then (if v1 = 0 then (some 97) else (if v1 = 1 then (some 120) else (if v1 = 2 then (some 105) else (if v1 = 3 then (some 111) else (if v1 = 4 then (some 109) else (some 0)))))) else (if v0 = 1 then (if v1 = 0 then (some 99) else (if v1 = 1 then (some 111) else (if v1 = 2 then (some 110) else (if v1 = 3 then (some 116) else (if v1 = 4 then (some 101) else (if v1 = 5 then (some 120) else (if v1 = 6 then (some 116) else (some 0)))))))) else (if v0 = 2 then (if v1 = 0 then (some 109) else (if v1 = 1 then (some 111) else (if v1 = 2 then (some 100) else (if v1 = 3 then (some 101) else (some 0))))) else (if v0 = 3 then (if v1 = 0 then (some 108) else (if v1 = 1 then (some 105) else (if v1 = 2 then (some 109) else (if v1 = 3 then (some 105) else (if v1 = 4 then (some 116) else (some 0)))))) else (if v0 = 4 then (if v1 < 2 then (if v1 = 0 then (some 101) else (some 120)) else (if v1 = 2 then (some 116) else (if v1 < 8 then (zb1 (F_X11_ernal (w (v1 - 3))) fun r30 => ( some r30)) else (some 0)))) else (if v0 = 5 then (if v1 < 2 then (if v1 = 0 then (some 105) else (some 110)) else (if v1 = 2 then (some 116) else (if v1 < 8 then (zb1 (F_X11_ernal (w (v1 - 3))) fun r37 => ( some r37)) else (some 0)))) else (if v0 = 6 then (if v1 < 2 then (if v1 = 0 then (some 109) else (some 97)) else (if v1 = 2 then (some 120) else (if v1 < 7 then (zb1 (F_X11_imal (w (v1 - 3))) fun r44 => ( some r44)) else (some 0)))) else (if v0 = 7 then (if v1 < 2 then (if v1 = 0 then (some 109) else (some 105)) else (if v1 = 2 then (some 110) else (if v1 < 7 then (zb1 (F_X11_imal (w (v1 - 3))) fun r51 => ( some r51)) else (some 0)))) else (if v1 = 0 then (some 108) else (if v1 = 1 then (some 101) else (if v1 = 2 then (some 102) else (if v1 = 3 then (some 116) else (some 0))))))))))))
def F_X11_readName_J103 (v3 : Int) (M : zM) : Option (Int × zM) :=
  zlet (zs M 48 14 (w ((M 48 13) + v3))) fun M2 => ( some ((-1), M2))
def F_X11_readName_J76 (v4 : Int) (v5 : Int) (M : zM) : Option (Int × zM) :=
  zlet (zs M 48 13 (w ((M 48 13) + v5))) fun M4 => ( some (v4, M4))
def F_X11_readName_J66 (v2 : Int) (v3 : Int) (v4 : Int) (v5 : Int) (M : zM) : Option ((Int × Int) ⊕ ((Int × Int) ⊕ (Int))) :=
  zb1 (F_X11_nameAt v4 v5) fun r5 => ( if r5 = 0 then (some (.inr (.inl (v4, v5)))) else (zlet (zmax v3 v5) fun x8 => ( zlet (w (v4 + 1)) fun x9 => ( some (.inl (x8, x9))))))
def F_X11_readName_B14 (v2 : Int) (v3 : Int) (v4 : Int) (v5 : Int) (M : zM) : Option ((Int) ⊕ (Int)) :=
  if (w ((M 48 13) + v5)) < (M 48 12) then (zb1 (F_X11_nameAt v4 v5) fun r13 => ( if r13 = 0 then (some (.inr v5)) else (zchk ((0 : Int) ≤ (w ((M 48 13) + v5)) ∧ (w ((M 48 13) + v5)) < 60) ( zb1 (F_X11_nameAt v4 v5) fun r19 => ( if (M 54 (w ((M 48 13) + v5))) = r19 then (zlet (w (v5 + 1)) fun x22 => ( some (.inl x22))) else (some (.inr v5))))))) else (some (.inr v5))
def F_X11_readName_L14 (v2 : Int) (v3 : Int) (v4 : Int) (v5 : Int) (M : zM) : Option ((Int × Int) ⊕ ((Int × Int) ⊕ (Int))) :=
  zb1 (zloop (fun (s : Int) => F_X11_readName_B14 v2 v3 v4 s M) zN v5) (fun (e : Int) => F_X11_readName_J66 v2 v3 v4 e M)
def F_X11_readName_B5 (v2 : Int) (v3 : Int) (v4 : Int) (M : zM) : Option ((Int × Int) ⊕ ((Int × Int) ⊕ (Int))) :=
  if v2 < v4 then (some (.inr (.inr v3))) else (F_X11_readName_L14 v2 v3 v4 0 M)
def F_X11_readName_L5 (v2 : Int) (v3 : Int) (v4 : Int) (M : zM) : Option (Int × zM) :=
  zb1 (zloop (fun (s : Int × Int) => F_X11_readName_B5 v2 s.1 s.2 M) zN (v3, v4)) (Sum.elim (fun (e : Int × Int) => F_X11_readName_J76 e.1 e.2 M) (fun (e : Int) => F_X11_readName_J103 e M))
def F_X11_readName (v1 : Int) (v2 : Int) (M : zM) : Option (Int × zM) :=
  F_X11_readName_L5 v2 0 v1 M
def F_X11_finish (M : zM) : Option (zM) :=
  if (M 48 14) < 0 then (if (M 48 13) < (M 48 12) then (zlet (zs M 48 14 (M 48 13)) fun M7 => ( some M7)) else (some M)) else (some M)
def F_X11_defineAxiom_J76 (M : zM) : Option (Int × zM) :=
  zb2 (F_X11_fail 2 M) fun r1 M2 => ( some (r1, M2))
def F_X11_defineAxiom_J63 (v1 : Int) (v2 : Int) (M : zM) : Option (Int × zM) :=
  if (M 48 2) = 6 then (F_X11_defineAxiom_J76 M) else (if v2 = 0 then (zchk ((0 : Int) ≤ (M 48 2) ∧ (M 48 2) < 6) ( zlet (zs M 49 (M 48 2) v1) fun M9 => ( zlet (zs M9 48 2 (w ((M9 48 2) + 1))) fun M11 => ( some ((w ((M11 48 2) - 1)), M11))))) else (F_X11_defineAxiom_J76 M))
def F_X11_defineAxiom_J56 (v1 : Int) (v3 : Int) (t0 : Int) (M : zM) : Option ((Int × Int) ⊕ (Int)) :=
  zlet (w (v3 + 1)) fun x13 => ( some (.inl (t0, x13)))
def F_X11_defineAxiom_J51 (v1 : Int) (v3 : Int) (M : zM) : Option ((Int × Int) ⊕ (Int)) :=
  F_X11_defineAxiom_J56 v1 v3 1 M
def F_X11_defineAxiom_B29 (v1 : Int) (v2 : Int) (v3 : Int) (M : zM) : Option ((Int × Int) ⊕ (Int)) :=
  if v3 < (M 48 2) then (if v2 = 0 then (zchk ((0 : Int) ≤ v3 ∧ v3 < 6) ( if (M 49 v3) = v1 then (F_X11_defineAxiom_J51 v1 v3 M) else (F_X11_defineAxiom_J56 v1 v3 0 M))) else (F_X11_defineAxiom_J51 v1 v3 M)) else (some (.inr v2))
def F_X11_defineAxiom_L29 (v1 : Int) (v2 : Int) (v3 : Int) (M : zM) : Option (Int × zM) :=
  zb1 (zloop (fun (s : Int × Int) => F_X11_defineAxiom_B29 v1 s.1 s.2 M) zN (v2, v3)) (fun (e : Int) => F_X11_defineAxiom_J63 v1 e M)
def F_X11_defineAxiom (M : zM) : Option (Int × zM) :=
  zb2 (F_X11_readWord 1 8 M) fun r20 M21 => ( zb1 (F_X11_finish M21) fun M23 => ( if (M23 48 14) < 0 then (F_X11_defineAxiom_L29 r20 0 0 M23) else (zb2 (F_X11_fail 1 M23) fun r27 M28 => ( some (r27, M28)))))
def F_X11_defineContext_J130 (M : zM) : Option (Int × zM) :=
  zlet (zs M 48 7 (w ((M 48 7) + 1))) fun M2 => ( some ((w ((M2 48 7) - 1)), M2))
def F_X11_defineContext_B96 (v3 : Int) (M : zM) : Option ((Int × zM) ⊕ (zM)) :=
  if v3 < (M 48 17) then (zchk ((0 : Int) ≤ v3 ∧ v3 < 60) ( zchk ((0 : Int) ≤ (w ((60 * (M 48 7)) + v3)) ∧ (w ((60 * (M 48 7)) + v3)) < 300) ( zlet (zs M 52 (w ((60 * (M 48 7)) + v3)) (M 55 v3)) fun M10 => ( zlet (w (v3 + 1)) fun x11 => ( some (.inl (x11, M10))))))) else (some (.inr M))
def F_X11_defineContext_L96 (v3 : Int) (M : zM) : Option (Int × zM) :=
  zb1 (zloop (fun (s : Int × zM) => F_X11_defineContext_B96 s.1 s.2) zN (v3, M)) (fun (e : zM) => F_X11_defineContext_J130 e)
def F_X11_defineContext (M : zM) : Option (Int × zM) :=
  zb2 (F_X11_readWord 1 3 M) fun r12 M13 => ( zb1 (F_X11_expect 44 M13) fun M15 => ( zb2 (F_X11_readWord 0 3 M15) fun r17 M18 => ( zb1 (F_X11_expect 32 M18) fun M20 => ( zb1 (F_GQ 40 0 M20) fun M22 => ( zb1 (F_X11_finish M22) fun M24 => ( if (M24 48 14) < 0 then (if (M24 48 7) = 5 then (zb2 (F_X11_fail 2 M24) fun r40 M41 => ( some (r40, M41))) else (zchk ((0 : Int) ≤ (M24 48 7) ∧ (M24 48 7) < 5) ( zlet (zs M24 50 (M24 48 7) r12) fun M32 => ( zchk ((0 : Int) ≤ (M32 48 7) ∧ (M32 48 7) < 5) ( zlet (zs M32 51 (M32 48 7) r17) fun M35 => ( zchk ((0 : Int) ≤ (M35 48 7) ∧ (M35 48 7) < 5) ( zlet (zs M35 53 (M35 48 7) (M35 48 17)) fun M39 => ( F_X11_defineContext_L96 0 M39)))))))) else (zb2 (F_X11_fail 1 M24) fun r43 M44 => ( some (r43, M44)))))))))
def F_X11_defineMode_J18 (t0 : Int) (M : zM) : Option (Int × zM) :=
  zb1 (F_X11_finish M) fun M1 => ( if (M1 48 14) < 0 then (zlet (M1 48 8) fun x6 => ( zlet (zs M1 48 8 (w (t0 - 4))) fun M7 => ( some (x6, M7)))) else (zb2 (F_X11_fail 1 M1) fun r8 M9 => ( some (r8, M9))))
def F_X11_defineMode (M : zM) : Option (Int × zM) :=
  if (M 48 14) < 0 then (zb2 (F_X11_readName 4 8 M) fun r13 M14 => ( F_X11_defineMode_J18 r13 M14)) else (F_X11_defineMode_J18 (-1) M)
def F_X11_defineLimit (M : zM) : Option (Int × zM) :=
  zb2 (F_X11_readDigit 1 M) fun r1 M2 => ( zb1 (F_X11_finish M2) fun M4 => ( if (M4 48 14) < 0 then (zlet (M4 48 9) fun x9 => ( zlet (zs M4 48 9 r1) fun M10 => ( some (x9, M10)))) else (zb2 (F_X11_fail 1 M4) fun r11 M12 => ( some (r11, M12)))))
def F_X11_define (M : zM) : Option (Int × zM) :=
  zlet (zs M 48 0 0) fun M1 => ( zlet (zs M1 48 12 (M1 48 11)) fun M3 => ( zlet (zs M3 48 11 0) fun M4 => ( zlet (zs M4 48 13 0) fun M5 => ( zlet (zs M5 48 14 (-1)) fun M6 => ( zlet (zs M6 48 15 0) fun M7 => ( zlet (zs M7 48 17 0) fun M8 => ( zb2 (F_X11_readName 0 3 M8) fun r9 M10 => ( zb1 (F_X11_expect 32 M10) fun M12 => ( if r9 = 0 then (zb2 (F_X11_defineAxiom M12) fun r15 M16 => ( some (r15, M16))) else (if r9 = 1 then (zb2 (F_X11_defineContext M12) fun r19 M20 => ( some (r19, M20))) else (if r9 = 2 then (zb2 (F_X11_defineMode M12) fun r23 M24 => ( some (r23, M24))) else (if r9 = 3 then (zb2 (F_X11_defineLimit M12) fun r27 M28 => ( some (r27, M28))) else (zb2 (F_X11_fail 1 M12) fun r30 M31 => ( some (r30, M31)))))))))))))))
end
