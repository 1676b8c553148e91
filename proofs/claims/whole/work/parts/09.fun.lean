noncomputable section
/-! THE METHODS AS PLAIN FUNCTIONS over whole numbers M, the shape S; a program has written them out of the decode rows (wip/whole/gen5.py) -/
def F_X9_length_J31 (v1 : Int) : Option (Int) :=
  some v1
def F_X9_length_B6 (v0 : Int) (v1 : Int) (v2 : Int) (v3 : Int) : Option ((Int × Int × Int) ⊕ (Int)) :=
  if 9 < v3 then (some (.inr v1)) else (if v0 < v2 then (some (.inr v1)) else (zlet (w ((3 * v2) + 1)) fun x3 => ( zlet (w (v3 + 1)) fun x4 => ( some (.inl (v3, x3, x4))))))
def F_X9_length_L6 (v0 : Int) (v1 : Int) (v2 : Int) (v3 : Int) : Option (Int) :=
  zb1 (zloop (fun (s : Int × Int × Int) => F_X9_length_B6 v0 s.1 s.2.1 s.2.2) zN (v1, v2, v3)) (fun (e : Int) => F_X9_length_J31 e)
def F_X9_length (v0 : Int) : Option (Int) :=
  F_X9_length_L6 v0 0 1 1
def F_X0_init (v0 : Nat) (v1 : Int) (v2 : Int) (v3 : Nat) (M : zM) (S : zS) : Option (zM × zS) :=
  zchk (¬ v0 = 0) ( zchk (zkd S v0 = 0) ( zlet (zs M v0 0 v1) fun M3 => ( zb1 (F_X9_length v1) fun r4 => ( zchk (zkd S v0 = 0) ( zlet (zs M3 v0 1 r4) fun M7 => ( zchk (zkd S v0 = 0) ( zlet (zs M7 v0 2 v2) fun M9 => ( zb1 (F_X9_length v2) fun r10 => ( zchk (zkd S v0 = 0) ( zlet (zs M9 v0 3 r10) fun M13 => ( zchk (zkd S v0 = 0) ( zlet (zq S v0 4 v3) fun S15 => ( some (M13, S15))))))))))))))
def F_X0_growth (v0 : Nat) (M : zM) (S : zS) : Option (Int) :=
  zchk (zkd S v0 = 0) ( zchk (zkd S v0 = 0) ( some (w ((M v0 1) + (M v0 3)))))
def F_X9_power_J12 : Option (Int) :=
  some 1
def F_X9_power (v0 : Int) : Option (Int) :=
  if v0 < 0 then (F_X9_power_J12) else (if v0 < 10 then (zchk ((0 : Int) ≤ v0 ∧ v0 < 10) ( some (zpow v0))) else (F_X9_power_J12))
def F_X9_factor (v0 : Int) (v1 : Int) (v2 : Int) (v3 : Int) : Option (Int) :=
  zb1 (F_X9_power (w (v1 - v3))) fun r1 => ( zb1 (F_X9_power (w (v3 - v2))) fun r3 => ( if r1 < 1 then (some 0) else (if r3 < 1 then (some 0) else (zchk (¬ r1 = 0) ( zlet (zdiv (v0 - (zdiv r1 2)) r1) fun x8 => ( zlet (zdiv r3 2) fun x9 => ( zchk (¬ r3 = 0) ( some (w ((zrem (x8 - x9) r3) + x9))))))))))
def F_X6_at__J10 (M : zM) (S : zS) : Option (Int) :=
  some 0
def F_X6_at_ (v0 : Nat) (v1 : Int) (M : zM) (S : zS) : Option (Int) :=
  if v1 < 0 then (F_X6_at__J10 M S) else (zchk (zkd S v0 = 21) ( if v1 < (zlen S v0) then (zchk (zkd S v0 = 21) ( zchk ((0 : Int) ≤ v1 ∧ v1 < (zlen S v0)) ( some (M v0 v1)))) else (F_X6_at__J10 M S)))
def F_X6_put_ (v0 : Nat) (v1 : Int) (v2 : Int) (M : zM) (S : zS) : Option (zM) :=
  if v1 < 0 then (some M) else (zchk (zkd S v0 = 21) ( if v1 < (zlen S v0) then (zchk (zkd S v0 = 21) ( zchk ((0 : Int) ≤ v1 ∧ v1 < (zlen S v0)) ( zlet (zs M v0 v1 v2) fun M7 => ( some M7)))) else (some M)))
def F_X7_compares_J70 (v4 : Int) (v5 : Int) (v6 : Int) : Option (Int) :=
  if v4 = 0 then (if v6 < v5 then (some 1) else (some 0)) else (if v4 = 1 then (if v6 = v5 then (some 1) else (some 0)) else (if v5 < v6 then (some 1) else (some 0)))
def F_X7_compares_J56 (v2 : Int) (v3 : Int) (v4 : Int) (v5 : Int) (v6 : Int) (v7 : Int) (v8 : Int) : Option ((Int × Int × Int) ⊕ (Int)) :=
  zlet (zdiv (v7 - 1) 3) fun x6 => ( zlet (w (v8 + 1)) fun x7 => ( some (.inl (v6, x6, x7))))
def F_X7_compares_B37 (v2 : Int) (v3 : Int) (v4 : Int) (v5 : Int) (v6 : Int) (v7 : Int) (v8 : Int) : Option ((Int × Int × Int) ⊕ (Int)) :=
  if v8 < v2 then (if (zrem (v7 - 1) 3) = v3 then (zlet (w (v6 + 1)) fun x10 => ( F_X7_compares_J56 v2 v3 v4 v5 x10 v7 v8)) else (F_X7_compares_J56 v2 v3 v4 v5 v6 v7 v8)) else (some (.inr v6))
def F_X7_compares_L37 (v2 : Int) (v3 : Int) (v4 : Int) (v5 : Int) (v6 : Int) (v7 : Int) (v8 : Int) : Option (Int) :=
  zb1 (zloop (fun (s : Int × Int × Int) => F_X7_compares_B37 v2 v3 v4 v5 s.1 s.2.1 s.2.2) zN (v6, v7, v8)) (fun (e : Int) => F_X7_compares_J70 v4 v5 e)
def F_X7_compares_J29 (v1 : Int) (v2 : Int) (v3 : Int) (v4 : Int) (v5 : Int) (t0 : Int) : Option (Int) :=
  F_X7_compares_L37 v2 v3 v4 v5 t0 v1 0
def F_X7_compares (v0 : Int) (v1 : Int) (v2 : Int) : Option (Int) :=
  zlet (zdiv v0 30) fun x11 => ( zlet (zrem (zdiv v0 10) 3) fun x12 => ( zlet (zrem v0 10) fun x13 => ( if x11 = 3 then (F_X7_compares_J29 v1 v2 x11 x12 x13 v2) else (F_X7_compares_J29 v1 v2 x11 x12 x13 0))))
def F_X7_matches_J140 : Option (Int) :=
  some 0
def F_X7_matches_J124 : Option (Int) :=
  some 1
def F_X7_matches_J126 (v1 : Int) (v5 : Int) (v6 : Int) (v7 : Int) (v8 : Int) (v9 : Int) : Option ((Int × Int) ⊕ ((Unit) ⊕ (Unit))) :=
  zlet (zdiv (v8 - 1) 3) fun x1 => ( zlet (w (v9 + 1)) fun x2 => ( some (.inl (x1, x2))))
def F_X7_matches_B91 (v1 : Int) (v5 : Int) (v6 : Int) (v7 : Int) (v8 : Int) (v9 : Int) : Option ((Int × Int) ⊕ ((Unit) ⊕ (Unit))) :=
  if v7 < v9 then (some (.inr (.inr ()))) else (if v9 < v6 then (F_X7_matches_J126 v1 v5 v6 v7 v8 v9) else (zchk (¬ v5 = 0) ( if (w ((zrem (v8 - (zdiv v5 2)) v5) + (zdiv v5 2))) = v1 then (some (.inr (.inl ()))) else (F_X7_matches_J126 v1 v5 v6 v7 v8 v9))))
def F_X7_matches_L91 (v1 : Int) (v5 : Int) (v6 : Int) (v7 : Int) (v8 : Int) (v9 : Int) : Option (Int) :=
  zb1 (zloop (fun (s : Int × Int) => F_X7_matches_B91 v1 v5 v6 v7 s.1 s.2) zN (v8, v9)) (Sum.elim (fun (e : Unit) => F_X7_matches_J124) (fun (e : Unit) => F_X7_matches_J140))
def F_X7_matches_J83 (v1 : Int) (v2 : Int) (v5 : Int) (v6 : Int) (t0 : Int) : Option (Int) :=
  F_X7_matches_L91 v1 v5 v6 t0 v2 0
def F_X7_matches_J60 (v0 : Int) (v1 : Int) (v2 : Int) (v3 : Int) (v4 : Int) (v5 : Int) (t0 : Int) : Option (Int) :=
  if v0 = 6 then (F_X7_matches_J83 v1 v2 v5 t0 (zmin 0 (w (v3 - v4)))) else (F_X7_matches_J83 v1 v2 v5 t0 (w (v3 - v4)))
def F_X7_matches_J45 (v0 : Int) (v1 : Int) (v2 : Int) (v3 : Int) (v4 : Int) (t0 : Int) : Option (Int) :=
  if v0 = 5 then (F_X7_matches_J60 v0 v1 v2 v3 v4 t0 (w (v3 - v4))) else (F_X7_matches_J60 v0 v1 v2 v3 v4 t0 0)
def F_X7_matches_J20 (v0 : Int) (v1 : Int) (v2 : Int) (v3 : Int) (t0 : Int) : Option (Int) :=
  if t0 = 1 then (F_X7_matches_J45 v0 v1 v2 v3 t0 3) else (if t0 = 2 then (F_X7_matches_J45 v0 v1 v2 v3 t0 9) else (F_X7_matches_J45 v0 v1 v2 v3 t0 27))
def F_X7_matches (v0 : Int) (v1 : Int) (v2 : Int) (v3 : Int) : Option (Int) :=
  if v1 < 4 then (F_X7_matches_J20 v0 v1 v2 v3 1) else (if v1 < 13 then (F_X7_matches_J20 v0 v1 v2 v3 2) else (F_X7_matches_J20 v0 v1 v2 v3 3))
def F_X7_evaluate_J173 (v3 : Int) (M : zM) (S : zS) : Option (Int) :=
  if (zcmp (zland v3 1) 0) = 0 then (some 0) else (some 1)
def F_X7_evaluate_J167 (v0 : Nat) (v1 : Int) (v2 : Int) (v3 : Int) (v5 : Int) (M : zM) (S : zS) : Option ((Int × Int) ⊕ (Int)) :=
  zlet (w (v5 + 1)) fun x2 => ( some (.inl (v3, x2)))
def F_X7_evaluate_J164 (v0 : Nat) (v1 : Int) (v2 : Int) (v5 : Int) (t0 : Int) (t1 : Int) (M : zM) (S : zS) : Option ((Int × Int) ⊕ (Int)) :=
  zlet (zlor t0 t1) fun x3 => ( F_X7_evaluate_J167 v0 v1 v2 x3 v5 M S)
def F_X7_evaluate_J138 (v0 : Nat) (v1 : Int) (v2 : Int) (v5 : Int) (t0 : Int) (t1 : Int) (M : zM) (S : zS) : Option ((Int × Int) ⊕ (Int)) :=
  zlet (zlor t0 t1) fun x4 => ( F_X7_evaluate_J167 v0 v1 v2 x4 v5 M S)
def F_X7_evaluate_B10 (v0 : Nat) (v1 : Int) (v2 : Int) (v3 : Int) (v5 : Int) (M : zM) (S : zS) : Option ((Int × Int) ⊕ (Int)) :=
  zchk (zkd S v0 = 5) ( zchk (zkd S (zrf S v0 0) = 20) ( if v5 < (zlen S (zrf S v0 0)) then (zchk (zkd S v0 = 5) ( zchk (zkd S (zrf S v0 0) = 20) ( zchk ((0 : Int) ≤ v5 ∧ v5 < (zlen S (zrf S v0 0))) ( zlet (zand (M (zrf S v0 0) v5) 7) fun x13 => ( zchk (zkd S v0 = 5) ( zchk (zkd S (zrf S v0 0) = 20) ( zchk ((0 : Int) ≤ v5 ∧ v5 < (zlen S (zrf S v0 0))) ( zlet (zshr (M (zrf S v0 0) v5) 3) fun x18 => ( if x13 = 0 then (zlet (zlor (zlshl v3 1) 1) fun x20 => ( F_X7_evaluate_J167 v0 v1 v2 x20 v5 M S)) else (if x13 = 1 then (zlet (zlxor v3 1) fun x22 => ( F_X7_evaluate_J167 v0 v1 v2 x22 v5 M S)) else (if x13 = 2 then (zlet (zland (zlshr v3 1) (zlor v3 (-2))) fun x24 => ( F_X7_evaluate_J167 v0 v1 v2 x24 v5 M S)) else (if x13 = 3 then (zlet (zlor (zlshr v3 1) (zland v3 1)) fun x26 => ( F_X7_evaluate_J167 v0 v1 v2 x26 v5 M S)) else (if x13 = 4 then (zb1 (F_X7_compares x18 v1 v2) fun r28 => ( if r28 = 0 then (F_X7_evaluate_J138 v0 v1 v2 v5 (zlshl v3 1) 0 M S) else (F_X7_evaluate_J138 v0 v1 v2 v5 (zlshl v3 1) 1 M S))) else (zb1 (F_X7_matches x13 x18 v1 v2) fun r31 => ( if r31 = 0 then (F_X7_evaluate_J164 v0 v1 v2 v5 (zlshl v3 1) 0 M S) else (F_X7_evaluate_J164 v0 v1 v2 v5 (zlshl v3 1) 1 M S)))))))))))))))) else (some (.inr v3))))
def F_X7_evaluate_L10 (v0 : Nat) (v1 : Int) (v2 : Int) (v3 : Int) (v5 : Int) (M : zM) (S : zS) : Option (Int) :=
  zb1 (zloop (fun (s : Int × Int) => F_X7_evaluate_B10 v0 v1 v2 s.1 s.2 M S) zN (v3, v5)) (fun (e : Int) => F_X7_evaluate_J173 e M S)
def F_X7_evaluate (v0 : Nat) (v1 : Int) (M : zM) (S : zS) : Option (Int) :=
  zb1 (F_X9_length v1) fun r34 => ( F_X7_evaluate_L10 v0 v1 r34 0 0 M S)
def F_X7_fulfils_J71 (v0 : Nat) (v2 : Int) (v3 : Int) (M : zM) (S : zS) : Option (Int × zM) :=
  zchk (zkd S v0 = 5) ( zb1 (F_X6_at_ (zrf S v0 2) v2 M S) fun r2 => ( if (zcmp (zland r2 v3) 0) = 0 then (some (0, M)) else (some (1, M))))
def F_X7_fulfils (v0 : Nat) (v1 : Int) (M : zM) (S : zS) : Option (Int × zM) :=
  zlet (zshr v1 6) fun x5 => ( zlet (zlshl 1 (zand v1 63)) fun x6 => ( zchk (zkd S v0 = 5) ( zb1 (F_X6_at_ (zrf S v0 1) x5 M S) fun r8 => ( if (zcmp (zland r8 x6) 0) = 0 then (zchk (zkd S v0 = 5) ( zchk (zkd S v0 = 5) ( zb1 (F_X6_at_ (zrf S v0 1) x5 M S) fun r13 => ( zb1 (F_X6_put_ (zrf S v0 1) x5 (zlor r13 x6) M S) fun M15 => ( zchk (zkd S v0 = 5) ( zb1 (F_X7_evaluate v0 v1 M15 S) fun r18 => ( if r18 = 0 then (F_X7_fulfils_J71 v0 x5 x6 M15 S) else (zchk (zkd S v0 = 5) ( zchk (zkd S v0 = 5) ( zb1 (F_X6_at_ (zrf S v0 2) x5 M15 S) fun r23 => ( zb1 (F_X6_put_ (zrf S v0 2) x5 (zlor r23 x6) M15 S) fun M25 => ( F_X7_fulfils_J71 v0 x5 x6 M25 S)))))))))))) else (F_X7_fulfils_J71 v0 x5 x6 M S)))))
def F_X0_selects_J176 (M : zM) (S : zS) : Option (Int × zM) :=
  some (1, M)
def F_X0_selects_J162 (M : zM) (S : zS) : Option (Int × zM) :=
  some (0, M)
def F_X0_selects_J170 (v0 : Nat) (v1 : Int) (v2 : Int) (v3 : Int) (v4 : Int) (v5 : Int) (v6 : Int) (v7 : Int) (v8 : Int) (M : zM) (S : zS) : Option ((Int × zM) ⊕ ((zM) ⊕ (zM))) :=
  zlet (w (v8 + 1)) fun x1 => ( some (.inl (x1, M)))
def F_X0_selects_J164 (v0 : Nat) (v1 : Int) (v2 : Int) (v3 : Int) (v4 : Int) (v5 : Int) (v6 : Int) (v7 : Int) (v8 : Int) (v9 : Int) (M : zM) (S : zS) : Option ((Int × zM) ⊕ ((zM) ⊕ (zM))) :=
  zlet (w (v9 + 1)) fun x2 => ( some (.inl (x2, M)))
def F_X0_selects_J143 (v0 : Nat) (v1 : Int) (v2 : Int) (v3 : Int) (v4 : Int) (v5 : Int) (v6 : Int) (v7 : Int) (v8 : Int) (v9 : Int) (M : zM) (S : zS) : Option ((Int × zM) ⊕ ((zM) ⊕ (zM))) :=
  zchk (zkd S v0 = 0) ( zb1 (F_X9_factor v2 v3 v8 v9) fun r4 => ( zchk (zkd S (zrf S v0 4) = 5) ( zb2 (F_X7_fulfils (zrf S v0 4) r4 M S) fun r7 M8 => ( if r7 = 0 then (F_X0_selects_J164 v0 v1 v2 v3 v4 v5 v6 v7 v8 v9 M8 S) else (some (.inr (.inl M8)))))))
def F_X0_selects_B122 (v0 : Nat) (v1 : Int) (v2 : Int) (v3 : Int) (v4 : Int) (v5 : Int) (v6 : Int) (v7 : Int) (v8 : Int) (v9 : Int) (M : zM) (S : zS) : Option ((Int × zM) ⊕ ((zM) ⊕ (zM))) :=
  if v7 < v9 then (some (.inr (.inr M))) else (if v8 = v4 then (if v9 = v5 then (F_X0_selects_J164 v0 v1 v2 v3 v4 v5 v6 v7 v8 v9 M S) else (F_X0_selects_J143 v0 v1 v2 v3 v4 v5 v6 v7 v8 v9 M S)) else (F_X0_selects_J143 v0 v1 v2 v3 v4 v5 v6 v7 v8 v9 M S))
def F_X0_selects_L122 (v0 : Nat) (v1 : Int) (v2 : Int) (v3 : Int) (v4 : Int) (v5 : Int) (v6 : Int) (v7 : Int) (v8 : Int) (v9 : Int) (M : zM) (S : zS) : Option ((Int × zM) ⊕ ((zM) ⊕ (zM))) :=
  zb1 (zloop (fun (s : Int × zM) => F_X0_selects_B122 v0 v1 v2 v3 v4 v5 v6 v7 v8 s.1 s.2 S) zN (v9, M)) (Sum.elim (fun (e : zM) => some (.inr (.inl e))) (fun (e : zM) => F_X0_selects_J170 v0 v1 v2 v3 v4 v5 v6 v7 v8 e S))
def F_X0_selects_J120 (v0 : Nat) (v1 : Int) (v2 : Int) (v3 : Int) (v4 : Int) (v5 : Int) (v6 : Int) (v7 : Int) (v8 : Int) (t0 : Int) (M : zM) (S : zS) : Option ((Int × zM) ⊕ ((zM) ⊕ (zM))) :=
  F_X0_selects_L122 v0 v1 v2 v3 v4 v5 v6 v7 v8 t0 M S
def F_X0_selects_B101 (v0 : Nat) (v1 : Int) (v2 : Int) (v3 : Int) (v4 : Int) (v5 : Int) (v6 : Int) (v7 : Int) (v8 : Int) (M : zM) (S : zS) : Option ((Int × zM) ⊕ ((zM) ⊕ (zM))) :=
  if v6 < v8 then (some (.inr (.inr M))) else (if v1 = 2 then (F_X0_selects_J120 v0 v1 v2 v3 v4 v5 v6 v7 v8 v5 M S) else (F_X0_selects_J120 v0 v1 v2 v3 v4 v5 v6 v7 v8 v8 M S))
def F_X0_selects_L101 (v0 : Nat) (v1 : Int) (v2 : Int) (v3 : Int) (v4 : Int) (v5 : Int) (v6 : Int) (v7 : Int) (v8 : Int) (M : zM) (S : zS) : Option (Int × zM) :=
  zb1 (zloop (fun (s : Int × zM) => F_X0_selects_B101 v0 v1 v2 v3 v4 v5 v6 v7 s.1 s.2 S) zN (v8, M)) (Sum.elim (fun (e : zM) => F_X0_selects_J162 e S) (fun (e : zM) => F_X0_selects_J176 e S))
def F_X0_selects_J99 (v0 : Nat) (v1 : Int) (v2 : Int) (v3 : Int) (v4 : Int) (v5 : Int) (v6 : Int) (v7 : Int) (t0 : Int) (M : zM) (S : zS) : Option (Int × zM) :=
  F_X0_selects_L101 v0 v1 v2 v3 v4 v5 v6 v7 t0 M S
def F_X0_selects_J86 (v0 : Nat) (v1 : Int) (v2 : Int) (v3 : Int) (v4 : Int) (v5 : Int) (v6 : Int) (t0 : Int) (M : zM) (S : zS) : Option (Int × zM) :=
  if v1 = 3 then (F_X0_selects_J99 v0 v1 v2 v3 v4 v5 v6 t0 v4 M S) else (F_X0_selects_J99 v0 v1 v2 v3 v4 v5 v6 t0 0 M S)
def F_X0_selects_J73 (v0 : Nat) (v1 : Int) (v2 : Int) (v3 : Int) (v4 : Int) (v5 : Int) (t0 : Int) (M : zM) (S : zS) : Option (Int × zM) :=
  if v1 = 3 then (F_X0_selects_J86 v0 v1 v2 v3 v4 v5 t0 v5 M S) else (F_X0_selects_J86 v0 v1 v2 v3 v4 v5 t0 v3 M S)
def F_X0_selects_J40 (M : zM) (S : zS) : Option (Int × zM) :=
  some (0, M)
def F_X0_selects (v0 : Nat) (v1 : Int) (v2 : Int) (v3 : Int) (v4 : Int) (v5 : Int) (M : zM) (S : zS) : Option (Int × zM) :=
  zchk (zkd S v0 = 0) ( zb1 (F_X9_factor v2 v3 v4 v5) fun r19 => ( zchk (zkd S (zrf S v0 4) = 5) ( zb2 (F_X7_fulfils (zrf S v0 4) r19 M S) fun r22 M23 => ( if r22 = 0 then (some (0, M23)) else (if v1 = 0 then (if v4 = 0 then (if v5 = v3 then (some (1, M23)) else (F_X0_selects_J40 M23 S)) else (F_X0_selects_J40 M23 S)) else (if v1 = 1 then (some (1, M23)) else (if v1 = 3 then (F_X0_selects_J73 v0 v1 v2 v3 v4 v5 v5 M23 S) else (if v1 = 2 then (F_X0_selects_J73 v0 v1 v2 v3 v4 v5 v4 M23 S) else (F_X0_selects_J73 v0 v1 v2 v3 v4 v5 (w (v4 - 1)) M23 S)))))))))
def F_X9_join (v0 : Int) (v1 : Int) (v2 : Int) : Option (Int) :=
  zb1 (F_X9_power v2) fun r1 => ( some (w ((v0 * r1) + v1)))
def F_X0_putAround (v0 : Nat) (v1 : Int) (v2 : Int) (v3 : Int) (v4 : Int) (M : zM) (S : zS) : Option (Int) :=
  zb1 (F_X9_factor v1 v2 0 v3) fun r1 => ( zchk (zkd S v0 = 0) ( zchk (zkd S v0 = 0) ( zb1 (F_X9_join r1 (M v0 0) (M v0 1)) fun r7 => ( zb1 (F_X9_factor v1 v2 v3 v4) fun r9 => ( zb1 (F_X9_join r7 r9 (w (v4 - v3))) fun r11 => ( zchk (zkd S v0 = 0) ( zchk (zkd S v0 = 0) ( zb1 (F_X9_join r11 (M v0 2) (M v0 3)) fun r17 => ( zb1 (F_X9_factor v1 v2 v4 v2) fun r19 => ( zb1 (F_X9_join r17 r19 (w (v2 - v4))) fun r21 => ( some r21)))))))))))
def F_X0_leftStandsAt (v0 : Nat) (v1 : Int) (v2 : Int) (v3 : Int) (M : zM) (S : zS) : Option (Int) :=
  zchk (zkd S v0 = 0) ( zb1 (F_X9_factor v1 v2 v3 (w (v3 + (M v0 1)))) fun r3 => ( zchk (zkd S v0 = 0) ( if r3 = (M v0 0) then (some 1) else (some 0))))
def F_X0_takeAway (v0 : Nat) (v1 : Int) (v2 : Int) (v3 : Int) (v4 : Int) (M : zM) (S : zS) : Option (Int) :=
  zchk (zkd S v0 = 0) ( zb1 (F_X0_growth v0 M S) fun r2 => ( zlet (w (v4 + r2)) fun x4 => ( zchk (zkd S v0 = 0) ( zb1 (F_X9_factor v1 v2 (w (x4 - (M v0 3))) x4) fun r7 => ( zchk (zkd S v0 = 0) ( if r7 = (M v0 2) then (zb1 (F_X9_factor v1 v2 0 v3) fun r12 => ( zchk (zkd S v0 = 0) ( zchk (zkd S v0 = 0) ( zb1 (F_X9_factor v1 v2 (w (v3 + (M v0 1))) (w (v4 + (M v0 1)))) fun r18 => ( zb1 (F_X9_join r12 r18 (w (v4 - v3))) fun r20 => ( zb1 (F_X9_factor v1 v2 x4 v2) fun r22 => ( zb1 (F_X9_join r20 r22 (w (v2 - x4))) fun r24 => ( some r24)))))))) else (some (-1))))))))
def F_X1_init (v0 : Nat) (S : zS) : Option (zS) :=
  zchk (¬ v0 = 0) ( zlet (S.1 + 1) fun q2 => ( zlet (zn S (23, 60)) fun S3 => ( zchk (zkd S3 v0 = 1) ( zlet (zq S3 v0 0 q2) fun S5 => ( zlet (S5.1 + 1) fun q6 => ( zlet (zn S5 (20, 60)) fun S7 => ( zchk (zkd S7 v0 = 1) ( zlet (zq S7 v0 1 q6) fun S9 => ( some S9)))))))))
def F_X1_accept (v1 : Int) (M : zM) : Option (Int × zM) :=
  if (M 2 3) < 0 then (some (0, M)) else (if (M 2 3) < 60 then (zchk ((0 : Int) ≤ (M 2 3) ∧ (M 2 3) < 60) ( zchk ((0 : Int) ≤ v1 ∧ (v1 : Int) < 65536) ( zlet (zs M 3 (M 2 3) v1) fun M8 => ( zlet (zs M8 2 3 (w ((M8 2 3) + 1))) fun M10 => ( some (1, M10)))))) else (some (0, M)))
def F_X1_empty (M : zM) : Option (zM) :=
  zlet (zs M 2 3 0) fun M1 => ( some M1)
def F_J7_copyOf_59c91 (v0 : Nat) (v1 : Int) (M : zM) (S : zS) : Option (Nat × zM × zS) :=
  zchk (zkd S v0 = 20) ( if v1 = (zlen S v0) then (zchk (zkd S v0 = 20) ( zchk ((zlen S v0) ≤ 60) ( zlet (S.1 + 1) fun q16 => ( zlet (zn S (20, (zlen S v0).toNat)) fun S17 => ( zlet (up M q16 (M v0)) fun M18 => ( zchk (zkd S17 q16 = 20) ( some (q16, M18, S17)))))))) else (zchk ((0 : Int) ≤ v1 ∧ v1 ≤ 60) ( zlet (S.1 + 1) fun q5 => ( zlet (zn S (20, v1.toNat)) fun S6 => ( zchk (zkd S6 v0 = 20) ( zchk (zkd S6 v0 = 20) ( zchk (zkd S6 q5 = 20) ( zchk ((0 : Int) ≤ 0 ∧ (0 : Int) ≤ 0 ∧ (0 : Int) ≤ (zmin (zlen S6 v0) v1) ∧ (0 + (zmin (zlen S6 v0) v1) : Int) ≤ (zlen S6 v0) ∧ (0 + (zmin (zlen S6 v0) v1) : Int) ≤ (zlen S6 q5)) ( zlet (zcpy M v0 0 q5 0 (zmin (zlen S6 v0) v1)) fun M13 => ( some (q5, M13, S6)))))))))))
def F_X1_selectorProgram_J19 (t1 : Int) (M : zM) (S : zS) : Option (Nat × zM × zS) :=
  zb3 (F_J7_copyOf_59c91 4 t1 M S) fun r1 M2 S3 => ( some (r1, M2, S3))
def F_X1_selectorProgram (M : zM) (S : zS) : Option (Nat × zM × zS) :=
  if (M 2 2) < 0 then (F_X1_selectorProgram_J19 0 M S) else (F_X1_selectorProgram_J19 (M 2 2) M S)
def F_X1_kindName (v0 : Int) : Option (Nat) :=
  if v0 = 0 then (some 0) else (if v0 = 1 then (some 1) else (if v0 = 2 then (some 2) else (some 3)))
def F_X1_characterAt_J21 (M : zM) : Option (Int) :=
  zchk ((0 : Int) ≤ 0 ∧ (0 : Int) < 65536) ( some 0)
def F_X1_characterAt (v1 : Int) (M : zM) : Option (Int) :=
  if v1 < 0 then (F_X1_characterAt_J21 M) else (if v1 < (M 2 3) then (if v1 < 60 then (zchk ((0 : Int) ≤ v1 ∧ v1 < 60) ( zchk ((0 : Int) ≤ (M 3 v1) ∧ ((M 3 v1) : Int) < 65536) ( some (M 3 v1)))) else (F_X1_characterAt_J21 M)) else (F_X1_characterAt_J21 M))
def F_X1_sameCharacters_J39 (v2 : Int) (M : zM) : Option (Int) :=
  some v2
def F_X1_sameCharacters_B4 (v1 : Nat) (v2 : Int) (v3 : Int) (M : zM) : Option ((Int × Int) ⊕ (Int)) :=
  zchk (v1 < 9) ( if v3 < (zsl v1) then (zb1 (F_X1_characterAt (w ((M 2 4) + v3)) M) fun r4 => ( zchk (v1 < 9) ( zchk ((0 : Int) ≤ v3 ∧ v3 < zsl v1) ( if r4 = (zsc v1 v3) then (zlet (w (v2 + 1)) fun x9 => ( zlet (w (v3 + 1)) fun x10 => ( some (.inl (x9, x10))))) else (some (.inr v2)))))) else (some (.inr v2)))
def F_X1_sameCharacters_L4 (v1 : Nat) (v2 : Int) (v3 : Int) (M : zM) : Option (Int) :=
  zb1 (zloop (fun (s : Int × Int) => F_X1_sameCharacters_B4 v1 s.1 s.2 M) zN (v2, v3)) (fun (e : Int) => F_X1_sameCharacters_J39 e M)
def F_X1_sameCharacters (v1 : Nat) (M : zM) : Option (Int) :=
  F_X1_sameCharacters_L4 v1 0 0 M
def F_X1_readKind_J51 (v1 : Int) (M : zM) : Option (Int × zM) :=
  zlet (zs M 2 4 v1) fun M1 => ( some ((-1), M1))
def F_X1_readKind_J37 (v2 : Int) (v4 : Int) (M : zM) : Option (Int × zM) :=
  zlet (zs M 2 4 v4) fun M2 => ( some (v2, M2))
def F_X1_readKind_B4 (v1 : Int) (v2 : Int) (M : zM) : Option ((Int × Int) ⊕ ((Int × Int) ⊕ (Int))) :=
  if v2 < 4 then (zb1 (F_X1_kindName v2) fun r4 => ( zb1 (F_X1_sameCharacters r4 M) fun r6 => ( zlet (zmax v1 r6) fun x8 => ( zchk (r4 < 9) ( if r6 = (zsl r4) then (some (.inr (.inl (v2, r6)))) else (zlet (w (v2 + 1)) fun x11 => ( some (.inl (x8, x11))))))))) else (some (.inr (.inr v1)))
def F_X1_readKind_L4 (v1 : Int) (v2 : Int) (M : zM) : Option (Int × zM) :=
  zb1 (zloop (fun (s : Int × Int) => F_X1_readKind_B4 s.1 s.2 M) zN (v1, v2)) (Sum.elim (fun (e : Int × Int) => F_X1_readKind_J37 e.1 e.2 M) (fun (e : Int) => F_X1_readKind_J51 e M))
def F_X1_readKind (M : zM) : Option (Int × zM) :=
  F_X1_readKind_L4 0 0 M
def F_X9_extend (v0 : Int) (v1 : Int) : Option (Int) :=
  some (w (((3 * v0) + 1) + v1))
def F_X1_readLetters_J61 (v2 : Int) (M : zM) : Option (Int × zM) :=
  some (v2, M)
def F_X1_readLetters_J33 (v2 : Int) (M : zM) : Option (Int × zM) :=
  some (v2, M)
def F_X1_readLetters_B4 (v1 : Int) (v2 : Int) (v3 : Int) (M : zM) : Option ((Int × Int × zM) ⊕ ((Int × zM) ⊕ (Int × zM))) :=
  if v3 < v1 then (zb1 (F_X1_characterAt (M 2 4) M) fun r3 => ( if r3 < 97 then (some (.inr (.inl (v2, M)))) else (if 99 < r3 then (some (.inr (.inl (v2, M)))) else (zb1 (F_X9_extend v2 (w (r3 - 97))) fun r7 => ( zlet (zs M 2 4 (w ((M 2 4) + 1))) fun M10 => ( zlet (w (v3 + 1)) fun x11 => ( some (.inl (r7, x11, M10))))))))) else (some (.inr (.inr (v2, M))))
def F_X1_readLetters_L4 (v1 : Int) (v2 : Int) (v3 : Int) (M : zM) : Option (Int × zM) :=
  zb1 (zloop (fun (s : Int × Int × zM) => F_X1_readLetters_B4 v1 s.1 s.2.1 s.2.2) zN (v2, v3, M)) (Sum.elim (fun (e : Int × zM) => F_X1_readLetters_J33 e.1 e.2) (fun (e : Int × zM) => F_X1_readLetters_J61 e.1 e.2))
def F_X1_readLetters (v1 : Int) (M : zM) : Option (Int × zM) :=
  F_X1_readLetters_L4 v1 0 0 M
def F_X1_readAxiom (M : zM) : Option (Int × zM) :=
  zb2 (F_X1_readLetters 8 M) fun r1 M2 => ( zlet (zs M2 2 5 r1) fun M4 => ( if (M4 2 5) = 0 then (some (0, M4)) else (some (1, M4))))
def F_X1_skip (v1 : Int) (M : zM) : Option (Int × zM) :=
  zb1 (F_X1_characterAt (M 2 4) M) fun r2 => ( if r2 = v1 then (zlet (zs M 2 4 (w ((M 2 4) + 1))) fun M6 => ( some (1, M6))) else (some (0, M)))
def F_X1_addStep (v1 : Int) (v2 : Int) (M : zM) : Option (Int × zM) :=
  if (M 2 2) < 0 then (some (0, M)) else (if (M 2 2) < 60 then (zchk ((0 : Int) ≤ (M 2 2) ∧ (M 2 2) < 60) ( zlet (zs M 4 (M 2 2) (zor (zshl v2 3) v1)) fun M7 => ( zlet (zs M7 2 2 (w ((M7 2 2) + 1))) fun M9 => ( some (1, M9))))) else (some (0, M)))
def F_X1_addPattern_J17 (M : zM) : Option (Int × zM) :=
  some (0, M)
def F_X1_addPattern (v1 : Int) (v2 : Int) (M : zM) : Option (Int × zM) :=
  if v2 = 0 then (F_X1_addPattern_J17 M) else (zb2 (F_X1_addStep v1 v2 M) fun r2 M3 => ( if r2 = 0 then (F_X1_addPattern_J17 M3) else (some (1, M3))))
def F_X1_readComparison_J119 (v2 : Int) (v3 : Int) (t0 : Int) (M : zM) : Option (Int × zM) :=
  zb2 (F_X1_addStep 4 (w ((((t0 * 3) + (v2 - 60)) * 10) + (v3 - 48))) M) fun r1 M2 => ( zchk ((0 : Int) ≤ r1 ∧ (r1 : Int) ≤ 1) ( some (r1, M2)))
def F_X1_readComparison_J29 (v1 : Int) (M : zM) : Option (Int × zM) :=
  zlet (zs M 2 4 (w ((M 2 4) + 1))) fun M6 => ( zb1 (F_X1_characterAt (M6 2 4) M6) fun r8 => ( if r8 < 60 then (some (0, M6)) else (if 62 < r8 then (some (0, M6)) else (zlet (zs M6 2 4 (w ((M6 2 4) + 1))) fun M13 => ( zb1 (F_X1_characterAt (M13 2 4) M13) fun r15 => ( if r15 < 48 then (some (0, M13)) else (if 57 < r15 then (some (0, M13)) else (zlet (zs M13 2 4 (w ((M13 2 4) + 1))) fun M20 => ( if v1 = 35 then (F_X1_readComparison_J119 r8 r15 3 M20) else (F_X1_readComparison_J119 r8 r15 (w (v1 - 97)) M20))))))))))
def F_X1_readComparison (M : zM) : Option (Int × zM) :=
  zb1 (F_X1_characterAt (M 2 4) M) fun r23 => ( if r23 = 35 then (F_X1_readComparison_J29 r23 M) else (if r23 < 97 then (some (0, M)) else (if 99 < r23 then (some (0, M)) else (F_X1_readComparison_J29 r23 M))))
def F_X1_readCondition_J106 (rc : Nat → Int → zM → Option (Int × zM)) (M : zM) : Option (Int × zM) :=
  some (0, M)
def F_X1_readCondition_J227 (rc : Nat → Int → zM → Option (Int × zM)) (M : zM) : Option (Int × zM) :=
  some (0, M)
def F_X1_readCondition_J146 (rc : Nat → Int → zM → Option (Int × zM)) (M : zM) : Option (Int × zM) :=
  some (0, M)
def F_X1_readCondition_J170 (rc : Nat → Int → zM → Option (Int × zM)) (M : zM) : Option (Int × zM) :=
  some (0, M)
def F_X1_readCondition_J198 (rc : Nat → Int → zM → Option (Int × zM)) (M : zM) : Option (Int × zM) :=
  some (0, M)
def F_X1_readCondition_J256 (rc : Nat → Int → zM → Option (Int × zM)) (M : zM) : Option (Int × zM) :=
  some (0, M)
def F_X1_readCondition (rc : Nat → Int → zM → Option (Int × zM)) (v1 : Int) (M : zM) : Option (Int × zM) :=
  zb1 (F_X1_characterAt (M 2 4) M) fun r2 => ( if r2 = 33 then (if v1 < 6 then (zb2 (F_X1_skip 33 M) fun r6 M7 => ( if r6 = 0 then (F_X1_readCondition_J106 rc M7) else (zb2 (rc 2 (w (v1 + 1)) M7) fun r10 M11 => ( if r10 = 0 then (F_X1_readCondition_J106 rc M11) else (zb2 (F_X1_addStep 1 0 M11) fun r14 M15 => ( if r14 = 0 then (F_X1_readCondition_J106 rc M15) else (some (1, M15)))))))) else (F_X1_readCondition_J106 rc M)) else (if r2 = 36 then (zb2 (F_X1_skip 36 M) fun r19 M20 => ( if r19 = 0 then (F_X1_readCondition_J227 rc M20) else (zb2 (F_X1_readLetters 3 M20) fun r23 M24 => ( zb2 (F_X1_addPattern 6 r23 M24) fun r26 M27 => ( if r26 = 0 then (F_X1_readCondition_J227 rc M27) else (some (1, M27))))))) else (if r2 = 40 then (if v1 < 6 then (zb2 (F_X1_skip 40 M) fun r32 M33 => ( if r32 = 0 then (F_X1_readCondition_J146 rc M33) else (zb2 (rc 0 (w (v1 + 1)) M33) fun r36 M37 => ( if r36 = 0 then (F_X1_readCondition_J146 rc M37) else (zb2 (F_X1_skip 41 M37) fun r40 M41 => ( if r40 = 0 then (F_X1_readCondition_J146 rc M41) else (some (1, M41)))))))) else (F_X1_readCondition_J146 rc M)) else (if r2 = 42 then (zb2 (F_X1_skip 42 M) fun r45 M46 => ( if r45 = 0 then (F_X1_readCondition_J170 rc M46) else (zb2 (F_X1_addStep 0 0 M46) fun r49 M50 => ( if r49 = 0 then (F_X1_readCondition_J170 rc M50) else (some (1, M50)))))) else (if r2 = 94 then (zb2 (F_X1_skip 94 M) fun r54 M55 => ( if r54 = 0 then (F_X1_readCondition_J198 rc M55) else (zb2 (F_X1_readLetters 3 M55) fun r58 M59 => ( zb2 (F_X1_addPattern 5 r58 M59) fun r61 M62 => ( if r61 = 0 then (F_X1_readCondition_J198 rc M62) else (some (1, M62))))))) else (if r2 = 126 then (zb2 (F_X1_skip 126 M) fun r66 M67 => ( if r66 = 0 then (F_X1_readCondition_J256 rc M67) else (zb2 (F_X1_readLetters 3 M67) fun r70 M71 => ( zb2 (F_X1_addPattern 7 r70 M71) fun r73 M74 => ( if r73 = 0 then (F_X1_readCondition_J256 rc M74) else (some (1, M74))))))) else (zb2 (F_X1_readComparison M) fun r77 M78 => ( zchk ((0 : Int) ≤ r77 ∧ (r77 : Int) ≤ 1) ( some (r77, M78))))))))))
def F_X1_readConjunction_J56 (rc : Nat → Int → zM → Option (Int × zM)) (v2 : Int) (M : zM) : Option (Int × zM) :=
  zchk ((0 : Int) ≤ v2 ∧ (v2 : Int) ≤ 1) ( some (v2, M))
def F_X1_readConjunction_J49 (rc : Nat → Int → zM → Option (Int × zM)) (v1 : Int) (v3 : Int) (t0 : Int) (M : zM) : Option ((Int × Int × zM) ⊕ (Int × zM)) :=
  zlet (w (v3 + 1)) fun x2 => ( some (.inl (t0, x2, M)))
def F_X1_readConjunction_J48 (rc : Nat → Int → zM → Option (Int × zM)) (v1 : Int) (v3 : Int) (M : zM) : Option ((Int × Int × zM) ⊕ (Int × zM)) :=
  F_X1_readConjunction_J49 rc v1 v3 0 M
def F_X1_readConjunction_B8 (rc : Nat → Int → zM → Option (Int × zM)) (v1 : Int) (v2 : Int) (v3 : Int) (M : zM) : Option ((Int × Int × zM) ⊕ (Int × zM)) :=
  if v3 < 60 then (if v2 = 0 then (some (.inr (v2, M))) else (zb2 (F_X1_skip 38 M) fun r5 M6 => ( if r5 = 0 then (some (.inr (v2, M6))) else (zb2 (rc 2 v1 M6) fun r9 M10 => ( if r9 = 0 then (F_X1_readConjunction_J48 rc v1 v3 M10) else (zb2 (F_X1_addStep 2 0 M10) fun r13 M14 => ( if r13 = 0 then (F_X1_readConjunction_J48 rc v1 v3 M14) else (F_X1_readConjunction_J49 rc v1 v3 1 M14)))))))) else (some (.inr (v2, M)))
def F_X1_readConjunction_L8 (rc : Nat → Int → zM → Option (Int × zM)) (v1 : Int) (v2 : Int) (v3 : Int) (M : zM) : Option (Int × zM) :=
  zb1 (zloop (fun (s : Int × Int × zM) => F_X1_readConjunction_B8 rc v1 s.1 s.2.1 s.2.2) zN (v2, v3, M)) (fun (e : Int × zM) => F_X1_readConjunction_J56 rc e.1 e.2)
def F_X1_readConjunction (rc : Nat → Int → zM → Option (Int × zM)) (v1 : Int) (M : zM) : Option (Int × zM) :=
  zb2 (rc 2 v1 M) fun r17 M18 => ( F_X1_readConjunction_L8 rc v1 r17 0 M18)
def F_X1_readAlternatives_J56 (rc : Nat → Int → zM → Option (Int × zM)) (v2 : Int) (M : zM) : Option (Int × zM) :=
  zchk ((0 : Int) ≤ v2 ∧ (v2 : Int) ≤ 1) ( some (v2, M))
def F_X1_readAlternatives_J49 (rc : Nat → Int → zM → Option (Int × zM)) (v1 : Int) (v3 : Int) (t0 : Int) (M : zM) : Option ((Int × Int × zM) ⊕ (Int × zM)) :=
  zlet (w (v3 + 1)) fun x2 => ( some (.inl (t0, x2, M)))
def F_X1_readAlternatives_J48 (rc : Nat → Int → zM → Option (Int × zM)) (v1 : Int) (v3 : Int) (M : zM) : Option ((Int × Int × zM) ⊕ (Int × zM)) :=
  F_X1_readAlternatives_J49 rc v1 v3 0 M
def F_X1_readAlternatives_B8 (rc : Nat → Int → zM → Option (Int × zM)) (v1 : Int) (v2 : Int) (v3 : Int) (M : zM) : Option ((Int × Int × zM) ⊕ (Int × zM)) :=
  if v3 < 60 then (if v2 = 0 then (some (.inr (v2, M))) else (zb2 (F_X1_skip 124 M) fun r5 M6 => ( if r5 = 0 then (some (.inr (v2, M6))) else (zb2 (rc 1 v1 M6) fun r9 M10 => ( if r9 = 0 then (F_X1_readAlternatives_J48 rc v1 v3 M10) else (zb2 (F_X1_addStep 3 0 M10) fun r13 M14 => ( if r13 = 0 then (F_X1_readAlternatives_J48 rc v1 v3 M14) else (F_X1_readAlternatives_J49 rc v1 v3 1 M14)))))))) else (some (.inr (v2, M)))
def F_X1_readAlternatives_L8 (rc : Nat → Int → zM → Option (Int × zM)) (v1 : Int) (v2 : Int) (v3 : Int) (M : zM) : Option (Int × zM) :=
  zb1 (zloop (fun (s : Int × Int × zM) => F_X1_readAlternatives_B8 rc v1 s.1 s.2.1 s.2.2) zN (v2, v3, M)) (fun (e : Int × zM) => F_X1_readAlternatives_J56 rc e.1 e.2)
def F_X1_readAlternatives (rc : Nat → Int → zM → Option (Int × zM)) (v1 : Int) (M : zM) : Option (Int × zM) :=
  zb2 (rc 1 v1 M) fun r17 M18 => ( F_X1_readAlternatives_L8 rc v1 r17 0 M18)
def F_GP (n : Nat) (k : Nat) (v1 : Int) (M : zM) : Option (Int × zM) := match n with
  | 0 => none
  | n + 1 => if k = 0 then F_X1_readAlternatives (F_GP n) v1 M else if k = 1 then F_X1_readConjunction (F_GP n) v1 M else F_X1_readCondition (F_GP n) v1 M
def F_X1_readContext_J57 (M : zM) : Option (Int × zM) :=
  some (0, M)
def F_X1_readContext (M : zM) : Option (Int × zM) :=
  zb2 (F_X1_readLetters 3 M) fun r1 M2 => ( zlet (zs M2 2 6 r1) fun M4 => ( if (M4 2 6) = 0 then (some (0, M4)) else (zb2 (F_X1_skip 44 M4) fun r7 M8 => ( if r7 = 0 then (some (0, M8)) else (zb2 (F_X1_readLetters 3 M8) fun r11 M12 => ( zlet (zs M12 2 7 r11) fun M14 => ( zb2 (F_X1_skip 32 M14) fun r15 M16 => ( if r15 = 0 then (F_X1_readContext_J57 M16) else (zb2 (F_GP 40 0 0 M16) fun r19 M20 => ( if r19 = 0 then (F_X1_readContext_J57 M20) else (some (1, M20))))))))))))
def F_X1_modeName (v0 : Int) : Option (Nat) :=
  if v0 = 0 then (some 4) else (if v0 = 1 then (some 5) else (if v0 = 2 then (some 6) else (if v0 = 3 then (some 7) else (some 8))))
def F_X1_readMode_J59 (v1 : Int) (v2 : Int) (M : zM) : Option (Int × zM) :=
  zlet (zs M 2 4 (w ((M 2 4) + v1))) fun M2 => ( zchk ((0 : Int) ≤ v2 ∧ (v2 : Int) ≤ 1) ( some (v2, M2)))
def F_X1_readMode_J53 (v1 : Int) (v2 : Int) (v3 : Int) (M : zM) : Option ((Int × Int × Int × zM) ⊕ (Int × Int × zM)) :=
  zlet (w (v3 + 1)) fun x4 => ( some (.inl (v1, v2, x4, M)))
def F_X1_readMode_B6 (v1 : Int) (v2 : Int) (v3 : Int) (M : zM) : Option ((Int × Int × Int × zM) ⊕ (Int × Int × zM)) :=
  if v3 < 5 then (if v2 = 0 then (zb1 (F_X1_modeName v3) fun r7 => ( zb1 (F_X1_sameCharacters r7 M) fun r9 => ( zlet (zmax v1 r9) fun x11 => ( zchk (r7 < 9) ( if r9 = (zsl r7) then (zlet (zs M 2 8 v3) fun M14 => ( F_X1_readMode_J53 x11 1 v3 M14)) else (F_X1_readMode_J53 x11 v2 v3 M)))))) else (some (.inr (v1, v2, M)))) else (some (.inr (v1, v2, M)))
def F_X1_readMode_L6 (v1 : Int) (v2 : Int) (v3 : Int) (M : zM) : Option (Int × zM) :=
  zb1 (zloop (fun (s : Int × Int × Int × zM) => F_X1_readMode_B6 s.1 s.2.1 s.2.2.1 s.2.2.2) zN (v1, v2, v3, M)) (fun (e : Int × Int × zM) => F_X1_readMode_J59 e.1 e.2.1 e.2.2)
def F_X1_readMode (M : zM) : Option (Int × zM) :=
  F_X1_readMode_L6 0 0 0 M
def F_X1_readLimit (M : zM) : Option (Int × zM) :=
  zb1 (F_X1_characterAt (M 2 4) M) fun r2 => ( if r2 < 49 then (some (0, M)) else (if 57 < r2 then (some (0, M)) else (zlet (zs M 2 8 (w (r2 - 48))) fun M6 => ( zlet (zs M6 2 4 (w ((M6 2 4) + 1))) fun M8 => ( some (1, M8))))))
def F_X1_read_J101 (M : zM) : Option (Int × zM) :=
  some ((-1), M)
def F_X1_read_J82 (v1 : Int) (v2 : Int) (M : zM) : Option (Int × zM) :=
  if v2 = 0 then (F_X1_read_J101 M) else (if (M 2 4) = (M 2 3) then (some (v1, M)) else (F_X1_read_J101 M))
def F_X1_read (M : zM) : Option (Int × zM) :=
  zlet (zs M 2 4 0) fun M5 => ( zlet (zs M5 2 2 0) fun M6 => ( zb2 (F_X1_readKind M6) fun r7 M8 => ( if r7 = 0 then (zb2 (F_X1_readAxiom M8) fun r11 M12 => ( F_X1_read_J82 r7 r11 M12)) else (if r7 = 1 then (zb2 (F_X1_readContext M8) fun r15 M16 => ( F_X1_read_J82 r7 r15 M16)) else (if r7 = 2 then (zb2 (F_X1_readMode M8) fun r19 M20 => ( F_X1_read_J82 r7 r19 M20)) else (if r7 = 3 then (zb2 (F_X1_readLimit M8) fun r23 M24 => ( F_X1_read_J82 r7 r23 M24)) else (F_X1_read_J82 r7 0 M8)))))))
def F_X2_init (v0 : Nat) (M : zM) (S : zS) : Option (zM × zS) :=
  zchk (¬ v0 = 0) ( zlet (S.1 + 1) fun q2 => ( zlet (zn S (20, 6)) fun S3 => ( zchk (zkd S3 v0 = 2) ( zlet (zq S3 v0 0 q2) fun S5 => ( zlet (S5.1 + 1) fun q6 => ( zlet (zn S5 (25, 5)) fun S7 => ( zchk (zkd S7 v0 = 2) ( zlet (zq S7 v0 1 q6) fun S9 => ( zchk (zkd S9 v0 = 2) ( zlet (zs M v0 4 1) fun M11 => ( zchk (zkd S9 v0 = 2) ( zlet (zs M11 v0 5 6) fun M13 => ( some (M13, S9))))))))))))))
def F_X2_copyFrom_a_J53 (M : zM) (S : zS) : Option (zM × zS) :=
  zlet (zs M 5 2 (M 8 2)) fun M2 => ( zlet (zs M2 5 3 (M2 8 3)) fun M4 => ( zlet (zs M4 5 4 (M4 8 4)) fun M6 => ( zlet (zs M6 5 5 (M6 8 5)) fun M8 => ( some (M8, S)))))
def F_X2_copyFrom_a_B17 (v2 : Int) (M : zM) (S : zS) : Option ((Int × zS) ⊕ (zS)) :=
  if v2 < 5 then (if v2 < 5 then (zchk ((0 : Int) ≤ v2 ∧ v2 < 5) ( zchk ((0 : Int) ≤ v2 ∧ v2 < 5) ( zchk ((zrf S 10 v2) = 0 ∨ zkd S (zrf S 10 v2) = 0) ( zlet (zq S 7 v2 (zrf S 10 v2)) fun S14 => ( zlet (w (v2 + 1)) fun x16 => ( some (.inl (x16, S14)))))))) else (some (.inr S))) else (some (.inr S))
def F_X2_copyFrom_a_L17 (v2 : Int) (M : zM) (S : zS) : Option (zM × zS) :=
  zb1 (zloop (fun (s : Int × zS) => F_X2_copyFrom_a_B17 s.1 M s.2) zN (v2, S)) (fun (e : zS) => F_X2_copyFrom_a_J53 M e)
def F_X2_copyFrom_a (M : zM) (S : zS) : Option (zM × zS) :=
  zchk ((0 : Int) ≤ 0 ∧ (0 : Int) ≤ 0 ∧ (0 : Int) ≤ 6 ∧ (0 + 6 : Int) ≤ 6 ∧ (0 + 6 : Int) ≤ 6) ( zlet (zcpy M 9 0 6 0 6) fun M18 => ( F_X2_copyFrom_a_L17 0 M18 S))
def F_X2_copyFrom_b_J53 (M : zM) (S : zS) : Option (zM × zS) :=
  zlet (zs M 8 2 (M 5 2)) fun M2 => ( zlet (zs M2 8 3 (M2 5 3)) fun M4 => ( zlet (zs M4 8 4 (M4 5 4)) fun M6 => ( zlet (zs M6 8 5 (M6 5 5)) fun M8 => ( some (M8, S)))))
def F_X2_copyFrom_b_B17 (v2 : Int) (M : zM) (S : zS) : Option ((Int × zS) ⊕ (zS)) :=
  if v2 < 5 then (if v2 < 5 then (zchk ((0 : Int) ≤ v2 ∧ v2 < 5) ( zchk ((0 : Int) ≤ v2 ∧ v2 < 5) ( zchk ((zrf S 7 v2) = 0 ∨ zkd S (zrf S 7 v2) = 0) ( zlet (zq S 10 v2 (zrf S 7 v2)) fun S14 => ( zlet (w (v2 + 1)) fun x16 => ( some (.inl (x16, S14)))))))) else (some (.inr S))) else (some (.inr S))
def F_X2_copyFrom_b_L17 (v2 : Int) (M : zM) (S : zS) : Option (zM × zS) :=
  zb1 (zloop (fun (s : Int × zS) => F_X2_copyFrom_b_B17 s.1 M s.2) zN (v2, S)) (fun (e : zS) => F_X2_copyFrom_b_J53 M e)
def F_X2_copyFrom_b (M : zM) (S : zS) : Option (zM × zS) :=
  zchk ((0 : Int) ≤ 0 ∧ (0 : Int) ≤ 0 ∧ (0 : Int) ≤ 6 ∧ (0 + 6 : Int) ≤ 6 ∧ (0 + 6 : Int) ≤ 6) ( zlet (zcpy M 6 0 9 0 6) fun M18 => ( F_X2_copyFrom_b_L17 0 M18 S))
def F_X6_at_J10 (M : zM) (S : zS) : Option (Int) :=
  some 0
def F_X6_at (v0 : Nat) (v1 : Int) (M : zM) (S : zS) : Option (Int) :=
  if v1 < 0 then (F_X6_at_J10 M S) else (zchk (zkd S v0 = 20) ( if v1 < (zlen S v0) then (zchk (zkd S v0 = 20) ( zchk ((0 : Int) ≤ v1 ∧ v1 < (zlen S v0)) ( some (M v0 v1)))) else (F_X6_at_J10 M S)))
def F_X2_axiom (v1 : Int) (M : zM) (S : zS) : Option (Int) :=
  zb1 (F_X6_at 6 v1 M S) fun r1 => ( some r1)
def F_X2_hasAxiom_J27 (M : zM) (S : zS) : Option (Int) :=
  some 0
def F_X2_hasAxiom_J19 (M : zM) (S : zS) : Option (Int) :=
  some 1
def F_X2_hasAxiom_B2 (v1 : Int) (v2 : Int) (M : zM) (S : zS) : Option ((Int) ⊕ ((Unit) ⊕ (Unit))) :=
  if v2 < (M 5 2) then (zb1 (F_X2_axiom v2 M S) fun r3 => ( if r3 = v1 then (some (.inr (.inl ()))) else (zlet (w (v2 + 1)) fun x6 => ( some (.inl x6))))) else (some (.inr (.inr ())))
def F_X2_hasAxiom_L2 (v1 : Int) (v2 : Int) (M : zM) (S : zS) : Option (Int) :=
  zb1 (zloop (fun (s : Int) => F_X2_hasAxiom_B2 v1 s M S) zN v2) (Sum.elim (fun (e : Unit) => F_X2_hasAxiom_J19 M S) (fun (e : Unit) => F_X2_hasAxiom_J27 M S))
def F_X2_hasAxiom (v1 : Int) (M : zM) (S : zS) : Option (Int) :=
  F_X2_hasAxiom_L2 v1 0 M S
def F_X6_put (v0 : Nat) (v1 : Int) (v2 : Int) (M : zM) (S : zS) : Option (zM) :=
  if v1 < 0 then (some M) else (zchk (zkd S v0 = 20) ( if v1 < (zlen S v0) then (zchk (zkd S v0 = 20) ( zchk ((0 : Int) ≤ v1 ∧ v1 < (zlen S v0)) ( zlet (zs M v0 v1 v2) fun M7 => ( some M7)))) else (some M)))
def F_X2_putAxiom (v1 : Int) (M : zM) (S : zS) : Option (zM) :=
  zb1 (F_X6_put 6 (M 5 2) v1 M S) fun M2 => ( zlet (zs M2 5 2 (w ((M2 5 2) + 1))) fun M5 => ( some M5))
def F_X2_dropAxiom_J33 (M : zM) (S : zS) : Option (zM) :=
  zlet (zs M 5 2 (w ((M 5 2) - 1))) fun M2 => ( some M2)
def F_X2_dropAxiom_B4 (v2 : Int) (M : zM) (S : zS) : Option ((Int × zM) ⊕ (zM)) :=
  if v2 < (M 5 2) then (zb1 (F_X2_axiom v2 M S) fun r5 => ( zb1 (F_X6_put 6 (w (v2 - 1)) r5 M S) fun M7 => ( zlet (w (v2 + 1)) fun x9 => ( some (.inl (x9, M7)))))) else (some (.inr M))
def F_X2_dropAxiom_L4 (v2 : Int) (M : zM) (S : zS) : Option (zM) :=
  zb1 (zloop (fun (s : Int × zM) => F_X2_dropAxiom_B4 s.1 s.2 S) zN (v2, M)) (fun (e : zM) => F_X2_dropAxiom_J33 e S)
def F_X2_dropAxiom (v1 : Int) (M : zM) (S : zS) : Option (zM) :=
  zlet (w (v1 + 1)) fun x10 => ( F_X2_dropAxiom_L4 x10 M S)
def F_X2_context_J13 (S : zS) : Option (Nat) :=
  some 0
def F_X2_context (v1 : Int) (S : zS) : Option (Nat) :=
  if v1 < 0 then (F_X2_context_J13 S) else (if v1 < 5 then (zchk ((0 : Int) ≤ v1 ∧ v1 < 5) ( some (zrf S 7 v1))) else (F_X2_context_J13 S))
def F_X2_allContexts (M : zM) : Option (Int) :=
  some (w ((zshl 1 (M 5 3)) - 1))
def F_X2_putContext (v1 : Nat) (M : zM) (S : zS) : Option (zM × zS) :=
  if (M 5 3) < 0 then (some (M, S)) else (if (M 5 3) < 5 then (zchk ((0 : Int) ≤ (M 5 3) ∧ (M 5 3) < 5) ( zchk (v1 = 0 ∨ zkd S v1 = 0) ( zlet (zq S 7 (M 5 3) v1) fun S8 => ( zlet (zs M 5 3 (w ((M 5 3) + 1))) fun M11 => ( some (M11, S8)))))) else (some (M, S)))
def F_X2_dropContext_J34 (M : zM) (S : zS) : Option (zM × zS) :=
  zlet (zs M 5 3 (w ((M 5 3) - 1))) fun M2 => ( some (M2, S))
def F_X2_dropContext_B2 (v2 : Int) (M : zM) (S : zS) : Option ((Int × zS) ⊕ (zS)) :=
  if v2 < 0 then (some (.inr S)) else (if v2 < 5 then (zb1 (F_X2_context (w (v2 + 1)) S) fun r5 => ( zchk ((0 : Int) ≤ v2 ∧ v2 < 5) ( zchk (r5 = 0 ∨ zkd S r5 = 0) ( zlet (zq S 7 v2 r5) fun S9 => ( zlet (w (v2 + 1)) fun x11 => ( some (.inl (x11, S9)))))))) else (some (.inr S)))
def F_X2_dropContext_L2 (v2 : Int) (M : zM) (S : zS) : Option (zM × zS) :=
  zb1 (zloop (fun (s : Int × zS) => F_X2_dropContext_B2 s.1 M s.2) zN (v2, S)) (fun (e : zS) => F_X2_dropContext_J34 M e)
def F_X2_dropContext (v1 : Int) (M : zM) (S : zS) : Option (zM × zS) :=
  F_X2_dropContext_L2 v1 M S
def F_X4_of (v0 : Int) (v1 : Int) (v2 : Int) (v3 : Int) : Option (Int) :=
  some (zor (zor (zor (zshl v0 11) (zshl v1 8)) (zshl v2 4)) v3)
def F_X2_findInsertions_J134 (v4 : Int) (M : zM) (S : zS) : Option (Int × zM) :=
  some (v4, M)
def F_X2_findInsertions_J128 (v1 : Int) (v2 : Nat) (v3 : Int) (v4 : Int) (v5 : Int) (M : zM) (S : zS) : Option ((Int × Int × zM) ⊕ (Int × zM)) :=
  zlet (w (v5 + 1)) fun x1 => ( some (.inl (v4, x1, M)))
def F_X2_findInsertions_J122 (v1 : Int) (v2 : Nat) (v3 : Int) (v4 : Int) (v5 : Int) (v6 : Nat) (v7 : Int) (M : zM) (S : zS) : Option ((Int × Int × zM) ⊕ (Int × zM)) :=
  zlet (w (v7 + 1)) fun x2 => ( some (.inl (v4, x2, M)))
def F_X2_findInsertions_J116 (v1 : Int) (v2 : Nat) (v3 : Int) (v4 : Int) (v5 : Int) (v6 : Nat) (v7 : Int) (v8 : Int) (M : zM) (S : zS) : Option ((Int × Int × zM) ⊕ (Int × zM)) :=
  zlet (w (v8 + 1)) fun x3 => ( some (.inl (v4, x3, M)))
def F_X2_findInsertions_B63 (v1 : Int) (v2 : Nat) (v3 : Int) (v4 : Int) (v5 : Int) (v6 : Nat) (v7 : Int) (v8 : Int) (M : zM) (S : zS) : Option ((Int × Int × zM) ⊕ (Int × zM)) :=
  if v3 < v8 then (some (.inr (v4, M))) else (zchk (zkd S v6 = 0) ( zb2 (F_X0_selects v6 (M 5 4) v1 v3 v7 v8 M S) fun r7 M8 => ( if r7 = 0 then (F_X2_findInsertions_J116 v1 v2 v3 v4 v5 v6 v7 v8 M8 S) else (zchk (zkd S v6 = 0) ( zb1 (F_X0_putAround v6 v1 v3 v7 v8 M8 S) fun r12 => ( zb1 (F_X4_of r12 v5 v7 v8) fun r14 => ( zb1 (F_X6_put v2 v4 r14 M8 S) fun M16 => ( zlet (w (v4 + 1)) fun x18 => ( F_X2_findInsertions_J116 v1 v2 v3 x18 v5 v6 v7 v8 M16 S)))))))))
def F_X2_findInsertions_L63 (v1 : Int) (v2 : Nat) (v3 : Int) (v4 : Int) (v5 : Int) (v6 : Nat) (v7 : Int) (v8 : Int) (M : zM) (S : zS) : Option ((Int × Int × zM) ⊕ (Int × zM)) :=
  zb1 (zloop (fun (s : Int × Int × zM) => F_X2_findInsertions_B63 v1 v2 v3 s.1 v5 v6 v7 s.2.1 s.2.2 S) zN (v4, v8, M)) (fun (e : Int × zM) => F_X2_findInsertions_J122 v1 v2 v3 e.1 v5 v6 v7 e.2 S)
def F_X2_findInsertions_B53 (v1 : Int) (v2 : Nat) (v3 : Int) (v4 : Int) (v5 : Int) (v6 : Nat) (v7 : Int) (M : zM) (S : zS) : Option ((Int × Int × zM) ⊕ (Int × zM)) :=
  if v3 < v7 then (some (.inr (v4, M))) else (F_X2_findInsertions_L63 v1 v2 v3 v4 v5 v6 v7 v7 M S)
def F_X2_findInsertions_L53 (v1 : Int) (v2 : Nat) (v3 : Int) (v4 : Int) (v5 : Int) (v6 : Nat) (v7 : Int) (M : zM) (S : zS) : Option ((Int × Int × zM) ⊕ (Int × zM)) :=
  zb1 (zloop (fun (s : Int × Int × zM) => F_X2_findInsertions_B53 v1 v2 v3 s.1 v5 v6 s.2.1 s.2.2 S) zN (v4, v7, M)) (fun (e : Int × zM) => F_X2_findInsertions_J128 v1 v2 v3 e.1 v5 e.2 S)
def F_X2_findInsertions_B11 (v1 : Int) (v2 : Nat) (v3 : Int) (v4 : Int) (v5 : Int) (M : zM) (S : zS) : Option ((Int × Int × zM) ⊕ (Int × zM)) :=
  if v5 < (M 5 3) then (zb1 (F_X2_context v5 S) fun r22 => ( if r22 = 0 then (F_X2_findInsertions_J128 v1 v2 v3 v4 v5 M S) else (zchk (zkd S r22 = 0) ( zb1 (F_X0_growth r22 M S) fun r26 => ( if (M 5 5) < (w (v3 + r26)) then (F_X2_findInsertions_J128 v1 v2 v3 v4 v5 M S) else (F_X2_findInsertions_L53 v1 v2 v3 v4 v5 r22 0 M S)))))) else (some (.inr (v4, M)))
def F_X2_findInsertions_L11 (v1 : Int) (v2 : Nat) (v3 : Int) (v4 : Int) (v5 : Int) (M : zM) (S : zS) : Option (Int × zM) :=
  zb1 (zloop (fun (s : Int × Int × zM) => F_X2_findInsertions_B11 v1 v2 v3 s.1 s.2.1 s.2.2 S) zN (v4, v5, M)) (fun (e : Int × zM) => F_X2_findInsertions_J134 e.1 e.2 S)
def F_X2_findInsertions (v1 : Int) (v2 : Nat) (M : zM) (S : zS) : Option (Int × zM) :=
  zb1 (F_X9_length v1) fun r30 => ( F_X2_findInsertions_L11 v1 v2 r30 0 0 M S)
def F_X2_findReductions_J165 (v4 : Int) (M : zM) (S : zS) : Option (Int × zM) :=
  some (v4, M)
def F_X2_findReductions_J159 (v1 : Int) (v2 : Nat) (v3 : Int) (v4 : Int) (v5 : Int) (M : zM) (S : zS) : Option ((Int × Int × zM) ⊕ (Int × zM)) :=
  zlet (w (v5 + 1)) fun x1 => ( some (.inl (v4, x1, M)))
def F_X2_findReductions_J153 (v1 : Int) (v2 : Nat) (v3 : Int) (v4 : Int) (v5 : Int) (v6 : Nat) (v7 : Int) (v8 : Int) (M : zM) (S : zS) : Option ((Int × Int × zM) ⊕ (Int × zM)) :=
  zlet (w (v8 + 1)) fun x2 => ( some (.inl (v4, x2, M)))
def F_X2_findReductions_J147 (v1 : Int) (v2 : Nat) (v3 : Int) (v4 : Int) (v5 : Int) (v6 : Nat) (v7 : Int) (v8 : Int) (v9 : Int) (M : zM) (S : zS) : Option ((Int × Int × zM) ⊕ (Int × zM)) :=
  zlet (w (v9 + 1)) fun x3 => ( some (.inl (v4, x3, M)))
def F_X2_findReductions_B82 (v1 : Int) (v2 : Nat) (v3 : Int) (v4 : Int) (v5 : Int) (v6 : Nat) (v7 : Int) (v8 : Int) (v9 : Int) (M : zM) (S : zS) : Option ((Int × Int × zM) ⊕ (Int × zM)) :=
  if v7 < v9 then (some (.inr (v4, M))) else (zchk (zkd S v6 = 0) ( zb1 (F_X0_takeAway v6 v1 v3 v8 v9 M S) fun r6 => ( if r6 < 0 then (F_X2_findReductions_J147 v1 v2 v3 v4 v5 v6 v7 v8 v9 M S) else (zchk (zkd S v6 = 0) ( zb2 (F_X0_selects v6 (M 5 4) r6 v7 v8 v9 M S) fun r11 M12 => ( if r11 = 0 then (F_X2_findReductions_J147 v1 v2 v3 v4 v5 v6 v7 v8 v9 M12 S) else (zb1 (F_X4_of r6 v5 v8 v9) fun r15 => ( zb1 (F_X6_put v2 v4 r15 M12 S) fun M17 => ( zlet (w (v4 + 1)) fun x19 => ( F_X2_findReductions_J147 v1 v2 v3 x19 v5 v6 v7 v8 v9 M17 S))))))))))
def F_X2_findReductions_L82 (v1 : Int) (v2 : Nat) (v3 : Int) (v4 : Int) (v5 : Int) (v6 : Nat) (v7 : Int) (v8 : Int) (v9 : Int) (M : zM) (S : zS) : Option ((Int × Int × zM) ⊕ (Int × zM)) :=
  zb1 (zloop (fun (s : Int × Int × zM) => F_X2_findReductions_B82 v1 v2 v3 s.1 v5 v6 v7 v8 s.2.1 s.2.2 S) zN (v4, v9, M)) (fun (e : Int × zM) => F_X2_findReductions_J153 v1 v2 v3 e.1 v5 v6 v7 v8 e.2 S)
def F_X2_findReductions_B56 (v1 : Int) (v2 : Nat) (v3 : Int) (v4 : Int) (v5 : Int) (v6 : Nat) (v7 : Int) (v8 : Int) (M : zM) (S : zS) : Option ((Int × Int × zM) ⊕ (Int × zM)) :=
  if v7 < v8 then (some (.inr (v4, M))) else (zchk (zkd S v6 = 0) ( zb1 (F_X0_leftStandsAt v6 v1 v3 v8 M S) fun r22 => ( if r22 = 0 then (F_X2_findReductions_J153 v1 v2 v3 v4 v5 v6 v7 v8 M S) else (F_X2_findReductions_L82 v1 v2 v3 v4 v5 v6 v7 v8 v8 M S))))
def F_X2_findReductions_L56 (v1 : Int) (v2 : Nat) (v3 : Int) (v4 : Int) (v5 : Int) (v6 : Nat) (v7 : Int) (v8 : Int) (M : zM) (S : zS) : Option ((Int × Int × zM) ⊕ (Int × zM)) :=
  zb1 (zloop (fun (s : Int × Int × zM) => F_X2_findReductions_B56 v1 v2 v3 s.1 v5 v6 v7 s.2.1 s.2.2 S) zN (v4, v8, M)) (fun (e : Int × zM) => F_X2_findReductions_J159 v1 v2 v3 e.1 v5 e.2 S)
def F_X2_findReductions_B11 (v1 : Int) (v2 : Nat) (v3 : Int) (v4 : Int) (v5 : Int) (M : zM) (S : zS) : Option ((Int × Int × zM) ⊕ (Int × zM)) :=
  if v5 < (M 5 3) then (if (M 5 5) < v3 then (some (.inr (v4, M))) else (zb1 (F_X2_context v5 S) fun r29 => ( if r29 = 0 then (F_X2_findReductions_J159 v1 v2 v3 v4 v5 M S) else (zchk (zkd S r29 = 0) ( zb1 (F_X0_growth r29 M S) fun r33 => ( zlet (w (v3 - r33)) fun x35 => ( F_X2_findReductions_L56 v1 v2 v3 v4 v5 r29 x35 0 M S))))))) else (some (.inr (v4, M)))
def F_X2_findReductions_L11 (v1 : Int) (v2 : Nat) (v3 : Int) (v4 : Int) (v5 : Int) (M : zM) (S : zS) : Option (Int × zM) :=
  zb1 (zloop (fun (s : Int × Int × zM) => F_X2_findReductions_B11 v1 v2 v3 s.1 s.2.1 s.2.2 S) zN (v4, v5, M)) (fun (e : Int × zM) => F_X2_findReductions_J165 e.1 e.2 S)
def F_X2_findReductions (v1 : Int) (v2 : Nat) (M : zM) (S : zS) : Option (Int × zM) :=
  zb1 (F_X9_length v1) fun r36 => ( F_X2_findReductions_L11 v1 v2 r36 0 0 M S)
def F_X3_init (v0 : Nat) (S : zS) : Option (zS) :=
  zchk (¬ v0 = 0) ( zlet (S.1 + 1) fun q2 => ( zlet (zn S (20, 300)) fun S3 => ( zchk (zkd S3 v0 = 3) ( zlet (zq S3 v0 0 q2) fun S5 => ( zlet (S5.1 + 1) fun q6 => ( zlet (zn S5 (20, 29524)) fun S7 => ( zchk (zkd S7 v0 = 3) ( zlet (zq S7 v0 1 q6) fun S9 => ( zlet (S9.1 + 1) fun q10 => ( zlet (zn S9 (20, 67500)) fun S11 => ( zchk (zkd S11 v0 = 3) ( zlet (zq S11 v0 2 q10) fun S13 => ( zlet (S13.1 + 1) fun q14 => ( zlet (zn S13 (20, 301)) fun S15 => ( zchk (zkd S15 v0 = 3) ( zlet (zq S15 v0 3 q14) fun S17 => ( zlet (S17.1 + 1) fun q18 => ( zlet (zn S17 (20, 225)) fun S19 => ( zchk (zkd S19 v0 = 3) ( zlet (zq S19 v0 4 q18) fun S21 => ( zlet (S21.1 + 1) fun q22 => ( zlet (zn S21 (20, 300)) fun S23 => ( zchk (zkd S23 v0 = 3) ( zlet (zq S23 v0 5 q22) fun S25 => ( zlet (S25.1 + 1) fun q26 => ( zlet (zn S25 (20, 300)) fun S27 => ( zchk (zkd S27 v0 = 3) ( zlet (zq S27 v0 6 q26) fun S29 => ( zlet (S29.1 + 1) fun q30 => ( zlet (zn S29 (20, 300)) fun S31 => ( zchk (zkd S31 v0 = 3) ( zlet (zq S31 v0 7 q30) fun S33 => ( zlet (S33.1 + 1) fun q34 => ( zlet (zn S33 (20, 300)) fun S35 => ( zchk (zkd S35 v0 = 3) ( zlet (zq S35 v0 8 q34) fun S37 => ( zlet (S37.1 + 1) fun q38 => ( zlet (zn S37 (20, 300)) fun S39 => ( zchk (zkd S39 v0 = 3) ( zlet (zq S39 v0 9 q38) fun S41 => ( zlet (S41.1 + 1) fun q42 => ( zlet (zn S41 (20, 300)) fun S43 => ( zchk (zkd S43 v0 = 3) ( zlet (zq S43 v0 10 q42) fun S45 => ( zlet (S45.1 + 1) fun q46 => ( zlet (zn S45 (21, 300)) fun S47 => ( zchk (zkd S47 v0 = 3) ( zlet (zq S47 v0 11 q46) fun S49 => ( zlet (S49.1 + 1) fun q50 => ( zlet (zn S49 (20, 5)) fun S51 => ( zchk (zkd S51 v0 = 3) ( zlet (zq S51 v0 12 q50) fun S53 => ( some S53)))))))))))))))))))))))))))))))))))))))))))))))))))))
def F_X3_wordAt (v1 : Int) (M : zM) (S : zS) : Option (Int) :=
  zb1 (F_X6_at 12 v1 M S) fun r1 => ( some r1)
def F_J7_fill_53178_J20 (M : zM) (S : zS) : Option (zM) :=
  some M
def F_J7_fill_53178_B5 (v0 : Nat) (v1 : Int) (v2 : Int) (v3 : Int) (M : zM) (S : zS) : Option ((Int × zM) ⊕ (zM)) :=
  if v2 < v3 then (zchk (zkd S v0 = 20) ( zchk ((0 : Int) ≤ v2 ∧ v2 < (zlen S v0)) ( zlet (zs M v0 v2 v1) fun M4 => ( zlet (w (v2 + 1)) fun x5 => ( some (.inl (x5, M4))))))) else (some (.inr M))
def F_J7_fill_53178_L5 (v0 : Nat) (v1 : Int) (v2 : Int) (v3 : Int) (M : zM) (S : zS) : Option (zM) :=
  zb1 (zloop (fun (s : Int × zM) => F_J7_fill_53178_B5 v0 v1 s.1 v3 s.2 S) zN (v2, M)) (fun (e : zM) => F_J7_fill_53178_J20 e S)
def F_J7_fill_53178 (v0 : Nat) (v1 : Int) (M : zM) (S : zS) : Option (zM) :=
  zchk (zkd S v0 = 20) ( zlet (zlen S v0) fun x8 => ( F_J7_fill_53178_L5 v0 v1 0 x8 M S))
def F_X3_forget_J29 (M : zM) (S : zS) : Option (zM) :=
  zb1 (F_J7_fill_53178 17 0 M S) fun M1 => ( zb1 (F_J7_fill_53178 24 0 M1 S) fun M3 => ( zlet (zs M3 11 13 0) fun M5 => ( zlet (zs M5 11 14 0) fun M6 => ( zlet (zs M6 11 15 0) fun M7 => ( zlet (zs M7 11 16 0) fun M8 => ( zlet (zs M8 11 17 (-1)) fun M9 => ( some M9)))))))
def F_X3_forget_B2 (v1 : Int) (M : zM) (S : zS) : Option ((Int × zM) ⊕ (zM)) :=
  if v1 < (M 11 13) then (zb1 (F_X3_wordAt v1 M S) fun r12 => ( zb1 (F_X6_put 13 r12 0 M S) fun M14 => ( zlet (w (v1 + 1)) fun x16 => ( some (.inl (x16, M14)))))) else (some (.inr M))
def F_X3_forget_L2 (v1 : Int) (M : zM) (S : zS) : Option (zM) :=
  zb1 (zloop (fun (s : Int × zM) => F_X3_forget_B2 s.1 s.2 S) zN (v1, M)) (fun (e : zM) => F_X3_forget_J29 e S)
def F_X3_forget (M : zM) (S : zS) : Option (zM) :=
  F_X3_forget_L2 0 M S
def F_X6_putInOrder_J45 (v0 : Nat) (v2 : Int) (v3 : Int) (M : zM) (S : zS) : Option (zM) :=
  zb1 (F_X6_put v0 v3 v2 M S) fun M1 => ( some M1)
def F_X6_putInOrder_B7 (v0 : Nat) (v2 : Int) (v3 : Int) (v4 : Int) (M : zM) (S : zS) : Option ((Int × Int × zM) ⊕ (Int × zM)) :=
  if v4 < 0 then (some (.inr (v3, M))) else (zb1 (F_X6_at v0 v4 M S) fun r4 => ( if v2 < r4 then (zb1 (F_X6_at v0 v4 M S) fun r7 => ( zb1 (F_X6_put v0 (w (v4 + 1)) r7 M S) fun M9 => ( zlet (w (v4 + (-1))) fun x11 => ( some (.inl (v4, x11, M9)))))) else (some (.inr (v3, M)))))
def F_X6_putInOrder_L7 (v0 : Nat) (v2 : Int) (v3 : Int) (v4 : Int) (M : zM) (S : zS) : Option (zM) :=
  zb1 (zloop (fun (s : Int × Int × zM) => F_X6_putInOrder_B7 v0 v2 s.1 s.2.1 s.2.2 S) zN (v3, v4, M)) (fun (e : Int × zM) => F_X6_putInOrder_J45 v0 v2 e.1 e.2 S)
def F_X6_putInOrder (v0 : Nat) (v1 : Int) (v2 : Int) (M : zM) (S : zS) : Option (zM) :=
  zlet (w (v1 - 1)) fun x12 => ( F_X6_putInOrder_L7 v0 v2 v1 x12 M S)
def F_X3_addWord (v1 : Int) (M : zM) (S : zS) : Option (zM) :=
  zb1 (F_X6_at 13 v1 M S) fun r1 => ( if r1 = 0 then (if (M 11 13) < 300 then (zb1 (F_X6_put 13 v1 1 M S) fun M6 => ( zb1 (F_X6_putInOrder 12 (M6 11 13) v1 M6 S) fun M9 => ( zlet (zs M9 11 13 (w ((M9 11 13) + 1))) fun M12 => ( some M12)))) else (zlet (zs M 11 15 1) fun M13 => ( some M13))) else (some M))
def F_X4_word (v0 : Int) : Option (Int) :=
  some (zshr v0 11)
def F_X3_addResults_J52 (M : zM) (S : zS) : Option (zM) :=
  some M
def F_X3_addResults_B2 (v1 : Int) (v2 : Int) (M : zM) (S : zS) : Option ((Int × zM) ⊕ (zM)) :=
  if v2 < v1 then (zb1 (F_X6_at 16 v2 M S) fun r2 => ( zb1 (F_X4_word r2) fun r4 => ( zb1 (F_X3_addWord r4 M S) fun M6 => ( zb1 (F_X6_put 14 (M6 11 14) r2 M6 S) fun M9 => ( zlet (zs M9 11 14 (w ((M9 11 14) + 1))) fun M12 => ( zlet (w (v2 + 1)) fun x13 => ( some (.inl (x13, M12))))))))) else (some (.inr M))
def F_X3_addResults_L2 (v1 : Int) (v2 : Int) (M : zM) (S : zS) : Option (zM) :=
  zb1 (zloop (fun (s : Int × zM) => F_X3_addResults_B2 v1 s.1 s.2 S) zN (v2, M)) (fun (e : zM) => F_X3_addResults_J52 e S)
def F_X3_addResults (v1 : Int) (M : zM) (S : zS) : Option (zM) :=
  F_X3_addResults_L2 v1 0 M S
def F_X3_placeOf (v1 : Int) (M : zM) (S : zS) : Option (Int) :=
  zb1 (F_X6_at 13 v1 M S) fun r1 => ( some (w (r1 - 1)))
def F_X4_withWord (v0 : Int) (v1 : Int) : Option (Int) :=
  some (zor (zshl v1 11) (zand v0 2047))
def F_X3_numberWords_J109 (M : zM) (S : zS) : Option (zM) :=
  some M
def F_X3_numberWords_B78 (v2 : Int) (M : zM) (S : zS) : Option ((Int × zM) ⊕ (zM)) :=
  if v2 < (M 5 2) then (zb1 (F_X2_axiom v2 M S) fun r3 => ( zb1 (F_X3_placeOf r3 M S) fun r5 => ( zb1 (F_X6_put 17 r5 1 M S) fun M7 => ( zlet (w (v2 + 1)) fun x9 => ( some (.inl (x9, M7))))))) else (some (.inr M))
def F_X3_numberWords_L78 (v2 : Int) (M : zM) (S : zS) : Option (zM) :=
  zb1 (zloop (fun (s : Int × zM) => F_X3_numberWords_B78 s.1 s.2 S) zN (v2, M)) (fun (e : zM) => F_X3_numberWords_J109 e S)
def F_X3_numberWords_J76 (M : zM) (S : zS) : Option (zM) :=
  F_X3_numberWords_L78 0 M S
def F_X3_numberWords_B33 (v2 : Int) (M : zM) (S : zS) : Option ((Int × zM) ⊕ (zM)) :=
  if v2 < (M 11 14) then (zb1 (F_X6_at 14 v2 M S) fun r12 => ( zb1 (F_X4_word r12) fun r14 => ( zb1 (F_X3_placeOf r14 M S) fun r16 => ( zb1 (F_X4_withWord r12 r16) fun r18 => ( zb1 (F_X6_put 14 v2 r18 M S) fun M20 => ( zlet (w (v2 + 1)) fun x22 => ( some (.inl (x22, M20))))))))) else (some (.inr M))
def F_X3_numberWords_L33 (v2 : Int) (M : zM) (S : zS) : Option (zM) :=
  zb1 (zloop (fun (s : Int × zM) => F_X3_numberWords_B33 s.1 s.2 S) zN (v2, M)) (fun (e : zM) => F_X3_numberWords_J76 e S)
def F_X3_numberWords_J31 (M : zM) (S : zS) : Option (zM) :=
  F_X3_numberWords_L33 0 M S
def F_X3_numberWords_B2 (v2 : Int) (M : zM) (S : zS) : Option ((Int × zM) ⊕ (zM)) :=
  if v2 < (M 11 13) then (zb1 (F_X3_wordAt v2 M S) fun r25 => ( zb1 (F_X6_put 13 r25 (w (v2 + 1)) M S) fun M27 => ( zlet (w (v2 + 1)) fun x29 => ( some (.inl (x29, M27)))))) else (some (.inr M))
def F_X3_numberWords_L2 (v2 : Int) (M : zM) (S : zS) : Option (zM) :=
  zb1 (zloop (fun (s : Int × zM) => F_X3_numberWords_B2 s.1 s.2 S) zN (v2, M)) (fun (e : zM) => F_X3_numberWords_J31 e S)
def F_X3_numberWords (M : zM) (S : zS) : Option (zM) :=
  F_X3_numberWords_L2 0 M S
def F_X3_countPaths_J115 (M : zM) (S : zS) : Option (zM) :=
  some M
def F_X3_countPaths_J109 (v1 : Int) (M : zM) (S : zS) : Option ((Int × zM) ⊕ (zM)) :=
  zlet (w (v1 + 1)) fun x1 => ( some (.inl (x1, M)))
def F_X3_countPaths_B52 (v1 : Int) (v2 : Int) (M : zM) (S : zS) : Option ((Int × zM) ⊕ (zM)) :=
  zb1 (F_X6_at 15 (w (v1 + 1)) M S) fun r2 => ( if v2 < r2 then (zb1 (F_X6_at 14 v2 M S) fun r5 => ( zb1 (F_X4_word r5) fun r7 => ( zb1 (F_X6_at_ 23 r7 M S) fun r9 => ( zb1 (F_X6_at_ 23 v1 M S) fun r11 => ( zb1 (F_X6_put_ 23 r7 (zladd r9 r11) M S) fun M13 => ( zlet (w (v2 + 1)) fun x15 => ( some (.inl (x15, M13))))))))) else (some (.inr M)))
def F_X3_countPaths_L52 (v1 : Int) (v2 : Int) (M : zM) (S : zS) : Option ((Int × zM) ⊕ (zM)) :=
  zb1 (zloop (fun (s : Int × zM) => F_X3_countPaths_B52 v1 s.1 s.2 S) zN (v2, M)) (fun (e : zM) => F_X3_countPaths_J109 v1 e S)
def F_X3_countPaths_B35 (v1 : Int) (M : zM) (S : zS) : Option ((Int × zM) ⊕ (zM)) :=
  if v1 < (M 11 13) then (zb1 (F_X6_at 15 v1 M S) fun r18 => ( F_X3_countPaths_L52 v1 r18 M S)) else (some (.inr M))
def F_X3_countPaths_L35 (v1 : Int) (M : zM) (S : zS) : Option (zM) :=
  zb1 (zloop (fun (s : Int × zM) => F_X3_countPaths_B35 s.1 s.2 S) zN (v1, M)) (fun (e : zM) => F_X3_countPaths_J115 e S)
def F_X3_countPaths_J33 (M : zM) (S : zS) : Option (zM) :=
  F_X3_countPaths_L35 0 M S
def F_X3_countPaths_B2 (v1 : Int) (M : zM) (S : zS) : Option ((Int × zM) ⊕ (zM)) :=
  if v1 < (M 11 13) then (zb1 (F_X6_at 17 v1 M S) fun r22 => ( zb1 (F_X6_put_ 23 v1 r22 M S) fun M24 => ( zlet (w (v1 + 1)) fun x26 => ( some (.inl (x26, M24)))))) else (some (.inr M))
def F_X3_countPaths_L2 (v1 : Int) (M : zM) (S : zS) : Option (zM) :=
  zb1 (zloop (fun (s : Int × zM) => F_X3_countPaths_B2 s.1 s.2 S) zN (v1, M)) (fun (e : zM) => F_X3_countPaths_J33 e S)
def F_X3_countPaths (M : zM) (S : zS) : Option (zM) :=
  F_X3_countPaths_L2 0 M S
def F_X4_context (v0 : Int) : Option (Int) :=
  some (zand (zshr v0 8) 7)
def F_X3_findFollowers_J158 (M : zM) (S : zS) : Option (zM) :=
  some M
def F_X3_findFollowers_J152 (v1 : Int) (M : zM) (S : zS) : Option ((Int × zM) ⊕ (zM)) :=
  zlet (w (v1 + 1)) fun x1 => ( some (.inl (x1, M)))
def F_X3_findFollowers_J146 (v1 : Int) (v2 : Int) (v3 : Int) (M : zM) (S : zS) : Option ((Int × zM) ⊕ (zM)) :=
  zlet (w (v3 + 1)) fun x2 => ( some (.inl (x2, M)))
def F_X3_findFollowers_B112 (v1 : Int) (v2 : Int) (v3 : Int) (M : zM) (S : zS) : Option ((Int × zM) ⊕ (zM)) :=
  if v3 < 5 then (zb1 (F_X6_at 18 v1 M S) fun r4 => ( if (zand r4 (zshl 1 v3)) = 0 then (F_X3_findFollowers_J146 v1 v2 v3 M S) else (zchk ((0 : Int) ≤ v3 ∧ v3 < 5) ( zchk ((0 : Int) ≤ v3 ∧ v3 < 5) ( zlet (zs M 24 v3 (zor (M 24 v3) v2)) fun M10 => ( F_X3_findFollowers_J146 v1 v2 v3 M10 S)))))) else (some (.inr M))
def F_X3_findFollowers_L112 (v1 : Int) (v2 : Int) (v3 : Int) (M : zM) (S : zS) : Option ((Int × zM) ⊕ (zM)) :=
  zb1 (zloop (fun (s : Int × zM) => F_X3_findFollowers_B112 v1 v2 s.1 s.2 S) zN (v3, M)) (fun (e : zM) => F_X3_findFollowers_J152 v1 e S)
def F_X3_findFollowers_J100 (v1 : Int) (v2 : Int) (M : zM) (S : zS) : Option ((Int × zM) ⊕ (zM)) :=
  zlet (zs M 11 16 (zor (M 11 16) v2)) fun M12 => ( F_X3_findFollowers_L112 v1 v2 0 M12 S)
def F_X3_findFollowers_B29 (v1 : Int) (v2 : Int) (v3 : Int) (M : zM) (S : zS) : Option ((Int × Int × zM) ⊕ (Int × zM)) :=
  zb1 (F_X6_at 15 (w (v1 + 1)) M S) fun r13 => ( if v3 < r13 then (zb1 (F_X6_at 14 v3 M S) fun r16 => ( zb1 (F_X4_context r16) fun r18 => ( zlet (zshl 1 r18) fun x20 => ( zlet (zor v2 x20) fun x21 => ( zb1 (F_X4_word r16) fun r22 => ( zb1 (F_X4_word r16) fun r24 => ( zb1 (F_X6_at 18 r24 M S) fun r26 => ( zb1 (F_X6_put 18 r22 (zor r26 x20) M S) fun M28 => ( zlet (w (v3 + 1)) fun x30 => ( some (.inl (x21, x30, M28)))))))))))) else (some (.inr (v2, M))))
def F_X3_findFollowers_L29 (v1 : Int) (v2 : Int) (v3 : Int) (M : zM) (S : zS) : Option ((Int × zM) ⊕ (zM)) :=
  zb1 (zloop (fun (s : Int × Int × zM) => F_X3_findFollowers_B29 v1 s.1 s.2.1 s.2.2 S) zN (v2, v3, M)) (fun (e : Int × zM) => F_X3_findFollowers_J100 v1 e.1 e.2 S)
def F_X3_findFollowers_B10 (v1 : Int) (M : zM) (S : zS) : Option ((Int × zM) ⊕ (zM)) :=
  if v1 < (M 11 13) then (zb1 (F_X6_at 15 v1 M S) fun r33 => ( F_X3_findFollowers_L29 v1 0 r33 M S)) else (some (.inr M))
def F_X3_findFollowers_L10 (v1 : Int) (M : zM) (S : zS) : Option (zM) :=
  zb1 (zloop (fun (s : Int × zM) => F_X3_findFollowers_B10 s.1 s.2 S) zN (v1, M)) (fun (e : zM) => F_X3_findFollowers_J158 e S)
def F_X3_findFollowers (M : zM) (S : zS) : Option (zM) :=
  zb1 (F_J7_fill_53178 18 0 M S) fun M35 => ( F_X3_findFollowers_L10 0 M35 S)
def F_X3_findBestDerivations_J203 (M : zM) (S : zS) : Option (zM) :=
  some M
def F_X3_findBestDerivations_J197 (v1 : Int) (v2 : Int) (M : zM) (S : zS) : Option ((Int × Int × zM) ⊕ (zM)) :=
  zlet (w (v2 + 1)) fun x1 => ( some (.inl (v1, x1, M)))
def F_X3_findBestDerivations_J191 (v1 : Int) (v2 : Int) (v3 : Int) (v4 : Int) (M : zM) (S : zS) : Option ((Int × Int × zM) ⊕ (Int × zM)) :=
  zlet (w (v4 + 1)) fun x2 => ( some (.inl (v1, x2, M)))
def F_X3_findBestDerivations_B93 (v1 : Int) (v2 : Int) (v3 : Int) (v4 : Int) (M : zM) (S : zS) : Option ((Int × Int × zM) ⊕ (Int × zM)) :=
  zb1 (F_X6_at 15 (w (v3 + 1)) M S) fun r3 => ( if v4 < r3 then (zb1 (F_X6_at 14 v4 M S) fun r6 => ( zb1 (F_X4_word r6) fun r8 => ( zb1 (F_X6_at 20 r8 M S) fun r10 => ( if r10 < 0 then (zb1 (F_X6_at 20 v3 M S) fun r13 => ( zb1 (F_X6_put 20 r8 (w (r13 + 1)) M S) fun M15 => ( zb1 (F_X6_put 21 r8 r6 M15 S) fun M17 => ( zb1 (F_X6_put 22 r8 v3 M17 S) fun M19 => ( zb1 (F_X6_put 19 v1 r8 M19 S) fun M21 => ( zlet (w (v1 + 1)) fun x23 => ( F_X3_findBestDerivations_J191 x23 v2 v3 v4 M21 S))))))) else (F_X3_findBestDerivations_J191 v1 v2 v3 v4 M S))))) else (some (.inr (v1, M))))
def F_X3_findBestDerivations_L93 (v1 : Int) (v2 : Int) (v3 : Int) (v4 : Int) (M : zM) (S : zS) : Option ((Int × Int × zM) ⊕ (zM)) :=
  zb1 (zloop (fun (s : Int × Int × zM) => F_X3_findBestDerivations_B93 s.1 v2 v3 s.2.1 s.2.2 S) zN (v1, v4, M)) (fun (e : Int × zM) => F_X3_findBestDerivations_J197 e.1 v2 e.2 S)
def F_X3_findBestDerivations_B62 (v1 : Int) (v2 : Int) (M : zM) (S : zS) : Option ((Int × Int × zM) ⊕ (zM)) :=
  if v2 < v1 then (if v2 < 300 then (zb1 (F_X6_at 19 v2 M S) fun r26 => ( zb1 (F_X6_at 15 r26 M S) fun r28 => ( F_X3_findBestDerivations_L93 v1 v2 r26 r28 M S))) else (some (.inr M))) else (some (.inr M))
def F_X3_findBestDerivations_L62 (v1 : Int) (v2 : Int) (M : zM) (S : zS) : Option (zM) :=
  zb1 (zloop (fun (s : Int × Int × zM) => F_X3_findBestDerivations_B62 s.1 s.2.1 s.2.2 S) zN (v1, v2, M)) (fun (e : zM) => F_X3_findBestDerivations_J203 e S)
def F_X3_findBestDerivations_J60 (v1 : Int) (M : zM) (S : zS) : Option (zM) :=
  F_X3_findBestDerivations_L62 v1 0 M S
def F_X3_findBestDerivations_J54 (v1 : Int) (v2 : Int) (M : zM) (S : zS) : Option ((Int × Int × zM) ⊕ (Int × zM)) :=
  zlet (w (v2 + 1)) fun x30 => ( some (.inl (v1, x30, M)))
def F_X3_findBestDerivations_B4 (v1 : Int) (v2 : Int) (M : zM) (S : zS) : Option ((Int × Int × zM) ⊕ (Int × zM)) :=
  if v2 < (M 11 13) then (zb1 (F_X6_at 17 v2 M S) fun r33 => ( zb1 (F_X6_put 20 v2 (w (r33 - 1)) M S) fun M35 => ( zb1 (F_X6_at 17 v2 M35 S) fun r37 => ( if r37 = 1 then (zb1 (F_X6_put 19 v1 v2 M35 S) fun M40 => ( zlet (w (v1 + 1)) fun x42 => ( F_X3_findBestDerivations_J54 x42 v2 M40 S))) else (F_X3_findBestDerivations_J54 v1 v2 M35 S))))) else (some (.inr (v1, M)))
def F_X3_findBestDerivations_L4 (v1 : Int) (v2 : Int) (M : zM) (S : zS) : Option (zM) :=
  zb1 (zloop (fun (s : Int × Int × zM) => F_X3_findBestDerivations_B4 s.1 s.2.1 s.2.2 S) zN (v1, v2, M)) (fun (e : Int × zM) => F_X3_findBestDerivations_J60 e.1 e.2 S)
def F_X3_findBestDerivations (M : zM) (S : zS) : Option (zM) :=
  F_X3_findBestDerivations_L4 0 0 M S
def F_X3_build_J105 (M : zM) (S : zS) : Option (zM) :=
  if (M 11 15) = 0 then (zb1 (F_X3_numberWords M S) fun M3 => ( zb1 (F_X3_countPaths M3 S) fun M5 => ( zb1 (F_X3_findFollowers M5 S) fun M7 => ( zb1 (F_X3_findBestDerivations M7 S) fun M9 => ( some M9))))) else (some M)
def F_X3_build_B46 (v2 : Int) (M : zM) (S : zS) : Option ((Int × zM) ⊕ (zM)) :=
  if v2 < (M 11 13) then (if v2 < 300 then (if (M 11 15) = 0 then (zb1 (F_X3_wordAt v2 M S) fun r16 => ( zb2 (F_X2_findInsertions r16 16 M S) fun r18 M19 => ( zb1 (F_X3_addResults r18 M19 S) fun M21 => ( zb1 (F_X6_put 15 (w (v2 + 1)) (M21 11 14) M21 S) fun M24 => ( zlet (w (v2 + 1)) fun x26 => ( some (.inl (x26, M24)))))))) else (some (.inr M))) else (some (.inr M))) else (some (.inr M))
def F_X3_build_L46 (v2 : Int) (M : zM) (S : zS) : Option (zM) :=
  zb1 (zloop (fun (s : Int × zM) => F_X3_build_B46 s.1 s.2 S) zN (v2, M)) (fun (e : zM) => F_X3_build_J105 e S)
def F_X3_build_J44 (M : zM) (S : zS) : Option (zM) :=
  F_X3_build_L46 0 M S
def F_X3_build_J38 (v2 : Int) (M : zM) (S : zS) : Option ((Int × zM) ⊕ (zM)) :=
  zlet (w (v2 + 1)) fun x27 => ( some (.inl (x27, M)))
def F_X3_build_B6 (v2 : Int) (M : zM) (S : zS) : Option ((Int × zM) ⊕ (zM)) :=
  if v2 < (M 5 2) then (zb1 (F_X2_axiom v2 M S) fun r30 => ( zb1 (F_X9_length r30) fun r32 => ( if (M 5 5) < r32 then (F_X3_build_J38 v2 M S) else (zb1 (F_X2_axiom v2 M S) fun r36 => ( zb1 (F_X3_addWord r36 M S) fun M38 => ( F_X3_build_J38 v2 M38 S)))))) else (some (.inr M))
def F_X3_build_L6 (v2 : Int) (M : zM) (S : zS) : Option (zM) :=
  zb1 (zloop (fun (s : Int × zM) => F_X3_build_B6 s.1 s.2 S) zN (v2, M)) (fun (e : zM) => F_X3_build_J44 e S)
def F_X3_build (M : zM) (S : zS) : Option (zM) :=
  zb1 (F_X3_forget M S) fun M40 => ( F_X3_build_L6 0 M40 S)
def F_X3_wordsOfLength_J33 (v2 : Int) (M : zM) (S : zS) : Option (Int) :=
  some v2
def F_X3_wordsOfLength_J27 (v1 : Int) (v2 : Int) (v3 : Int) (M : zM) (S : zS) : Option ((Int × Int) ⊕ (Int)) :=
  zlet (w (v3 + 1)) fun x1 => ( some (.inl (v2, x1)))
def F_X3_wordsOfLength_B4 (v1 : Int) (v2 : Int) (v3 : Int) (M : zM) (S : zS) : Option ((Int × Int) ⊕ (Int)) :=
  if v3 < (M 11 13) then (zb1 (F_X3_wordAt v3 M S) fun r4 => ( zb1 (F_X9_length r4) fun r6 => ( if r6 = v1 then (zlet (w (v2 + 1)) fun x9 => ( F_X3_wordsOfLength_J27 v1 x9 v3 M S)) else (F_X3_wordsOfLength_J27 v1 v2 v3 M S)))) else (some (.inr v2))
def F_X3_wordsOfLength_L4 (v1 : Int) (v2 : Int) (v3 : Int) (M : zM) (S : zS) : Option (Int) :=
  zb1 (zloop (fun (s : Int × Int) => F_X3_wordsOfLength_B4 v1 s.1 s.2 M S) zN (v2, v3)) (fun (e : Int) => F_X3_wordsOfLength_J33 e M S)
def F_X3_wordsOfLength (v1 : Int) (M : zM) (S : zS) : Option (Int) :=
  F_X3_wordsOfLength_L4 v1 0 0 M S
def F_X3_isGeneratedBy_J109 (M : zM) (S : zS) : Option (Int × zM) :=
  some (1, M)
def F_X3_isGeneratedBy_J37 (M : zM) (S : zS) : Option (Int × zM) :=
  some (0, M)
def F_X3_isGeneratedBy_J103 (v1 : Int) (v2 : Int) (M : zM) (S : zS) : Option ((Int × zM) ⊕ ((zM) ⊕ (zM))) :=
  zlet (w (v2 + 1)) fun x1 => ( some (.inl (x1, M)))
def F_X3_isGeneratedBy_J97 (v1 : Int) (v2 : Int) (v3 : Int) (M : zM) (S : zS) : Option ((Int × zM) ⊕ (zM)) :=
  zlet (w (v3 + 1)) fun x2 => ( some (.inl (x2, M)))
def F_X3_isGeneratedBy_B48 (v1 : Int) (v2 : Int) (v3 : Int) (M : zM) (S : zS) : Option ((Int × zM) ⊕ (zM)) :=
  zb1 (F_X6_at 15 (w (v2 + 1)) M S) fun r3 => ( if v3 < r3 then (zb1 (F_X6_at 14 v3 M S) fun r6 => ( zb1 (F_X4_context r6) fun r8 => ( if (zand v1 (zshl 1 r8)) = 0 then (F_X3_isGeneratedBy_J97 v1 v2 v3 M S) else (zb1 (F_X4_word r6) fun r11 => ( zb1 (F_X6_put 18 r11 1 M S) fun M13 => ( F_X3_isGeneratedBy_J97 v1 v2 v3 M13 S)))))) else (some (.inr M)))
def F_X3_isGeneratedBy_L48 (v1 : Int) (v2 : Int) (v3 : Int) (M : zM) (S : zS) : Option ((Int × zM) ⊕ ((zM) ⊕ (zM))) :=
  zb1 (zloop (fun (s : Int × zM) => F_X3_isGeneratedBy_B48 v1 v2 s.1 s.2 S) zN (v3, M)) (fun (e : zM) => F_X3_isGeneratedBy_J103 v1 v2 e S)
def F_X3_isGeneratedBy_B18 (v1 : Int) (v2 : Int) (M : zM) (S : zS) : Option ((Int × zM) ⊕ ((zM) ⊕ (zM))) :=
  if v2 < (M 11 13) then (zb1 (F_X6_at 18 v2 M S) fun r17 => ( if r17 = 0 then (some (.inr (.inl M))) else (zb1 (F_X6_at 15 v2 M S) fun r20 => ( F_X3_isGeneratedBy_L48 v1 v2 r20 M S)))) else (some (.inr (.inr M)))
def F_X3_isGeneratedBy_L18 (v1 : Int) (v2 : Int) (M : zM) (S : zS) : Option (Int × zM) :=
  zb1 (zloop (fun (s : Int × zM) => F_X3_isGeneratedBy_B18 v1 s.1 s.2 S) zN (v2, M)) (Sum.elim (fun (e : zM) => F_X3_isGeneratedBy_J37 e S) (fun (e : zM) => F_X3_isGeneratedBy_J109 e S))
def F_X3_isGeneratedBy (v1 : Int) (M : zM) (S : zS) : Option (Int × zM) :=
  zchk ((0 : Int) ≤ 0 ∧ (0 : Int) ≤ 0 ∧ (0 : Int) ≤ 300 ∧ (0 + 300 : Int) ≤ 300 ∧ (0 + 300 : Int) ≤ 300) ( zlet (zcpy M 17 0 18 0 300) fun M23 => ( F_X3_isGeneratedBy_L18 v1 0 M23 S))
def F_J6_bitCount_0f7a4 (v0 : Int) : Option (Int) :=
  zlet (w (v0 - (zand (zushr v0 1) 1431655765))) fun x1 => ( zlet (w ((zand x1 858993459) + (zand (zushr x1 2) 858993459))) fun x2 => ( zlet (zand (x2 + (zushr x2 4)) 252645135) fun x3 => ( zlet (w (x3 + (zushr x3 8))) fun x4 => ( zlet (w (x4 + (zushr x4 16))) fun x5 => ( some (zand x5 63))))))
def F_X3_smallestContextSet_J57 (M : zM) (S : zS) : Option (Int × zM) :=
  some ((M 11 17), M)
def F_X3_smallestContextSet_J51 (v1 : Int) (v2 : Int) (M : zM) (S : zS) : Option ((Int × zM) ⊕ (zM)) :=
  zlet (w (v2 + 1)) fun x2 => ( some (.inl (x2, M)))
def F_X3_smallestContextSet_B19 (v1 : Int) (v2 : Int) (M : zM) (S : zS) : Option ((Int × zM) ⊕ (zM)) :=
  if v2 < v1 then (zb1 (F_J6_bitCount_0f7a4 v2) fun r4 => ( zb1 (F_J6_bitCount_0f7a4 (M 11 17)) fun r7 => ( if r4 < r7 then (zb2 (F_X3_isGeneratedBy v2 M S) fun r10 M11 => ( if r10 = 0 then (F_X3_smallestContextSet_J51 v1 v2 M11 S) else (zlet (zs M11 11 17 v2) fun M14 => ( F_X3_smallestContextSet_J51 v1 v2 M14 S)))) else (F_X3_smallestContextSet_J51 v1 v2 M S)))) else (some (.inr M))
def F_X3_smallestContextSet_L19 (v1 : Int) (v2 : Int) (M : zM) (S : zS) : Option (Int × zM) :=
  zb1 (zloop (fun (s : Int × zM) => F_X3_smallestContextSet_B19 v1 s.1 s.2 S) zN (v2, M)) (fun (e : zM) => F_X3_smallestContextSet_J57 e S)
def F_X3_smallestContextSet (v1 : Int) (M : zM) (S : zS) : Option (Int × zM) :=
  if (M 11 17) < 0 then (zlet (zs M 11 17 v1) fun M17 => ( F_X3_smallestContextSet_L19 v1 0 M17 S)) else (some ((M 11 17), M))
def F_X3_followersOf (v1 : Int) (M : zM) (S : zS) : Option (Int) :=
  zb1 (F_X6_at 24 v1 M S) fun r1 => ( some r1)
def F_X3_loopThrough_J70 (M : zM) (S : zS) : Option (Int) :=
  some 0
def F_X3_loopThrough_J21 (v3 : Int) (M : zM) (S : zS) : Option (Int) :=
  some v3
def F_X3_loopThrough_J61 (v1 : Int) (v3 : Int) (v4 : Int) (M : zM) (S : zS) : Option ((Int × Int) ⊕ ((Int) ⊕ (Unit))) :=
  zlet (w (v3 + 1)) fun x1 => ( some (.inl (v4, x1)))
def F_X3_loopThrough_J55 (v1 : Int) (v2 : Int) (v3 : Int) (v4 : Int) (v5 : Int) (M : zM) (S : zS) : Option ((Int × Int) ⊕ (Int)) :=
  zlet (w (v5 + 1)) fun x2 => ( some (.inl (v4, x2)))
def F_X3_loopThrough_B29 (v1 : Int) (v2 : Int) (v3 : Int) (v4 : Int) (v5 : Int) (M : zM) (S : zS) : Option ((Int × Int) ⊕ (Int)) :=
  if v5 < 5 then (if (zand v2 (zshl 1 v5)) = 0 then (F_X3_loopThrough_J55 v1 v2 v3 v4 v5 M S) else (zb1 (F_X3_followersOf v5 M S) fun r5 => ( zlet (zor v4 r5) fun x7 => ( F_X3_loopThrough_J55 v1 v2 v3 x7 v5 M S)))) else (some (.inr v4))
def F_X3_loopThrough_L29 (v1 : Int) (v2 : Int) (v3 : Int) (v4 : Int) (v5 : Int) (M : zM) (S : zS) : Option ((Int × Int) ⊕ ((Int) ⊕ (Unit))) :=
  zb1 (zloop (fun (s : Int × Int) => F_X3_loopThrough_B29 v1 v2 v3 s.1 s.2 M S) zN (v4, v5)) (fun (e : Int) => F_X3_loopThrough_J61 v1 v3 e M S)
def F_X3_loopThrough_B8 (v1 : Int) (v2 : Int) (v3 : Int) (M : zM) (S : zS) : Option ((Int × Int) ⊕ ((Int) ⊕ (Unit))) :=
  if 5 < v3 then (some (.inr (.inr ()))) else (if (zand v2 (zshl 1 v1)) = 0 then (F_X3_loopThrough_L29 v1 v2 v3 0 0 M S) else (some (.inr (.inl v3))))
def F_X3_loopThrough_L8 (v1 : Int) (v2 : Int) (v3 : Int) (M : zM) (S : zS) : Option (Int) :=
  zb1 (zloop (fun (s : Int × Int) => F_X3_loopThrough_B8 v1 s.1 s.2 M S) zN (v2, v3)) (Sum.elim (fun (e : Int) => F_X3_loopThrough_J21 e M S) (fun (e : Unit) => F_X3_loopThrough_J70 M S))
def F_X3_loopThrough (v1 : Int) (M : zM) (S : zS) : Option (Int) :=
  zb1 (F_X3_followersOf v1 M S) fun r10 => ( F_X3_loopThrough_L8 v1 r10 1 M S)
def F_X3_derivationSteps (v1 : Int) (M : zM) (S : zS) : Option (Int) :=
  zb1 (F_X6_at 20 v1 M S) fun r1 => ( some r1)
def F_X3_derivationMove_J32 (v3 : Int) (M : zM) (S : zS) : Option (Int) :=
  zb1 (F_X6_at 21 v3 M S) fun r1 => ( some r1)
def F_X3_derivationMove_B11 (v2 : Int) (v3 : Int) (v4 : Int) (M : zM) (S : zS) : Option ((Int × Int) ⊕ (Int)) :=
  if v2 < v4 then (zb1 (F_X6_at 22 v3 M S) fun r4 => ( zlet (w (v4 + (-1))) fun x6 => ( some (.inl (r4, x6))))) else (some (.inr v3))
def F_X3_derivationMove_L11 (v2 : Int) (v3 : Int) (v4 : Int) (M : zM) (S : zS) : Option (Int) :=
  zb1 (zloop (fun (s : Int × Int) => F_X3_derivationMove_B11 v2 s.1 s.2 M S) zN (v3, v4)) (fun (e : Int) => F_X3_derivationMove_J32 e M S)
def F_X3_derivationMove (v1 : Int) (v2 : Int) (M : zM) (S : zS) : Option (Int) :=
  zb1 (F_X3_derivationSteps v1 M S) fun r7 => ( zlet (w (r7 - 1)) fun x9 => ( F_X3_derivationMove_L11 v2 v1 x9 M S))
def F_X3_pathsTo (v1 : Int) (M : zM) (S : zS) : Option (Int) :=
  zb1 (F_X6_at_ 23 v1 M S) fun r1 => ( some r1)
def F_X4_start (v0 : Int) : Option (Int) :=
  some (zand (zshr v0 4) 15)
def F_X4_end (v0 : Int) : Option (Int) :=
  some (zand v0 15)
def F_X5_init (v0 : Nat) (M : zM) (S : zS) : Option (zM × zS) :=
  zchk (¬ v0 = 0) ( zlet (S.1 + 1) fun q2 => ( zlet (zn S (20, 512)) fun S3 => ( zchk (zkd S3 v0 = 4) ( zlet (zq S3 v0 0 q2) fun S5 => ( zchk (zkd S5 v0 = 4) ( zlet (zs M v0 2 (-1)) fun M7 => ( zlet (S5.1 + 1) fun q8 => ( zlet (zn S5 (20, 29524)) fun S9 => ( zchk (zkd S9 v0 = 4) ( zlet (zq S9 v0 3 q8) fun S11 => ( zlet (S11.1 + 1) fun q12 => ( zlet (zn S11 (20, 29524)) fun S13 => ( zchk (zkd S13 v0 = 4) ( zlet (zq S13 v0 5 q12) fun S15 => ( zchk (zkd S15 v0 = 4) ( zlet (zs M7 v0 6 0) fun M17 => ( zlet (S15.1 + 1) fun q18 => ( zlet (zmulti S15 10 225) fun S19 => ( zchk (zkd S19 v0 = 4) ( zlet (zq S19 v0 7 q18) fun S21 => ( some (M17, S21))))))))))))))))))))))
def F_X5_forget (M : zM) : Option (zM) :=
  zlet (zs M 25 2 (-1)) fun M1 => ( zlet (zs M1 25 6 0) fun M2 => ( some M2))
def F_X5_visit_J92 (rc : Nat → Int → Int → zM → zS → Option (zM)) (v2 : Int) (v5 : Int) (M : zM) (S : zS) : Option (zM) :=
  if v5 = 0 then (if (M 25 1) < 512 then (zb1 (F_X6_putInOrder 26 (M 25 1) v2 M S) fun M5 => ( zlet (zs M5 25 1 (w ((M5 25 1) + 1))) fun M8 => ( some M8))) else (some M)) else (some M)
def F_X5_visit_B61 (rc : Nat → Int → Int → zM → zS → Option (zM)) (v2 : Int) (v3 : Int) (v4 : Nat) (v5 : Int) (v6 : Int) (M : zM) (S : zS) : Option ((Int × zM) ⊕ (zM)) :=
  if v6 < v5 then (zb1 (F_X6_at v4 v6 M S) fun r10 => ( zb1 (F_X4_word r10) fun r12 => ( zb1 (rc 0 r12 (w (v3 + 1)) M S) fun M14 => ( zlet (w (v6 + 1)) fun x16 => ( some (.inl (x16, M14))))))) else (some (.inr M))
def F_X5_visit_L61 (rc : Nat → Int → Int → zM → zS → Option (zM)) (v2 : Int) (v3 : Int) (v4 : Nat) (v5 : Int) (v6 : Int) (M : zM) (S : zS) : Option (zM) :=
  zb1 (zloop (fun (s : Int × zM) => F_X5_visit_B61 rc v2 v3 v4 v5 s.1 s.2 S) zN (v6, M)) (fun (e : zM) => F_X5_visit_J92 rc v2 v5 e S)
def F_X5_visit (rc : Nat → Int → Int → zM → zS → Option (zM)) (v2 : Int) (v3 : Int) (M : zM) (S : zS) : Option (zM) :=
  if v3 < 0 then (some M) else (if v3 < 10 then (zb1 (F_X6_at 27 v2 M S) fun r19 => ( if r19 = (M 25 4) then (some M) else (zb1 (F_X6_put 27 v2 (M 25 4) M S) fun M24 => ( zchk ((0 : Int) ≤ v3 ∧ v3 < 10) ( zlet ((zrf S 29 v3)) fun q27 => ( zb2 (F_X2_findReductions v2 q27 M24 S) fun r28 M29 => ( F_X5_visit_L61 rc v2 v3 q27 r28 0 M29 S))))))) else (some M))
def F_GV (n : Nat) (k : Nat) (v2 : Int) (v3 : Int) (M : zM) (S : zS) : Option (zM) := match n with
  | 0 => none
  | n + 1 => F_X5_visit (F_GV n) v2 v3 M S
def F_X5_find (v2 : Int) (M : zM) (S : zS) : Option (zM) :=
  if (M 25 2) = v2 then (some M) else (zlet (zs M 25 2 v2) fun M3 => ( zlet (zs M3 25 1 0) fun M4 => ( zlet (zs M4 25 4 (w ((M4 25 4) + 1))) fun M6 => ( zb1 (F_GV 40 0 v2 0 M6 S) fun M7 => ( some M7)))))
def F_X5_form (v1 : Int) (M : zM) (S : zS) : Option (Int) :=
  zb1 (F_X6_at 26 v1 M S) fun r1 => ( some r1)
def F_X5_onlyForm_J124 (rc : Nat → Int → Int → zM → zS → Option (Int × zM)) (v2 : Int) (v7 : Int) (M : zM) (S : zS) : Option (Int × zM) :=
  zb1 (F_X6_put 28 v2 v7 M S) fun M1 => ( some (v7, M1))
def F_X5_onlyForm_J116 (rc : Nat → Int → Int → zM → zS → Option (Int × zM)) (v2 : Int) (v3 : Int) (v5 : Nat) (v6 : Int) (v8 : Int) (t0 : Int) (M : zM) (S : zS) : Option ((Int × Int × zM) ⊕ (Int × zM)) :=
  zlet (w (v8 + 1)) fun x3 => ( some (.inl (t0, x3, M)))
def F_X5_onlyForm_J110 (rc : Nat → Int → Int → zM → zS → Option (Int × zM)) (v2 : Int) (v3 : Int) (v5 : Nat) (v6 : Int) (v8 : Int) (v9 : Int) (M : zM) (S : zS) : Option ((Int × Int × zM) ⊕ (Int × zM)) :=
  F_X5_onlyForm_J116 rc v2 v3 v5 v6 v8 v9 M S
def F_X5_onlyForm_B65 (rc : Nat → Int → Int → zM → zS → Option (Int × zM)) (v2 : Int) (v3 : Int) (v5 : Nat) (v6 : Int) (v7 : Int) (v8 : Int) (M : zM) (S : zS) : Option ((Int × Int × zM) ⊕ (Int × zM)) :=
  if v8 < v6 then (if v7 = (-1) then (some (.inr (v7, M))) else (zb1 (F_X6_at v5 v8 M S) fun r6 => ( zb1 (F_X4_word r6) fun r8 => ( zb2 (rc 0 r8 (w (v3 + 1)) M S) fun r10 M11 => ( if v7 = 0 then (F_X5_onlyForm_J110 rc v2 v3 v5 v6 v8 r10 M11 S) else (if v7 = r10 then (F_X5_onlyForm_J110 rc v2 v3 v5 v6 v8 r10 M11 S) else (F_X5_onlyForm_J116 rc v2 v3 v5 v6 v8 (-1) M11 S))))))) else (some (.inr (v7, M)))
def F_X5_onlyForm_L65 (rc : Nat → Int → Int → zM → zS → Option (Int × zM)) (v2 : Int) (v3 : Int) (v5 : Nat) (v6 : Int) (v7 : Int) (v8 : Int) (M : zM) (S : zS) : Option (Int × zM) :=
  zb1 (zloop (fun (s : Int × Int × zM) => F_X5_onlyForm_B65 rc v2 v3 v5 v6 s.1 s.2.1 s.2.2 S) zN (v7, v8, M)) (fun (e : Int × zM) => F_X5_onlyForm_J124 rc v2 e.1 e.2 S)
def F_X5_onlyForm_J60 (rc : Nat → Int → Int → zM → zS → Option (Int × zM)) (v2 : Int) (v3 : Int) (v5 : Nat) (v6 : Int) (t0 : Int) (M : zM) (S : zS) : Option (Int × zM) :=
  F_X5_onlyForm_L65 rc v2 v3 v5 v6 t0 0 M S
def F_X5_onlyForm (rc : Nat → Int → Int → zM → zS → Option (Int × zM)) (v2 : Int) (v3 : Int) (M : zM) (S : zS) : Option (Int × zM) :=
  zb1 (F_X6_at 28 v2 M S) fun r15 => ( if r15 = 0 then (if v3 < 0 then (some (r15, M)) else (if v3 < 10 then (zchk ((0 : Int) ≤ v3 ∧ v3 < 10) ( zlet ((zrf S 29 v3)) fun q21 => ( zb2 (F_X2_findReductions v2 q21 M S) fun r22 M23 => ( if r22 = 0 then (F_X5_onlyForm_J60 rc v2 v3 q21 r22 (w (v2 + 1)) M23 S) else (F_X5_onlyForm_J60 rc v2 v3 q21 r22 0 M23 S))))) else (some (r15, M)))) else (some (r15, M)))
def F_GO (n : Nat) (k : Nat) (v2 : Int) (v3 : Int) (M : zM) (S : zS) : Option (Int × zM) := match n with
  | 0 => none
  | n + 1 => F_X5_onlyForm (F_GO n) v2 v3 M S
def F_X5_areSingle_J64 (M : zM) (S : zS) : Option (Int × zM) :=
  if (M 25 6) = 1 then (some (1, M)) else (some (0, M))
def F_X5_areSingle_J58 (v3 : Int) (M : zM) (S : zS) : Option ((Int × zM) ⊕ (zM)) :=
  zlet (w (v3 + 1)) fun x3 => ( some (.inl (x3, M)))
def F_X5_areSingle_B22 (v3 : Int) (M : zM) (S : zS) : Option ((Int × zM) ⊕ (zM)) :=
  if v3 < (M 11 13) then (if (M 25 6) = 1 then (zb1 (F_X3_wordAt v3 M S) fun r8 => ( zb2 (F_GO 40 0 r8 0 M S) fun r10 M11 => ( if r10 = (-1) then (zlet (zs M11 25 6 2) fun M14 => ( F_X5_areSingle_J58 v3 M14 S)) else (F_X5_areSingle_J58 v3 M11 S)))) else (some (.inr M))) else (some (.inr M))
def F_X5_areSingle_L22 (v3 : Int) (M : zM) (S : zS) : Option (Int × zM) :=
  zb1 (zloop (fun (s : Int × zM) => F_X5_areSingle_B22 s.1 s.2 S) zN (v3, M)) (fun (e : zM) => F_X5_areSingle_J64 e S)
def F_X5_areSingle (M : zM) (S : zS) : Option (Int × zM) :=
  if (M 25 6) = 0 then (zb1 (F_J7_fill_53178 28 0 M S) fun M17 => ( zlet (zs M17 25 6 1) fun M19 => ( F_X5_areSingle_L22 0 M19 S))) else (F_X5_areSingle_J64 M S)
def F_X6_sort_J23 (M : zM) (S : zS) : Option (zM) :=
  some M
def F_X6_sort_B2 (v0 : Nat) (v1 : Int) (v2 : Int) (M : zM) (S : zS) : Option ((Int × zM) ⊕ (zM)) :=
  if v2 < v1 then (zb1 (F_X6_at v0 v2 M S) fun r2 => ( zb1 (F_X6_putInOrder v0 v2 r2 M S) fun M4 => ( zlet (w (v2 + 1)) fun x6 => ( some (.inl (x6, M4)))))) else (some (.inr M))
def F_X6_sort_L2 (v0 : Nat) (v1 : Int) (v2 : Int) (M : zM) (S : zS) : Option (zM) :=
  zb1 (zloop (fun (s : Int × zM) => F_X6_sort_B2 v0 v1 s.1 s.2 S) zN (v2, M)) (fun (e : zM) => F_X6_sort_J23 e S)
def F_X6_sort (v0 : Nat) (v1 : Int) (M : zM) (S : zS) : Option (zM) :=
  F_X6_sort_L2 v0 v1 1 M S
def F_X7_init (v0 : Nat) (v1 : Nat) (S : zS) : Option (zS) :=
  zchk (¬ v0 = 0) ( zlet (S.1 + 1) fun q2 => ( zlet (zn S (21, 462)) fun S3 => ( zchk (zkd S3 v0 = 5) ( zlet (zq S3 v0 1 q2) fun S5 => ( zlet (S5.1 + 1) fun q6 => ( zlet (zn S5 (21, 462)) fun S7 => ( zchk (zkd S7 v0 = 5) ( zlet (zq S7 v0 2 q6) fun S9 => ( zchk (zkd S9 v0 = 5) ( zlet (zq S9 v0 0 v1) fun S11 => ( some S11)))))))))))
def F_X8_init (v0 : Nat) (M : zM) (S : zS) : Option (zM × zS) :=
  zchk (¬ v0 = 0) ( zlet (S.1 + 1) fun q2 => ( zlet (zn S (20, 20)) fun S3 => ( zchk (zkd S3 v0 = 6) ( zlet (zq S3 v0 0 q2) fun S5 => ( zchk (zkd S5 v0 = 6) ( zlet (zs M v0 1 (-1)) fun M7 => ( some (M7, S5))))))))
def F_X8_renew (v0 : Nat) (v1 : Int) (v2 : Int) (M : zM) (S : zS) : Option (zM) :=
  zchk (zkd S v0 = 6) ( zlet (zs M v0 1 v1) fun M2 => ( zchk (zkd S v0 = 6) ( zlet (zs M2 v0 2 v2) fun M4 => ( zchk (zkd S v0 = 6) ( zb1 (F_J7_fill_53178 (zrf S v0 0) 0 M4 S) fun M6 => ( some M6))))))
def F_X8_setNarrowed_J26 (v0 : Nat) (v1 : Int) (v3 : Int) (M : zM) (S : zS) : Option (zM) :=
  zchk (zkd S v0 = 6) ( zb1 (F_X6_put (zrf S v0 0) v1 v3 M S) fun M2 => ( some M2))
def F_X8_setNarrowed (v0 : Nat) (v1 : Int) (v2 : Int) (M : zM) (S : zS) : Option (zM) :=
  zchk (zkd S v0 = 6) ( if (M v0 1) = 0 then (zlet (zi2b v2) fun x11 => ( F_X8_setNarrowed_J26 v0 v1 x11 M S)) else (zchk (zkd S v0 = 6) ( if (M v0 1) = 2 then (F_X8_setNarrowed_J26 v0 v1 v2 M S) else (zlet (zi2s v2) fun x10 => ( F_X8_setNarrowed_J26 v0 v1 x10 M S)))))
def F_X10_init (v0 : Nat) (M : zM) (S : zS) : Option (zM × zS) :=
  zchk (¬ v0 = 0) ( zlet (S.1 + 1) fun q2 => ( zlet (zn S (1, 9)) fun S3 => ( zb1 (F_X1_init q2 S3) fun S4 => ( zchk (zkd S4 v0 = 7) ( zlet (zq S4 v0 0 q2) fun S7 => ( zlet (S7.1 + 1) fun q8 => ( zlet (zn S7 (2, 6)) fun S9 => ( zb2 (F_X2_init q8 M S9) fun M10 S11 => ( zchk (zkd S11 v0 = 7) ( zlet (zq S11 v0 1 q8) fun S14 => ( zlet (S14.1 + 1) fun q15 => ( zlet (zn S14 (2, 6)) fun S16 => ( zb2 (F_X2_init q15 M10 S16) fun M17 S18 => ( zchk (zkd S18 v0 = 7) ( zlet (zq S18 v0 2 q15) fun S21 => ( zlet (S21.1 + 1) fun q22 => ( zlet (zn S21 (3, 18)) fun S23 => ( zb1 (F_X3_init q22 S23) fun S24 => ( zchk (zkd S24 v0 = 7) ( zlet (zq S24 v0 3 q22) fun S27 => ( zlet (S27.1 + 1) fun q28 => ( zlet (zn S27 (4, 8)) fun S29 => ( zb2 (F_X5_init q28 M17 S29) fun M30 S31 => ( zchk (zkd S31 v0 = 7) ( zlet (zq S31 v0 4 q28) fun S34 => ( zlet (S34.1 + 1) fun q35 => ( zlet (zn S34 (20, 225)) fun S36 => ( zchk (zkd S36 v0 = 7) ( zlet (zq S36 v0 5 q35) fun S38 => ( zlet (S38.1 + 1) fun q39 => ( zlet (zn S38 (26, 3)) fun S40 => ( zlet (S40.1 + 1) fun q41 => ( zlet (zn S40 (6, 3)) fun S42 => ( zb2 (F_X8_init q41 M30 S42) fun M43 S44 => ( zchk (zkd S44 q39 = 26) ( zchk ((0 : Int) ≤ 0 ∧ 0 < (zlen S44 q39)) ( zchk (q41 = 0 ∨ zkd S44 q41 = 6) ( zlet (zq S44 q39 0 q41) fun S49 => ( zlet (S49.1 + 1) fun q50 => ( zlet (zn S49 (6, 3)) fun S51 => ( zb2 (F_X8_init q50 M43 S51) fun M52 S53 => ( zchk (zkd S53 q39 = 26) ( zchk ((0 : Int) ≤ 1 ∧ 1 < (zlen S53 q39)) ( zchk (q50 = 0 ∨ zkd S53 q50 = 6) ( zlet (zq S53 q39 1 q50) fun S58 => ( zlet (S58.1 + 1) fun q59 => ( zlet (zn S58 (6, 3)) fun S60 => ( zb2 (F_X8_init q59 M52 S60) fun M61 S62 => ( zchk (zkd S62 q39 = 26) ( zchk ((0 : Int) ≤ 2 ∧ 2 < (zlen S62 q39)) ( zchk (q59 = 0 ∨ zkd S62 q59 = 6) ( zlet (zq S62 q39 2 q59) fun S67 => ( zchk (zkd S67 v0 = 7) ( zlet (zq S67 v0 6 q39) fun S69 => ( zchk (zkd S69 v0 = 7) ( zlet (zs M61 v0 7 (-1)) fun M71 => ( zchk (zkd S69 v0 = 7) ( zlet (zs M71 v0 11 1) fun M73 => ( some (M73, S69))))))))))))))))))))))))))))))))))))))))))))))))))))))))))))
def F_X10_append (v1 : Int) (M : zM) (S : zS) : Option ((Nat ⊕ Unit) × zM × zS) :=
  zb2 (F_X1_accept v1 M) fun r1 M2 => ( if r1 = 0 then (some (.inl 0, M2, zn S (99, 0))) else (some (.inr (), M2, S)))
def F_X10_grammarChanged (M : zM) : Option (zM) :=
  zlet (zs M 1 11 1) fun M1 => ( zb1 (F_X5_forget M1) fun M2 => ( some M2))
def F_X10_defineAxiom_J23 (M : zM) (S : zS) : Option ((Nat ⊕ Int) × zM × zS) :=
  some (.inl 0, M, zn S (99, 0))
def F_X10_defineAxiom (v1 : Int) (M : zM) (S : zS) : Option ((Nat ⊕ Int) × zM × zS) :=
  if (M 5 2) < 6 then (zb1 (F_X2_hasAxiom v1 M S) fun r3 => ( if r3 = 0 then (zb1 (F_X2_putAxiom v1 M S) fun M6 => ( zb1 (F_X10_grammarChanged M6) fun M8 => ( some (.inr (w ((M8 5 2) - 1)), M8, S)))) else (F_X10_defineAxiom_J23 M S))) else (F_X10_defineAxiom_J23 M S)
def F_X10_defineContext (M : zM) (S : zS) : Option ((Nat ⊕ Int) × zM × zS) :=
  if (M 5 3) < 5 then (zlet (S.1 + 1) fun q3 => ( zlet (zn S (0, 5)) fun S4 => ( zlet (S4.1 + 1) fun q8 => ( zlet (zn S4 (5, 3)) fun S9 => ( zb3 (F_X1_selectorProgram M S9) fun r11 M12 S13 => ( zlet (up (up M12 (S13.1 + 1) (fun _ => 0)) (S13.1 + 2) (fun _ => 0)) fun M14 => ( zb1 (F_X7_init q8 r11 S13) fun S16 => ( zb2 (F_X0_init q3 (M 2 6) (M 2 7) q8 M14 S16) fun M19 S20 => ( zb2 (F_X2_putContext q3 M19 S20) fun M23 S24 => ( zb1 (F_X10_grammarChanged M23) fun M27 => ( some (.inr (w ((M27 5 3) - 1)), M27, S24)))))))))))) else (some (.inl 0, M, zn S (99, 0)))
def F_X10_replaceNumber_J40 (v3 : Int) (M : zM) : Option (Int × zM) :=
  zb1 (F_X10_grammarChanged M) fun M1 => ( some (v3, M1))
def F_X10_replaceNumber (v1 : Int) (v2 : Int) (M : zM) : Option (Int × zM) :=
  if v1 = 2 then (zlet (M 5 4) fun x8 => ( zlet (zs M 5 4 v2) fun M9 => ( F_X10_replaceNumber_J40 x8 M9))) else (zlet (M 5 5) fun x5 => ( zlet (zs M 5 5 v2) fun M6 => ( F_X10_replaceNumber_J40 x5 M6)))
def F_X10_define_J25 (v1 : Int) (t1 : Int) (M : zM) (S : zS) : Option ((Nat ⊕ Int) × zM × zS) :=
  zlet (zs M 1 7 t1) fun M1 => ( zb1 (F_X1_empty M1) fun M2 => ( if v1 = (-1) then (some (.inl 1, M2, zn S (99, 0))) else (if v1 = 0 then (zbx (F_X10_defineAxiom (M2 2 5) M2 S) (fun e M S => some (.inl e, M, S)) fun r20 M21 S22 => ( some (.inr r20, M21, S22))) else (if v1 = 1 then (zbx (F_X10_defineContext M2 S) (fun e M S => some (.inl e, M, S)) fun r11 M12 S13 => ( some (.inr r11, M12, S13))) else (zb2 (F_X10_replaceNumber v1 (M2 2 8) M2) fun r8 M9 => ( some (.inr r8, M9, S)))))))
def F_X10_define (M : zM) (S : zS) : Option ((Nat ⊕ Int) × zM × zS) :=
  zb2 (F_X1_read M) fun r28 M29 => ( if r28 = (-1) then (F_X10_define_J25 r28 (M29 2 4) M29 S) else (F_X10_define_J25 r28 (-1) M29 S))
def F_X10_faultPosition (M : zM) : Option (Int) :=
  some (M 1 7)
def F_X10_requireIndex_J9 (M : zM) (S : zS) : Option ((Nat ⊕ Unit) × zM × zS) :=
  some (.inl 2, M, zn S (99, 0))
def F_X10_requireIndex (v1 : Int) (v2 : Int) (M : zM) (S : zS) : Option ((Nat ⊕ Unit) × zM × zS) :=
  if v1 < 0 then (F_X10_requireIndex_J9 M S) else (if v1 < v2 then (some (.inr (), M, S)) else (F_X10_requireIndex_J9 M S))
def F_X10_requireAxiom (v1 : Int) (M : zM) (S : zS) : Option ((Nat ⊕ Unit) × zM × zS) :=
  zbx (F_X10_requireIndex v1 (M 5 2) M S) (fun e M S => some (.inl e, M, S)) fun u5 M2 S3 => ( some (.inr (), M2, S3))
def F_X10_removeAxiom (v1 : Int) (M : zM) (S : zS) : Option ((Nat ⊕ Unit) × zM × zS) :=
  zbx (F_X10_requireAxiom v1 M S) (fun e M S => some (.inl e, M, S)) fun u4 M1 S2 => ( zb1 (F_X2_dropAxiom v1 M1 S2) fun M9 => ( zb1 (F_X10_grammarChanged M9) fun M11 => ( some (.inr (), M11, S2))))
def F_X10_requireContext (v1 : Int) (M : zM) (S : zS) : Option ((Nat ⊕ Unit) × zM × zS) :=
  zbx (F_X10_requireIndex v1 (M 5 3) M S) (fun e M S => some (.inl e, M, S)) fun u5 M2 S3 => ( some (.inr (), M2, S3))
def F_X10_removeContext (v1 : Int) (M : zM) (S : zS) : Option ((Nat ⊕ Unit) × zM × zS) :=
  zbx (F_X10_requireContext v1 M S) (fun e M S => some (.inl e, M, S)) fun u4 M1 S2 => ( zb2 (F_X2_dropContext v1 M1 S2) fun M9 S10 => ( zb1 (F_X10_grammarChanged M9) fun M13 => ( some (.inr (), M13, S10))))
def F_X10_count (v1 : Int) (M : zM) (S : zS) : Option ((Nat ⊕ Int) × zM × zS) :=
  if v1 = 0 then (some (.inr (M 5 2), M, S)) else (if v1 = 1 then (some (.inr (M 5 3), M, S)) else (if v1 = 2 then (some (.inr (M 5 4), M, S)) else (if v1 = 3 then (some (.inr (M 5 5), M, S)) else (if v1 = 4 then (some (.inr (M 2 3), M, S)) else (some (.inl 1, M, zn S (99, 0)))))))
def F_X10_requireLanguage_J23 (M : zM) (S : zS) : Option ((Nat ⊕ Unit) × zM × zS) :=
  if (M 11 15) = 0 then (some (.inr (), M, S)) else (some (.inl 3, M, zn S (99, 0)))
def F_X10_requireLanguage (M : zM) (S : zS) : Option ((Nat ⊕ Unit) × zM × zS) :=
  if (M 1 11) = 0 then (F_X10_requireLanguage_J23 M S) else (zb1 (F_X3_build M S) fun M5 => ( zlet (zs M5 1 11 0) fun M7 => ( F_X10_requireLanguage_J23 M7 S)))
def F_X10_size (M : zM) (S : zS) : Option ((Nat ⊕ Int) × zM × zS) :=
  zbx (F_X10_requireLanguage M S) (fun e M S => some (.inl e, M, S)) fun u4 M1 S2 => ( some (.inr (M1 11 13), M1, S2))
def F_X10_requireLength_J15 (M : zM) (S : zS) : Option ((Nat ⊕ Unit) × zM × zS) :=
  some (.inl 1, M, zn S (99, 0))
def F_X10_requireLength (v1 : Int) (M : zM) (S : zS) : Option ((Nat ⊕ Unit) × zM × zS) :=
  if v1 < 0 then (F_X10_requireLength_J15 M S) else (if (M 5 5) < v1 then (F_X10_requireLength_J15 M S) else (some (.inr (), M, S)))
def F_X10_sizeOf (v1 : Int) (M : zM) (S : zS) : Option ((Nat ⊕ Int) × zM × zS) :=
  zbx (F_X10_requireLength v1 M S) (fun e M S => some (.inl e, M, S)) fun u4 M1 S2 => ( zbx (F_X10_requireLanguage M1 S2) (fun e M S => some (.inl e, M, S)) fun u12 M9 S10 => ( zb1 (F_X3_wordsOfLength v1 M9 S10) fun r17 => ( some (.inr r17, M9, S10))))
def F_X10_density (v1 : Int) (M : zM) (S : zS) : Option ((Nat ⊕ UInt64) × zM × zS) :=
  zbx (F_X10_requireLength v1 M S) (fun e M S => some (.inl e, M, S)) fun u4 M1 S2 => ( zbx (F_X10_requireLanguage M1 S2) (fun e M S => some (.inl e, M, S)) fun u12 M9 S10 => ( zb1 (F_X3_wordsOfLength v1 M9 S10) fun r17 => ( zb1 (F_X9_power v1) fun r19 => ( zchkP (vf_n64 (FP.ddiv (FP.i2d (zi r17)) (FP.i2d (zi r19)))) ( some (.inr (FP.ddiv (FP.i2d (zi r17)) (FP.i2d (zi r19))), M9, S10))))))
def F_X10_isUsed (v1 : Int) (M : zM) (S : zS) : Option ((Nat ⊕ Int) × zM × zS) :=
  zbx (F_X10_requireContext v1 M S) (fun e M S => some (.inl e, M, S)) fun u4 M1 S2 => ( zbx (F_X10_requireLanguage M1 S2) (fun e M S => some (.inl e, M, S)) fun u12 M9 S10 => ( if (zand (M9 11 16) (zshl 1 v1)) = 0 then (some (.inr 0, M9, S10)) else (some (.inr 1, M9, S10))))
def F_X10_isRedundant (v1 : Int) (M : zM) (S : zS) : Option ((Nat ⊕ Int) × zM × zS) :=
  zbx (F_X10_requireContext v1 M S) (fun e M S => some (.inl e, M, S)) fun u4 M1 S2 => ( zbx (F_X10_requireLanguage M1 S2) (fun e M S => some (.inl e, M, S)) fun u12 M9 S10 => ( zb1 (F_X2_allContexts M9) fun r17 => ( zb2 (F_X3_isGeneratedBy (zand r17 (zxor (zshl 1 v1) (-1))) M9 S10) fun r19 M20 => ( zchk ((0 : Int) ≤ r19 ∧ (r19 : Int) ≤ 1) ( some (.inr r19, M20, S10))))))
def F_X10_minimalContexts (M : zM) (S : zS) : Option ((Nat ⊕ Int) × zM × zS) :=
  zbx (F_X10_requireLanguage M S) (fun e M S => some (.inl e, M, S)) fun u4 M1 S2 => ( zb1 (F_X2_allContexts M1) fun r9 => ( zb2 (F_X3_smallestContextSet r9 M1 S2) fun r11 M12 => ( some (.inr r11, M12, S2))))
def F_X10_canFollow (v1 : Int) (v2 : Int) (M : zM) (S : zS) : Option ((Nat ⊕ Int) × zM × zS) :=
  zbx (F_X10_requireContext v1 M S) (fun e M S => some (.inl e, M, S)) fun u4 M1 S2 => ( zbx (F_X10_requireContext v2 M1 S2) (fun e M S => some (.inl e, M, S)) fun u12 M9 S10 => ( zbx (F_X10_requireLanguage M9 S10) (fun e M S => some (.inl e, M, S)) fun u20 M17 S18 => ( zb1 (F_X3_followersOf v1 M17 S18) fun r25 => ( if (zand r25 (zshl 1 v2)) = 0 then (some (.inr 0, M17, S18)) else (some (.inr 1, M17, S18))))))
def F_X10_shortestLoop (v1 : Int) (M : zM) (S : zS) : Option ((Nat ⊕ Int) × zM × zS) :=
  zbx (F_X10_requireContext v1 M S) (fun e M S => some (.inl e, M, S)) fun u4 M1 S2 => ( zbx (F_X10_requireLanguage M1 S2) (fun e M S => some (.inl e, M, S)) fun u12 M9 S10 => ( zb1 (F_X3_loopThrough v1 M9 S10) fun r17 => ( if r17 = 0 then (some (.inl 4, M9, zn S10 (99, 0))) else (some (.inr r17, M9, S10)))))
def F_X10_isConfluent (M : zM) (S : zS) : Option ((Nat ⊕ Int) × zM × zS) :=
  zbx (F_X10_requireLanguage M S) (fun e M S => some (.inl e, M, S)) fun u4 M1 S2 => ( zb2 (F_X5_areSingle M1 S2) fun r9 M10 => ( zchk ((0 : Int) ≤ r9 ∧ (r9 : Int) ≤ 1) ( some (.inr r9, M10, S2))))
def F_X10_clearWord (M : zM) : Option (zM) :=
  zlet (zs M 1 8 0) fun M1 => ( some M1)
def F_X10_addLetter_J12 (M : zM) (S : zS) : Option ((Nat ⊕ Unit) × zM × zS) :=
  some (.inl 1, M, zn S (99, 0))
def F_X10_addLetter (v1 : Int) (M : zM) (S : zS) : Option ((Nat ⊕ Unit) × zM × zS) :=
  if v1 < 97 then (F_X10_addLetter_J12 M S) else (if 99 < v1 then (F_X10_addLetter_J12 M S) else (zb1 (F_X9_length (M 1 8)) fun r4 => ( if r4 < 9 then (zb1 (F_X9_extend (M 1 8) (w (v1 - 97))) fun r8 => ( zlet (zs M 1 8 r8) fun M10 => ( some (.inr (), M10, S)))) else (some (.inl 0, M, zn S (99, 0))))))
def F_X10_takeAxiom (v1 : Int) (M : zM) (S : zS) : Option ((Nat ⊕ Unit) × zM × zS) :=
  zbx (F_X10_requireAxiom v1 M S) (fun e M S => some (.inl e, M, S)) fun u4 M1 S2 => ( zb1 (F_X2_axiom v1 M1 S2) fun r9 => ( zlet (zs M1 1 8 r9) fun M11 => ( some (.inr (), M11, S2))))
def F_X10_takeWord (v1 : Int) (M : zM) (S : zS) : Option ((Nat ⊕ Unit) × zM × zS) :=
  zbx (F_X10_requireLanguage M S) (fun e M S => some (.inl e, M, S)) fun u4 M1 S2 => ( zbx (F_X10_requireIndex v1 (M1 11 13) M1 S2) (fun e M S => some (.inl e, M, S)) fun u13 M10 S11 => ( zb1 (F_X3_wordAt v1 M10 S11) fun r18 => ( zlet (zs M10 1 8 r18) fun M20 => ( some (.inr (), M20, S11)))))
def F_X10_wordLength (M : zM) : Option (Int) :=
  zb1 (F_X9_length (M 1 8)) fun r2 => ( some r2)
def F_X10_letterAt (v1 : Int) (M : zM) (S : zS) : Option ((Nat ⊕ Int) × zM × zS) :=
  zb1 (F_X9_length (M 1 8)) fun r2 => ( zbx (F_X10_requireIndex v1 r2 M S) (fun e M S => some (.inl e, M, S)) fun u7 M4 S5 => ( zb1 (F_X9_factor (M4 1 8) r2 v1 (w (v1 + 1))) fun r13 => ( zchk ((0 : Int) ≤ (zi2c ((97 + r13) - 1)) ∧ ((zi2c ((97 + r13) - 1)) : Int) < 65536) ( some (.inr (zi2c ((97 + r13) - 1)), M4, S5)))))
def F_X10_isGenerated (M : zM) (S : zS) : Option ((Nat ⊕ Int) × zM × zS) :=
  zbx (F_X10_requireLanguage M S) (fun e M S => some (.inl e, M, S)) fun u4 M1 S2 => ( zb1 (F_X3_placeOf (M1 1 8) M1 S2) fun r10 => ( if r10 < 0 then (some (.inr 0, M1, S2)) else (some (.inr 1, M1, S2))))
def F_X10_requirePlace (M : zM) (S : zS) : Option ((Nat ⊕ Int) × zM × zS) :=
  zb1 (F_X3_placeOf (M 1 8) M S) fun r2 => ( if r2 < 0 then (some (.inl 4, M, zn S (99, 0))) else (some (.inr r2, M, S)))
def F_X10_rank (M : zM) (S : zS) : Option ((Nat ⊕ Int) × zM × zS) :=
  zbx (F_X10_requireLanguage M S) (fun e M S => some (.inl e, M, S)) fun u4 M1 S2 => ( zbx (F_X10_requirePlace M1 S2) (fun e M S => some (.inl e, M, S)) fun r9 M10 S11 => ( some (.inr r9, M10, S11)))
def F_X10_derivationLength (M : zM) (S : zS) : Option ((Nat ⊕ Int) × zM × zS) :=
  zbx (F_X10_requireLanguage M S) (fun e M S => some (.inl e, M, S)) fun u4 M1 S2 => ( zbx (F_X10_requirePlace M1 S2) (fun e M S => some (.inl e, M, S)) fun r9 M10 S11 => ( zb1 (F_X3_derivationSteps r9 M10 S11) fun r17 => ( some (.inr r17, M10, S11))))
def F_X10_derivationStep_J9 (M : zM) (S : zS) : Option ((Nat ⊕ Int) × zM × zS) :=
  some (.inl 1, M, zn S (99, 0))
def F_X10_derivationStep (v1 : Int) (v2 : Int) (M : zM) (S : zS) : Option ((Nat ⊕ Int) × zM × zS) :=
  if v2 < 0 then (F_X10_derivationStep_J9 M S) else (if 2 < v2 then (F_X10_derivationStep_J9 M S) else (zbx (F_X10_requireLanguage M S) (fun e M S => some (.inl e, M, S)) fun u6 M3 S4 => ( zbx (F_X10_requirePlace M3 S4) (fun e M S => some (.inl e, M, S)) fun r11 M12 S13 => ( zb1 (F_X3_derivationSteps r11 M12 S13) fun r19 => ( zbx (F_X10_requireIndex v1 r19 M12 S13) (fun e M S => some (.inl e, M, S)) fun u24 M21 S22 => ( zb1 (F_X3_derivationMove r11 v1 M21 S22) fun r29 => ( if v2 = 0 then (zb1 (F_X4_context r29) fun r37 => ( some (.inr r37, M21, S22))) else (if v2 = 1 then (zb1 (F_X4_start r29) fun r35 => ( some (.inr r35, M21, S22))) else (zb1 (F_X4_end r29) fun r33 => ( some (.inr r33, M21, S22)))))))))))
def F_X10_derivations (M : zM) (S : zS) : Option ((Nat ⊕ Int) × zM × zS) :=
  zbx (F_X10_requireLanguage M S) (fun e M S => some (.inl e, M, S)) fun u4 M1 S2 => ( zb1 (F_X3_placeOf (M1 1 8) M1 S2) fun r10 => ( zb1 (F_X3_pathsTo r10 M1 S2) fun r12 => ( some (.inr r12, M1, S2))))
def F_X10_insertions (M : zM) (S : zS) : Option (Int × zM) :=
  zb2 (F_X2_findInsertions (M 1 8) 40 M S) fun r2 M3 => ( some (r2, M3))
def F_X10_makeMove (v1 : Int) (M : zM) : Option (Int × zM) :=
  zb1 (F_X4_word v1) fun r1 => ( zlet (zs M 1 8 r1) fun M3 => ( zb1 (F_X4_context v1) fun r4 => ( some (r4, M3))))
def F_X10_insert (v1 : Int) (M : zM) (S : zS) : Option ((Nat ⊕ Int) × zM × zS) :=
  zb2 (F_X2_findInsertions (M 1 8) 40 M S) fun r2 M3 => ( zbx (F_X10_requireIndex v1 r2 M3 S) (fun e M S => some (.inl e, M, S)) fun u8 M5 S6 => ( zb1 (F_X6_at 40 v1 M5 S6) fun r13 => ( zb2 (F_X10_makeMove r13 M5) fun r15 M16 => ( some (.inr r15, M16, S6)))))
def F_X10_reductions (M : zM) (S : zS) : Option (Int × zM) :=
  zb2 (F_X2_findReductions (M 1 8) 40 M S) fun r2 M3 => ( some (r2, M3))
def F_X10_reduce (v1 : Int) (M : zM) (S : zS) : Option ((Nat ⊕ Int) × zM × zS) :=
  zb2 (F_X2_findReductions (M 1 8) 40 M S) fun r2 M3 => ( zbx (F_X10_requireIndex v1 r2 M3 S) (fun e M S => some (.inl e, M, S)) fun u8 M5 S6 => ( zb1 (F_X6_sort 40 r2 M5 S6) fun M13 => ( zb1 (F_X6_at 40 v1 M13 S6) fun r15 => ( zb2 (F_X10_makeMove r15 M13) fun r17 M18 => ( some (.inr r17, M18, S6))))))
def F_X10_normalForms (M : zM) (S : zS) : Option (Int × zM) :=
  zb1 (F_X5_find (M 1 8) M S) fun M2 => ( some ((M2 25 1), M2))
def F_X10_normalize (v1 : Int) (M : zM) (S : zS) : Option ((Nat ⊕ Unit) × zM × zS) :=
  zb1 (F_X5_find (M 1 8) M S) fun M2 => ( zbx (F_X10_requireIndex v1 (M2 25 1) M2 S) (fun e M S => some (.inl e, M, S)) fun u8 M5 S6 => ( zb1 (F_X5_form v1 M5 S6) fun r13 => ( zlet (zs M5 1 8 r13) fun M15 => ( some (.inr (), M15, S6)))))
def F_X10_requireSlot_J13 (M : zM) (S : zS) : Option ((Nat ⊕ Nat) × zM × zS) :=
  some (.inl 2, M, zn S (99, 0))
def F_X10_requireSlot (v1 : Int) (M : zM) (S : zS) : Option ((Nat ⊕ Nat) × zM × zS) :=
  if v1 < 0 then (F_X10_requireSlot_J13 M S) else (if v1 < 3 then (zchk ((0 : Int) ≤ v1 ∧ v1 < 3) ( some (.inr (zrf S 41 v1), M, S))) else (F_X10_requireSlot_J13 M S))
def F_X10_allocate_J26 (M : zM) (S : zS) : Option ((Nat ⊕ Unit) × zM × zS) :=
  some (.inl 1, M, zn S (99, 0))
def F_X10_allocate (v1 : Int) (v2 : Int) (v3 : Int) (M : zM) (S : zS) : Option ((Nat ⊕ Unit) × zM × zS) :=
  zbx (F_X10_requireSlot v1 M S) (fun e M S => some (.inl e, M, S)) fun r1 M2 S3 => ( if v2 < 0 then (F_X10_allocate_J26 M2 S3) else (if 2 < v2 then (F_X10_allocate_J26 M2 S3) else (if v3 < 0 then (F_X10_allocate_J26 M2 S3) else (if 20 < v3 then (F_X10_allocate_J26 M2 S3) else (zchk (zkd S3 r1 = 6) ( zb1 (F_X8_renew r1 v2 v3 M2 S3) fun M14 => ( some (.inr (), M14, S3))))))))
def F_X10_requireFilled (v1 : Nat) (M : zM) (S : zS) : Option ((Nat ⊕ Unit) × zM × zS) :=
  zchk (zkd S v1 = 6) ( if (M v1 1) = (-1) then (some (.inl 0, M, zn S (99, 0))) else (some (.inr (), M, S)))
def F_X10_store (v1 : Int) (v2 : Int) (v3 : Int) (M : zM) (S : zS) : Option ((Nat ⊕ Unit) × zM × zS) :=
  zbx (F_X10_requireSlot v1 M S) (fun e M S => some (.inl e, M, S)) fun r1 M2 S3 => ( zbx (F_X10_requireFilled r1 M2 S3) (fun e M S => some (.inl e, M, S)) fun u12 M9 S10 => ( zchk (zkd S10 r1 = 6) ( zbx (F_X10_requireIndex v2 (M9 r1 2) M9 S10) (fun e M S => some (.inl e, M, S)) fun u22 M19 S20 => ( zchk (zkd S20 r1 = 6) ( zb1 (F_X8_setNarrowed r1 v2 v3 M19 S20) fun M28 => ( some (.inr (), M28, S20)))))))
def F_X10_element (v1 : Int) (v2 : Int) (M : zM) (S : zS) : Option ((Nat ⊕ Int) × zM × zS) :=
  zbx (F_X10_requireSlot v1 M S) (fun e M S => some (.inl e, M, S)) fun r1 M2 S3 => ( zbx (F_X10_requireFilled r1 M2 S3) (fun e M S => some (.inl e, M, S)) fun u12 M9 S10 => ( zchk (zkd S10 r1 = 6) ( zbx (F_X10_requireIndex v2 (M9 r1 2) M9 S10) (fun e M S => some (.inl e, M, S)) fun u22 M19 S20 => ( zchk (zkd S20 r1 = 6) ( zb1 (F_X6_at (zrf S20 r1 0) v2 M19 S20) fun r28 => ( some (.inr r28, M19, S20)))))))
def F_X10_compareSizes_J83 (M : zM) (S : zS) : Option ((Nat ⊕ Int) × zM × zS) :=
  some (.inr (-1), M, S)
def F_X10_compareSizes_J75 (v3 : Int) (M : zM) (S : zS) : Option ((Nat ⊕ Int) × zM × zS) :=
  some (.inr v3, M, S)
def F_X10_compareSizes_B36 (v2 : Nat) (v3 : Int) (M : zM) (S : zS) : Option ((Int × zM × zS) ⊕ ((Int × zM × zS) ⊕ ((zM × zS) ⊕ (Nat × zM × zS)))) :=
  if (M 5 5) < v3 then (some (.inr (.inr (.inl (M, S))))) else (zchk (zkd S v2 = 6) ( zbx (F_X10_requireIndex v3 (M v2 2) M S) (fun e M S => some (.inr (.inr (.inr (e, M, S))))) fun u8 M5 S6 => ( zchk (zkd S6 v2 = 6) ( zb1 (F_X6_at (zrf S6 v2 0) v3 M5 S6) fun r14 => ( zb1 (F_X3_wordsOfLength v3 M5 S6) fun r16 => ( if r14 = r16 then (zlet (w (v3 + 1)) fun x19 => ( some (.inl (x19, M5, S6)))) else (some (.inr (.inl (v3, M5, S6))))))))))
def F_X10_compareSizes_L36 (v2 : Nat) (v3 : Int) (M : zM) (S : zS) : Option ((Nat ⊕ Int) × zM × zS) :=
  zb1 (zloop (fun (s : Int × zM × zS) => F_X10_compareSizes_B36 v2 s.1 s.2.1 s.2.2) zN (v3, M, S)) (Sum.elim (fun (e : Int × zM × zS) => F_X10_compareSizes_J75 e.1 e.2.1 e.2.2) (Sum.elim (fun (e : zM × zS) => F_X10_compareSizes_J83 e.1 e.2) (fun (e : Nat × zM × zS) => some (.inl e.1, e.2.1, e.2.2))))
def F_X10_compareSizes (v1 : Int) (M : zM) (S : zS) : Option ((Nat ⊕ Int) × zM × zS) :=
  zbx (F_X10_requireSlot v1 M S) (fun e M S => some (.inl e, M, S)) fun r20 M21 S22 => ( zbx (F_X10_requireLanguage M21 S22) (fun e M S => some (.inl e, M, S)) fun u31 M28 S29 => ( zbx (F_X10_requireFilled r20 M28 S29) (fun e M S => some (.inl e, M, S)) fun u39 M36 S37 => ( zchk (zkd S37 r20 = 6) ( if (M36 r20 1) = 2 then (F_X10_compareSizes_L36 r20 0 M36 S37) else (some (.inl 1, M36, zn S37 (99, 0)))))))
def F_X10_save (M : zM) (S : zS) : Option (zM × zS) :=
  zb2 (F_X2_copyFrom_b M S) fun M1 S2 => ( zlet (zs M1 1 9 (M1 1 8)) fun M6 => ( zlet (zs M6 1 10 1) fun M7 => ( some (M7, S2))))
def F_X10_restore (M : zM) (S : zS) : Option ((Nat ⊕ Unit) × zM × zS) :=
  if (M 1 10) = 0 then (some (.inl 0, M, zn S (99, 0))) else (zb2 (F_X2_copyFrom_a M S) fun M3 S4 => ( zlet (zs M3 1 8 (M3 1 9)) fun M8 => ( zb1 (F_X10_grammarChanged M8) fun M9 => ( some (.inr (), M9, S4)))))
def F_X11_init (v0 : Nat) (M : zM) (S : zS) : Option (zM × zS) :=
  zchk (¬ v0 = 0) ( zlet (S.1 + 1) fun q2 => ( zlet (zn S (20, 6)) fun S3 => ( zchk (zkd S3 v0 = 8) ( zlet (zq S3 v0 1 q2) fun S5 => ( zlet (S5.1 + 1) fun q6 => ( zlet (zn S5 (20, 5)) fun S7 => ( zchk (zkd S7 v0 = 8) ( zlet (zq S7 v0 3 q6) fun S9 => ( zlet (S9.1 + 1) fun q10 => ( zlet (zn S9 (20, 5)) fun S11 => ( zchk (zkd S11 v0 = 8) ( zlet (zq S11 v0 4 q10) fun S13 => ( zlet (S13.1 + 1) fun q14 => ( zlet (zn S13 (20, 300)) fun S15 => ( zchk (zkd S15 v0 = 8) ( zlet (zq S15 v0 5 q14) fun S17 => ( zlet (S17.1 + 1) fun q18 => ( zlet (zn S17 (20, 5)) fun S19 => ( zchk (zkd S19 v0 = 8) ( zlet (zq S19 v0 6 q18) fun S21 => ( zchk (zkd S21 v0 = 8) ( zlet (zs M v0 8 1) fun M23 => ( zchk (zkd S21 v0 = 8) ( zlet (zs M23 v0 9 6) fun M25 => ( zlet (S21.1 + 1) fun q26 => ( zlet (zn S21 (23, 60)) fun S27 => ( zchk (zkd S27 v0 = 8) ( zlet (zq S27 v0 10 q26) fun S29 => ( zchk (zkd S29 v0 = 8) ( zlet (zs M25 v0 14 (-1)) fun M31 => ( zlet (S29.1 + 1) fun q32 => ( zlet (zn S29 (20, 60)) fun S33 => ( zchk (zkd S33 v0 = 8) ( zlet (zq S33 v0 16 q32) fun S35 => ( zlet (S35.1 + 1) fun q36 => ( zlet (zn S35 (22, 60)) fun S37 => ( zchk (zkd S37 v0 = 8) ( zlet (zq S37 v0 18 q36) fun S39 => ( zlet (S39.1 + 1) fun q40 => ( zlet (zn S39 (22, 100)) fun S41 => ( zchk (zkd S41 v0 = 8) ( zlet (zq S41 v0 19 q40) fun S43 => ( zlet (S43.1 + 1) fun q44 => ( zlet (zn S43 (22, 29524)) fun S45 => ( zchk (zkd S45 v0 = 8) ( zlet (zq S45 v0 22 q44) fun S47 => ( zlet (S47.1 + 1) fun q48 => ( zlet (zn S47 (20, 29524)) fun S49 => ( zchk (zkd S49 v0 = 8) ( zlet (zq S49 v0 24 q48) fun S51 => ( zlet (S51.1 + 1) fun q52 => ( zlet (zn S51 (20, 5)) fun S53 => ( zchk (zkd S53 v0 = 8) ( zlet (zq S53 v0 25 q52) fun S55 => ( zlet (S55.1 + 1) fun q56 => ( zlet (zn S55 (22, 29524)) fun S57 => ( zchk (zkd S57 v0 = 8) ( zlet (zq S57 v0 27 q56) fun S59 => ( zlet (S59.1 + 1) fun q60 => ( zlet (zn S59 (20, 29524)) fun S61 => ( zchk (zkd S61 v0 = 8) ( zlet (zq S61 v0 28 q60) fun S63 => ( zlet (S63.1 + 1) fun q64 => ( zlet (zn S63 (20, 29524)) fun S65 => ( zchk (zkd S65 v0 = 8) ( zlet (zq S65 v0 30 q64) fun S67 => ( zlet (S67.1 + 1) fun q68 => ( zlet (zn S67 (21, 29524)) fun S69 => ( zchk (zkd S69 v0 = 8) ( zlet (zq S69 v0 31 q68) fun S71 => ( zlet (S71.1 + 1) fun q72 => ( zlet (zn S71 (20, 500)) fun S73 => ( zchk (zkd S73 v0 = 8) ( zlet (zq S73 v0 32 q72) fun S75 => ( zlet (S75.1 + 1) fun q76 => ( zlet (zn S75 (20, 500)) fun S77 => ( zchk (zkd S77 v0 = 8) ( zlet (zq S77 v0 33 q76) fun S79 => ( zlet (S79.1 + 1) fun q80 => ( zlet (zn S79 (20, 3)) fun S81 => ( zchk (zkd S81 q80 = 20) ( zchk ((0 : Int) ≤ 0 ∧ 0 < (zlen S81 q80)) ( zlet (zs M31 q80 0 (-1)) fun M84 => ( zchk (zkd S81 q80 = 20) ( zchk ((0 : Int) ≤ 1 ∧ 1 < (zlen S81 q80)) ( zlet (zs M84 q80 1 (-1)) fun M87 => ( zchk (zkd S81 q80 = 20) ( zchk ((0 : Int) ≤ 2 ∧ 2 < (zlen S81 q80)) ( zlet (zs M87 q80 2 (-1)) fun M90 => ( zchk (zkd S81 v0 = 8) ( zlet (zq S81 v0 34 q80) fun S92 => ( zlet (S92.1 + 1) fun q93 => ( zlet (zn S92 (20, 3)) fun S94 => ( zchk (zkd S94 v0 = 8) ( zlet (zq S94 v0 35 q93) fun S96 => ( zlet (S96.1 + 1) fun q97 => ( zlet (zn S96 (20, 60)) fun S98 => ( zchk (zkd S98 v0 = 8) ( zlet (zq S98 v0 36 q97) fun S100 => ( zlet (S100.1 + 1) fun q101 => ( zlet (zn S100 (20, 6)) fun S102 => ( zchk (zkd S102 v0 = 8) ( zlet (zq S102 v0 38 q101) fun S104 => ( zlet (S104.1 + 1) fun q105 => ( zlet (zn S104 (20, 5)) fun S106 => ( zchk (zkd S106 v0 = 8) ( zlet (zq S106 v0 39 q105) fun S108 => ( zlet (S108.1 + 1) fun q109 => ( zlet (zn S108 (20, 5)) fun S110 => ( zchk (zkd S110 v0 = 8) ( zlet (zq S110 v0 40 q109) fun S112 => ( zlet (S112.1 + 1) fun q113 => ( zlet (zn S112 (20, 300)) fun S114 => ( zchk (zkd S114 v0 = 8) ( zlet (zq S114 v0 41 q113) fun S116 => ( zlet (S116.1 + 1) fun q117 => ( zlet (zn S116 (20, 5)) fun S118 => ( zchk (zkd S118 v0 = 8) ( zlet (zq S118 v0 42 q117) fun S120 => ( zlet (S120.1 + 1) fun q121 => ( zlet (zn S120 (20, 5)) fun S122 => ( zchk (zkd S122 v0 = 8) ( zlet (zq S122 v0 43 q121) fun S124 => ( some (M90, S124)))))))))))))))))))))))))))))))))))))))))))))))))))))))))))))))))))))))))))))))))))))))))))))))))))))))))))))))))))))))))))))
def F_X11_isIn_J14 : Option (Int) :=
  some 0
def F_X11_isIn (v0 : Int) (v1 : Int) (v2 : Int) : Option (Int) :=
  if v0 < v1 then (F_X11_isIn_J14) else (if v2 < v0 then (F_X11_isIn_J14) else (some 1))
def F_X11_thrown (M : zM) : Option (Int) :=
  some (M 48 0)
def F_X11_fail (v1 : Int) (M : zM) : Option (Int × zM) :=
  zlet (zs M 48 0 v1) fun M1 => ( some (0, M1))
def F_X11_power_J19 (v1 : Int) : Option (Int) :=
  some v1
def F_X11_power_B4 (v0 : Int) (v1 : Int) (v2 : Int) : Option ((Int × Int) ⊕ (Int)) :=
  if v2 < v0 then (zlet (w (v1 * 3)) fun x2 => ( zlet (w (v2 + 1)) fun x3 => ( some (.inl (x2, x3))))) else (some (.inr v1))
def F_X11_power_L4 (v0 : Int) (v1 : Int) (v2 : Int) : Option (Int) :=
  zb1 (zloop (fun (s : Int × Int) => F_X11_power_B4 v0 s.1 s.2) zN (v1, v2)) (fun (e : Int) => F_X11_power_J19 e)
def F_X11_power (v0 : Int) : Option (Int) :=
  F_X11_power_L4 v0 1 0
def F_X11_first (v0 : Int) : Option (Int) :=
  zb1 (F_X11_power v0) fun r1 => ( some (zdiv (r1 - 1) 2))
def F_X11_lengthOf_J18 (v1 : Int) : Option (Int) :=
  some v1
def F_X11_lengthOf_B2 (v0 : Int) (v1 : Int) : Option ((Int) ⊕ (Int)) :=
  zb1 (F_X11_first (w (v1 + 1))) fun r1 => ( if v0 < r1 then (some (.inr v1)) else (zlet (w (v1 + 1)) fun x4 => ( some (.inl x4))))
def F_X11_lengthOf_L2 (v0 : Int) (v1 : Int) : Option (Int) :=
  zb1 (zloop (fun (s : Int) => F_X11_lengthOf_B2 v0 s) zN v1) (fun (e : Int) => F_X11_lengthOf_J18 e)
def F_X11_lengthOf (v0 : Int) : Option (Int) :=
  F_X11_lengthOf_L2 v0 0
def F_X11_part (v0 : Int) (v1 : Int) (v2 : Int) (v3 : Int) : Option (Int) :=
  zb1 (F_X11_first v1) fun r1 => ( zb1 (F_X11_power (w (v1 - v3))) fun r3 => ( zchk (¬ r3 = 0) ( zb1 (F_X11_power (w (v3 - v2))) fun r6 => ( zchk (¬ r6 = 0) ( zlet (zrem (zdiv (v0 - r1) r3) r6) fun x9 => ( zb1 (F_X11_first (w (v3 - v2))) fun r10 => ( some (w (r10 + x9)))))))))
def F_X11_joined (v0 : Int) (v1 : Int) : Option (Int) :=
  zb1 (F_X11_lengthOf v0) fun r1 => ( zb1 (F_X11_lengthOf v1) fun r3 => ( zb1 (F_X11_first (w (r1 + r3))) fun r5 => ( zb1 (F_X11_first r1) fun r7 => ( zb1 (F_X11_power r3) fun r9 => ( zb1 (F_X11_first r3) fun r11 => ( some (w (((r5 + ((v0 - r7) * r9)) + v1) - r11))))))))
def F_X11_letter (v0 : Int) (v1 : Int) (v2 : Int) : Option (Int) :=
  zb1 (F_X11_part v0 v1 v2 (w (v2 + 1))) fun r1 => ( some (w (r1 - 1)))
def F_X11_isContext (v1 : Int) (M : zM) : Option (Int) :=
  zb1 (F_X11_isIn v1 0 (w ((M 48 7) - 1))) fun r2 => ( zchk ((0 : Int) ≤ r2 ∧ (r2 : Int) ≤ 1) ( some r2))
def F_X11_count (v1 : Int) (M : zM) : Option (Int × zM) :=
  zlet (zs M 48 0 0) fun M1 => ( if v1 = 0 then (some ((M1 48 2), M1)) else (if v1 = 1 then (some ((M1 48 7), M1)) else (if v1 = 2 then (some ((M1 48 8), M1)) else (if v1 = 3 then (some ((M1 48 9), M1)) else (if v1 = 4 then (some ((M1 48 11), M1)) else (zb2 (F_X11_fail 1 M1) fun r12 M13 => ( some (r12, M13))))))))
def F_X11_removeAxiom_J65 (M : zM) : Option (zM) :=
  some M
def F_X11_removeAxiom_B37 (v2 : Int) (M : zM) : Option ((Int × zM) ⊕ (zM)) :=
  if v2 < (M 48 2) then (zchk ((0 : Int) ≤ (w (v2 + 1)) ∧ (w (v2 + 1)) < 6) ( zchk ((0 : Int) ≤ v2 ∧ v2 < 6) ( zlet (zs M 49 v2 (M 49 (w (v2 + 1)))) fun M6 => ( zlet (w (v2 + 1)) fun x7 => ( some (.inl (x7, M6))))))) else (some (.inr M))
def F_X11_removeAxiom_L37 (v2 : Int) (M : zM) : Option (zM) :=
  zb1 (zloop (fun (s : Int × zM) => F_X11_removeAxiom_B37 s.1 s.2) zN (v2, M)) (fun (e : zM) => F_X11_removeAxiom_J65 e)
def F_X11_removeAxiom (v1 : Int) (M : zM) : Option (zM) :=
  zlet (zs M 48 0 0) fun M8 => ( zb1 (F_X11_isIn v1 0 (w ((M8 48 2) - 1))) fun r10 => ( if r10 = 0 then (zlet (zs M8 48 0 1) fun M15 => ( some M15)) else (zlet (zs M8 48 2 (w ((M8 48 2) - 1))) fun M14 => ( F_X11_removeAxiom_L37 v1 M14))))
def F_X11_removeContext_J125 (M : zM) : Option (zM) :=
  some M
def F_X11_removeContext_J119 (v2 : Int) (M : zM) : Option ((Int × zM) ⊕ (zM)) :=
  zlet (w (v2 + 1)) fun x1 => ( some (.inl (x1, M)))
def F_X11_removeContext_B83 (v2 : Int) (v3 : Int) (M : zM) : Option ((Int × zM) ⊕ (zM)) :=
  if v3 < 60 then (zchk ((0 : Int) ≤ (w ((60 * (v2 + 1)) + v3)) ∧ (w ((60 * (v2 + 1)) + v3)) < 300) ( zchk ((0 : Int) ≤ (w ((60 * v2) + v3)) ∧ (w ((60 * v2) + v3)) < 300) ( zlet (zs M 52 (w ((60 * v2) + v3)) (M 52 (w ((60 * (v2 + 1)) + v3)))) fun M6 => ( zlet (w (v3 + 1)) fun x7 => ( some (.inl (x7, M6))))))) else (some (.inr M))
def F_X11_removeContext_L83 (v2 : Int) (v3 : Int) (M : zM) : Option ((Int × zM) ⊕ (zM)) :=
  zb1 (zloop (fun (s : Int × zM) => F_X11_removeContext_B83 v2 s.1 s.2) zN (v3, M)) (fun (e : zM) => F_X11_removeContext_J119 v2 e)
def F_X11_removeContext_B31 (v2 : Int) (M : zM) : Option ((Int × zM) ⊕ (zM)) :=
  if v2 < (M 48 7) then (zchk ((0 : Int) ≤ (w (v2 + 1)) ∧ (w (v2 + 1)) < 5) ( zchk ((0 : Int) ≤ v2 ∧ v2 < 5) ( zlet (zs M 50 v2 (M 50 (w (v2 + 1)))) fun M13 => ( zchk ((0 : Int) ≤ (w (v2 + 1)) ∧ (w (v2 + 1)) < 5) ( zchk ((0 : Int) ≤ v2 ∧ v2 < 5) ( zlet (zs M13 51 v2 (M13 51 (w (v2 + 1)))) fun M17 => ( zchk ((0 : Int) ≤ (w (v2 + 1)) ∧ (w (v2 + 1)) < 5) ( zchk ((0 : Int) ≤ v2 ∧ v2 < 5) ( zlet (zs M17 53 v2 (M17 53 (w (v2 + 1)))) fun M21 => ( F_X11_removeContext_L83 v2 0 M21)))))))))) else (some (.inr M))
def F_X11_removeContext_L31 (v2 : Int) (M : zM) : Option (zM) :=
  zb1 (zloop (fun (s : Int × zM) => F_X11_removeContext_B31 s.1 s.2) zN (v2, M)) (fun (e : zM) => F_X11_removeContext_J125 e)
def F_X11_removeContext (v1 : Int) (M : zM) : Option (zM) :=
  zlet (zs M 48 0 0) fun M22 => ( zb1 (F_X11_isContext v1 M22) fun r23 => ( if r23 = 0 then (zlet (zs M22 48 0 1) fun M28 => ( some M28)) else (zlet (zs M22 48 7 (w ((M22 48 7) - 1))) fun M27 => ( F_X11_removeContext_L31 v1 M27))))
def F_X11_append (v1 : Int) (M : zM) : Option (zM) :=
  zlet (zs M 48 0 0) fun M1 => ( if (M1 48 11) = 60 then (zlet (zs M1 48 0 1) fun M10 => ( some M10)) else (zchk ((0 : Int) ≤ (M1 48 11) ∧ (M1 48 11) < 60) ( zchk ((0 : Int) ≤ v1 ∧ (v1 : Int) < 65536) ( zlet (zs M1 54 (M1 48 11) v1) fun M7 => ( zlet (zs M7 48 11 (w ((M7 48 11) + 1))) fun M9 => ( some M9))))))
def F_X11_sign (M : zM) : Option (Int) :=
  if (M 48 13) < (M 48 12) then (zchk ((0 : Int) ≤ (M 48 13) ∧ (M 48 13) < 60) ( some (M 54 (M 48 13)))) else (some (-1))
def F_X11_goes_J35 (v2 : Int) (t1 : Int) (t2 : Int) (M : zM) : Option (Int × zM) :=
  zlet (zs M 48 13 (w (t1 + t2))) fun M1 => ( zchk ((0 : Int) ≤ v2 ∧ (v2 : Int) ≤ 1) ( some (v2, M1)))
def F_X11_goes_J20 (t0 : Int) (M : zM) : Option (Int × zM) :=
  if t0 = 0 then (F_X11_goes_J35 t0 (M 48 13) 0 M) else (F_X11_goes_J35 t0 (M 48 13) 1 M)
def F_X11_goes_J19 (M : zM) : Option (Int × zM) :=
  F_X11_goes_J20 0 M
def F_X11_goes (v1 : Int) (M : zM) : Option (Int × zM) :=
  if (M 48 14) < 0 then (zb1 (F_X11_sign M) fun r7 => ( if r7 = v1 then (F_X11_goes_J20 1 M) else (F_X11_goes_J19 M))) else (F_X11_goes_J19 M)
def F_X11_expect (v1 : Int) (M : zM) : Option (zM) :=
  zb2 (F_X11_goes v1 M) fun r1 M2 => ( if r1 = 0 then (if (M2 48 14) < 0 then (zlet (zs M2 48 14 (M2 48 13)) fun M8 => ( some M8)) else (some M2)) else (some M2))
def F_X11_isLetter_J25 (M : zM) : Option (Int) :=
  some 0
def F_X11_isLetter (M : zM) : Option (Int) :=
  if (M 48 14) < 0 then (zb1 (F_X11_sign M) fun r3 => ( zb1 (F_X11_isIn r3 97 99) fun r5 => ( if r5 = 0 then (F_X11_isLetter_J25 M) else (some 1)))) else (F_X11_isLetter_J25 M)
def F_X11_readWord_J48 (v1 : Int) (v3 : Int) (v4 : Int) (M : zM) : Option (Int × zM) :=
  if v4 < v1 then (if (M 48 14) < 0 then (zlet (zs M 48 14 (M 48 13)) fun M5 => ( some (v3, M5))) else (some (v3, M))) else (some (v3, M))
def F_X11_readWord_B5 (v1 : Int) (v2 : Int) (v3 : Int) (v4 : Int) (M : zM) : Option ((Int × Int × zM) ⊕ (Int × Int × zM)) :=
  if v4 < v2 then (zb1 (F_X11_isLetter M) fun r7 => ( if r7 = 0 then (some (.inr (v3, v4, M))) else (zb1 (F_X11_sign M) fun r10 => ( zb1 (F_X11_joined v3 (w ((1 + r10) - 97))) fun r12 => ( zlet (w (v4 + 1)) fun x14 => ( zlet (zs M 48 13 (w ((M 48 13) + 1))) fun M16 => ( some (.inl (r12, x14, M16))))))))) else (some (.inr (v3, v4, M)))
def F_X11_readWord_L5 (v1 : Int) (v2 : Int) (v3 : Int) (v4 : Int) (M : zM) : Option (Int × zM) :=
  zb1 (zloop (fun (s : Int × Int × zM) => F_X11_readWord_B5 v1 v2 s.1 s.2.1 s.2.2) zN (v3, v4, M)) (fun (e : Int × Int × zM) => F_X11_readWord_J48 v1 e.1 e.2.1 e.2.2)
def F_X11_readWord (v1 : Int) (v2 : Int) (M : zM) : Option (Int × zM) :=
  F_X11_readWord_L5 v1 v2 0 0 M
def F_X11_put (v1 : Int) (M : zM) : Option (zM) :=
  if (M 48 14) < 0 then (zchk ((0 : Int) ≤ (M 48 17) ∧ (M 48 17) < 60) ( zlet (zs M 55 (M 48 17) v1) fun M5 => ( zlet (zs M5 48 17 (w ((M5 48 17) + 1))) fun M7 => ( some M7)))) else (some M)
def F_X11_opens_J26 (M : zM) : Option (zM) :=
  zlet (zs M 48 15 (w ((M 48 15) + 1))) fun M2 => ( some M2)
def F_X11_opens (M : zM) : Option (zM) :=
  if (M 48 15) = 6 then (if (M 48 14) < 0 then (zlet (zs M 48 14 (w ((M 48 13) - 1))) fun M8 => ( F_X11_opens_J26 M8)) else (F_X11_opens_J26 M)) else (F_X11_opens_J26 M)
def F_X11_readDigit_J67 (v2 : Int) (t1 : Int) (t2 : Int) (M : zM) : Option (Int × zM) :=
  zlet (zs M 48 13 (w (t1 + t2))) fun M1 => ( some (v2, M1))
def F_X11_readDigit_J49 (t0 : Int) (M : zM) : Option (Int × zM) :=
  if (M 48 14) < 0 then (F_X11_readDigit_J67 t0 (M 48 13) 1 M) else (F_X11_readDigit_J67 t0 (M 48 13) 0 M)
def F_X11_readDigit_J31 (M : zM) : Option (Int × zM) :=
  if (M 48 14) < 0 then (zb1 (F_X11_sign M) fun r7 => ( F_X11_readDigit_J49 (w (r7 - 48)) M)) else (F_X11_readDigit_J49 0 M)
def F_X11_readDigit (v1 : Int) (M : zM) : Option (Int × zM) :=
  if (M 48 14) < 0 then (zb1 (F_X11_sign M) fun r11 => ( zb1 (F_X11_isIn r11 (w (48 + v1)) 57) fun r13 => ( if r13 = 0 then (zlet (zs M 48 14 (M 48 13)) fun M17 => ( F_X11_readDigit_J31 M17)) else (F_X11_readDigit_J31 M)))) else (F_X11_readDigit_J31 M)
def F_X11_readComparison_J90 (v1 : Int) (v2 : Int) (M : zM) : Option (zM) :=
  zb2 (F_X11_readDigit 0 M) fun r1 M2 => ( zb1 (F_X11_put (w (((1000 + (100 * v1)) + (10 * v2)) + r1)) M2) fun M4 => ( some M4))
def F_X11_readComparison_J78 (v1 : Int) (t0 : Int) (M : zM) : Option (zM) :=
  if t0 = 2 then (zb1 (F_X11_expect 62 M) fun M7 => ( F_X11_readComparison_J90 v1 t0 M7)) else (F_X11_readComparison_J90 v1 t0 M)
def F_X11_readComparison_J51 (v1 : Int) (M : zM) : Option (zM) :=
  zb2 (F_X11_goes 60 M) fun r9 M10 => ( if r9 = 0 then (zb2 (F_X11_goes 61 M10) fun r13 M14 => ( if r13 = 0 then (F_X11_readComparison_J78 v1 2 M14) else (F_X11_readComparison_J78 v1 1 M14))) else (F_X11_readComparison_J78 v1 0 M10))
def F_X11_readComparison_J36 (v1 : Int) (t1 : Int) (t2 : Int) (M : zM) : Option (zM) :=
  zlet (zs M 48 13 (w (t1 + t2))) fun M17 => ( if v1 = 3 then (zb1 (F_X11_expect 35 M17) fun M19 => ( F_X11_readComparison_J51 v1 M19)) else (F_X11_readComparison_J51 v1 M17))
def F_X11_readComparison_J18 (t0 : Int) (M : zM) : Option (zM) :=
  zb1 (F_X11_isLetter M) fun r22 => ( if r22 = 0 then (F_X11_readComparison_J36 t0 (M 48 13) 0 M) else (F_X11_readComparison_J36 t0 (M 48 13) 1 M))
def F_X11_readComparison (M : zM) : Option (zM) :=
  zb1 (F_X11_isLetter M) fun r25 => ( if r25 = 0 then (F_X11_readComparison_J18 3 M) else (zb1 (F_X11_sign M) fun r28 => ( F_X11_readComparison_J18 (w (r28 - 97)) M)))
def F_X11_readOne (rc : Nat → zM → Option (zM)) (M : zM) : Option (zM) :=
  zb2 (F_X11_goes 33 M) fun r1 M2 => ( if r1 = 0 then (zb2 (F_X11_goes 40 M2) fun r5 M6 => ( if r5 = 0 then (zb2 (F_X11_goes 42 M6) fun r9 M10 => ( if r9 = 0 then (zb2 (F_X11_goes 94 M10) fun r13 M14 => ( if r13 = 0 then (zb2 (F_X11_goes 36 M14) fun r17 M18 => ( if r17 = 0 then (zb2 (F_X11_goes 126 M18) fun r21 M22 => ( if r21 = 0 then (zb1 (F_X11_readComparison M22) fun M25 => ( some M25)) else (zb2 (F_X11_readWord 1 3 M22) fun r27 M28 => ( zb1 (F_X11_put (w (5200 + r27)) M28) fun M30 => ( some M30))))) else (zb2 (F_X11_readWord 1 3 M18) fun r32 M33 => ( zb1 (F_X11_put (w (5100 + r32)) M33) fun M35 => ( some M35))))) else (zb2 (F_X11_readWord 1 3 M14) fun r37 M38 => ( zb1 (F_X11_put (w (5000 + r37)) M38) fun M40 => ( some M40))))) else (zb1 (F_X11_put 1 M10) fun M42 => ( some M42)))) else (zb1 (F_X11_opens M6) fun M44 => ( zb1 (rc 0 M44) fun M46 => ( zb1 (F_X11_expect 41 M46) fun M48 => ( zlet (zs M48 48 15 (w ((M48 48 15) - 1))) fun M51 => ( some M51))))))) else (zb1 (F_X11_opens M2) fun M52 => ( zb1 (rc 2 M52) fun M54 => ( zlet (zs M54 48 15 (w ((M54 48 15) - 1))) fun M57 => ( zb1 (F_X11_put 2 M57) fun M58 => ( some M58))))))
def F_X11_readAll_J25 (rc : Nat → zM → Option (zM)) (M : zM) : Option (zM) :=
  some M
def F_X11_readAll_B4 (rc : Nat → zM → Option (zM)) (M : zM) : Option ((zM) ⊕ (zM)) :=
  zb2 (F_X11_goes 38 M) fun r1 M2 => ( if r1 = 0 then (some (.inr M2)) else (zb1 (rc 2 M2) fun M5 => ( zb1 (F_X11_put 3 M5) fun M7 => ( some (.inl M7)))))
def F_X11_readAll_L4 (rc : Nat → zM → Option (zM)) (M : zM) : Option (zM) :=
  zb1 (zloop (fun (s : zM) => F_X11_readAll_B4 rc s) zN M) (fun (e : zM) => F_X11_readAll_J25 rc e)
def F_X11_readAll (rc : Nat → zM → Option (zM)) (M : zM) : Option (zM) :=
  zb1 (rc 2 M) fun M9 => ( F_X11_readAll_L4 rc M9)
def F_X11_readSelector_J25 (rc : Nat → zM → Option (zM)) (M : zM) : Option (zM) :=
  some M
def F_X11_readSelector_B4 (rc : Nat → zM → Option (zM)) (M : zM) : Option ((zM) ⊕ (zM)) :=
  zb2 (F_X11_goes 124 M) fun r1 M2 => ( if r1 = 0 then (some (.inr M2)) else (zb1 (rc 1 M2) fun M5 => ( zb1 (F_X11_put 4 M5) fun M7 => ( some (.inl M7)))))
def F_X11_readSelector_L4 (rc : Nat → zM → Option (zM)) (M : zM) : Option (zM) :=
  zb1 (zloop (fun (s : zM) => F_X11_readSelector_B4 rc s) zN M) (fun (e : zM) => F_X11_readSelector_J25 rc e)
def F_X11_readSelector (rc : Nat → zM → Option (zM)) (M : zM) : Option (zM) :=
  zb1 (rc 1 M) fun M9 => ( F_X11_readSelector_L4 rc M9)
def F_GQ (n : Nat) (k : Nat) (M : zM) : Option (zM) := match n with
  | 0 => none
  | n + 1 => if k = 0 then F_X11_readSelector (F_GQ n) M else if k = 1 then F_X11_readAll (F_GQ n) M else F_X11_readOne (F_GQ n) M
def F_X11_ernal (v0 : Int) : Option (Int) :=
  if v0 = 0 then (some 101) else (if v0 = 1 then (some 114) else (if v0 = 2 then (some 110) else (if v0 = 3 then (some 97) else (some 108))))
def F_X11_imal (v0 : Int) : Option (Int) :=
  if v0 = 0 then (some 105) else (if v0 = 1 then (some 109) else (if v0 = 2 then (some 97) else (some 108)))
def F_X11_nameAt (v0 : Int) (v1 : Int) : Option (Int) :=
  if v0 = 0 then (if v1 = 0 then (some 97) else (if v1 = 1 then (some 120) else (if v1 = 2 then (some 105) else (if v1 = 3 then (some 111) else (if v1 = 4 then (some 109) else (some 0)))))) else (if v0 = 1 then (if v1 = 0 then (some 99) else (if v1 = 1 then (some 111) else (if v1 = 2 then (some 110) else (if v1 = 3 then (some 116) else (if v1 = 4 then (some 101) else (if v1 = 5 then (some 120) else (if v1 = 6 then (some 116) else (some 0)))))))) else (if v0 = 2 then (if v1 = 0 then (some 109) else (if v1 = 1 then (some 111) else (if v1 = 2 then (some 100) else (if v1 = 3 then (some 101) else (some 0))))) else (if v0 = 3 then (if v1 = 0 then (some 108) else (if v1 = 1 then (some 105) else (if v1 = 2 then (some 109) else (if v1 = 3 then (some 105) else (if v1 = 4 then (some 116) else (some 0)))))) else (if v0 = 4 then (if v1 < 2 then (if v1 = 0 then (some 101) else (some 120)) else (if v1 = 2 then (some 116) else (if v1 < 8 then (zb1 (F_X11_ernal (w (v1 - 3))) fun r30 => ( some r30)) else (some 0)))) else (if v0 = 5 then (if v1 < 2 then (if v1 = 0 then (some 105) else (some 110)) else (if v1 = 2 then (some 116) else (if v1 < 8 then (zb1 (F_X11_ernal (w (v1 - 3))) fun r37 => ( some r37)) else (some 0)))) else (if v0 = 6 then (if v1 < 2 then (if v1 = 0 then (some 109) else (some 97)) else (if v1 = 2 then (some 120) else (if v1 < 7 then (zb1 (F_X11_imal (w (v1 - 3))) fun r44 => ( some r44)) else (some 0)))) else (if v0 = 7 then (if v1 < 2 then (if v1 = 0 then (some 109) else (some 105)) else (if v1 = 2 then (some 110) else (if v1 < 7 then (zb1 (F_X11_imal (w (v1 - 3))) fun r51 => ( some r51)) else (some 0)))) else (if v1 = 0 then (some 108) else (if v1 = 1 then (some 101) else (if v1 = 2 then (some 102) else (if v1 = 3 then (some 116) else (some 0))))))))))))
def F_X11_readName_J103 (v3 : Int) (M : zM) : Option (Int × zM) :=
  zlet (zs M 48 14 (w ((M 48 13) + v3))) fun M2 => ( some ((-1), M2))
def F_X11_readName_J76 (v4 : Int) (v5 : Int) (M : zM) : Option (Int × zM) :=
  zlet (zs M 48 13 (w ((M 48 13) + v5))) fun M4 => ( some (v4, M4))
def F_X11_readName_J66 (v2 : Int) (v3 : Int) (v4 : Int) (v5 : Int) (M : zM) : Option ((Int × Int) ⊕ ((Int × Int) ⊕ (Int))) :=
  zb1 (F_X11_nameAt v4 v5) fun r5 => ( if r5 = 0 then (some (.inr (.inl (v4, v5)))) else (zlet (zmax v3 v5) fun x8 => ( zlet (w (v4 + 1)) fun x9 => ( some (.inl (x8, x9))))))
def F_X11_readName_B14 (v2 : Int) (v3 : Int) (v4 : Int) (v5 : Int) (M : zM) : Option ((Int) ⊕ (Int)) :=
  if (w ((M 48 13) + v5)) < (M 48 12) then (zb1 (F_X11_nameAt v4 v5) fun r13 => ( if r13 = 0 then (some (.inr v5)) else (zchk ((0 : Int) ≤ (w ((M 48 13) + v5)) ∧ (w ((M 48 13) + v5)) < 60) ( zb1 (F_X11_nameAt v4 v5) fun r19 => ( if (M 54 (w ((M 48 13) + v5))) = r19 then (zlet (w (v5 + 1)) fun x22 => ( some (.inl x22))) else (some (.inr v5))))))) else (some (.inr v5))
def F_X11_readName_L14 (v2 : Int) (v3 : Int) (v4 : Int) (v5 : Int) (M : zM) : Option ((Int × Int) ⊕ ((Int × Int) ⊕ (Int))) :=
  zb1 (zloop (fun (s : Int) => F_X11_readName_B14 v2 v3 v4 s M) zN v5) (fun (e : Int) => F_X11_readName_J66 v2 v3 v4 e M)
def F_X11_readName_B5 (v2 : Int) (v3 : Int) (v4 : Int) (M : zM) : Option ((Int × Int) ⊕ ((Int × Int) ⊕ (Int))) :=
  if v2 < v4 then (some (.inr (.inr v3))) else (F_X11_readName_L14 v2 v3 v4 0 M)
def F_X11_readName_L5 (v2 : Int) (v3 : Int) (v4 : Int) (M : zM) : Option (Int × zM) :=
  zb1 (zloop (fun (s : Int × Int) => F_X11_readName_B5 v2 s.1 s.2 M) zN (v3, v4)) (Sum.elim (fun (e : Int × Int) => F_X11_readName_J76 e.1 e.2 M) (fun (e : Int) => F_X11_readName_J103 e M))
def F_X11_readName (v1 : Int) (v2 : Int) (M : zM) : Option (Int × zM) :=
  F_X11_readName_L5 v2 0 v1 M
def F_X11_finish (M : zM) : Option (zM) :=
  if (M 48 14) < 0 then (if (M 48 13) < (M 48 12) then (zlet (zs M 48 14 (M 48 13)) fun M7 => ( some M7)) else (some M)) else (some M)
def F_X11_defineAxiom_J76 (M : zM) : Option (Int × zM) :=
  zb2 (F_X11_fail 2 M) fun r1 M2 => ( some (r1, M2))
def F_X11_defineAxiom_J63 (v1 : Int) (v2 : Int) (M : zM) : Option (Int × zM) :=
  if (M 48 2) = 6 then (F_X11_defineAxiom_J76 M) else (if v2 = 0 then (zchk ((0 : Int) ≤ (M 48 2) ∧ (M 48 2) < 6) ( zlet (zs M 49 (M 48 2) v1) fun M9 => ( zlet (zs M9 48 2 (w ((M9 48 2) + 1))) fun M11 => ( some ((w ((M11 48 2) - 1)), M11))))) else (F_X11_defineAxiom_J76 M))
def F_X11_defineAxiom_J56 (v1 : Int) (v3 : Int) (t0 : Int) (M : zM) : Option ((Int × Int) ⊕ (Int)) :=
  zlet (w (v3 + 1)) fun x13 => ( some (.inl (t0, x13)))
def F_X11_defineAxiom_J51 (v1 : Int) (v3 : Int) (M : zM) : Option ((Int × Int) ⊕ (Int)) :=
  F_X11_defineAxiom_J56 v1 v3 1 M
def F_X11_defineAxiom_B29 (v1 : Int) (v2 : Int) (v3 : Int) (M : zM) : Option ((Int × Int) ⊕ (Int)) :=
  if v3 < (M 48 2) then (if v2 = 0 then (zchk ((0 : Int) ≤ v3 ∧ v3 < 6) ( if (M 49 v3) = v1 then (F_X11_defineAxiom_J51 v1 v3 M) else (F_X11_defineAxiom_J56 v1 v3 0 M))) else (F_X11_defineAxiom_J51 v1 v3 M)) else (some (.inr v2))
def F_X11_defineAxiom_L29 (v1 : Int) (v2 : Int) (v3 : Int) (M : zM) : Option (Int × zM) :=
  zb1 (zloop (fun (s : Int × Int) => F_X11_defineAxiom_B29 v1 s.1 s.2 M) zN (v2, v3)) (fun (e : Int) => F_X11_defineAxiom_J63 v1 e M)
def F_X11_defineAxiom (M : zM) : Option (Int × zM) :=
  zb2 (F_X11_readWord 1 8 M) fun r20 M21 => ( zb1 (F_X11_finish M21) fun M23 => ( if (M23 48 14) < 0 then (F_X11_defineAxiom_L29 r20 0 0 M23) else (zb2 (F_X11_fail 1 M23) fun r27 M28 => ( some (r27, M28)))))
def F_X11_defineContext_J130 (M : zM) : Option (Int × zM) :=
  zlet (zs M 48 7 (w ((M 48 7) + 1))) fun M2 => ( some ((w ((M2 48 7) - 1)), M2))
def F_X11_defineContext_B96 (v3 : Int) (M : zM) : Option ((Int × zM) ⊕ (zM)) :=
  if v3 < (M 48 17) then (zchk ((0 : Int) ≤ v3 ∧ v3 < 60) ( zchk ((0 : Int) ≤ (w ((60 * (M 48 7)) + v3)) ∧ (w ((60 * (M 48 7)) + v3)) < 300) ( zlet (zs M 52 (w ((60 * (M 48 7)) + v3)) (M 55 v3)) fun M10 => ( zlet (w (v3 + 1)) fun x11 => ( some (.inl (x11, M10))))))) else (some (.inr M))
def F_X11_defineContext_L96 (v3 : Int) (M : zM) : Option (Int × zM) :=
  zb1 (zloop (fun (s : Int × zM) => F_X11_defineContext_B96 s.1 s.2) zN (v3, M)) (fun (e : zM) => F_X11_defineContext_J130 e)
def F_X11_defineContext (M : zM) : Option (Int × zM) :=
  zb2 (F_X11_readWord 1 3 M) fun r12 M13 => ( zb1 (F_X11_expect 44 M13) fun M15 => ( zb2 (F_X11_readWord 0 3 M15) fun r17 M18 => ( zb1 (F_X11_expect 32 M18) fun M20 => ( zb1 (F_GQ 40 0 M20) fun M22 => ( zb1 (F_X11_finish M22) fun M24 => ( if (M24 48 14) < 0 then (if (M24 48 7) = 5 then (zb2 (F_X11_fail 2 M24) fun r40 M41 => ( some (r40, M41))) else (zchk ((0 : Int) ≤ (M24 48 7) ∧ (M24 48 7) < 5) ( zlet (zs M24 50 (M24 48 7) r12) fun M32 => ( zchk ((0 : Int) ≤ (M32 48 7) ∧ (M32 48 7) < 5) ( zlet (zs M32 51 (M32 48 7) r17) fun M35 => ( zchk ((0 : Int) ≤ (M35 48 7) ∧ (M35 48 7) < 5) ( zlet (zs M35 53 (M35 48 7) (M35 48 17)) fun M39 => ( F_X11_defineContext_L96 0 M39)))))))) else (zb2 (F_X11_fail 1 M24) fun r43 M44 => ( some (r43, M44)))))))))
def F_X11_defineMode_J18 (t0 : Int) (M : zM) : Option (Int × zM) :=
  zb1 (F_X11_finish M) fun M1 => ( if (M1 48 14) < 0 then (zlet (M1 48 8) fun x6 => ( zlet (zs M1 48 8 (w (t0 - 4))) fun M7 => ( some (x6, M7)))) else (zb2 (F_X11_fail 1 M1) fun r8 M9 => ( some (r8, M9))))
def F_X11_defineMode (M : zM) : Option (Int × zM) :=
  if (M 48 14) < 0 then (zb2 (F_X11_readName 4 8 M) fun r13 M14 => ( F_X11_defineMode_J18 r13 M14)) else (F_X11_defineMode_J18 (-1) M)
def F_X11_defineLimit (M : zM) : Option (Int × zM) :=
  zb2 (F_X11_readDigit 1 M) fun r1 M2 => ( zb1 (F_X11_finish M2) fun M4 => ( if (M4 48 14) < 0 then (zlet (M4 48 9) fun x9 => ( zlet (zs M4 48 9 r1) fun M10 => ( some (x9, M10)))) else (zb2 (F_X11_fail 1 M4) fun r11 M12 => ( some (r11, M12)))))
def F_X11_define (M : zM) : Option (Int × zM) :=
  zlet (zs M 48 0 0) fun M1 => ( zlet (zs M1 48 12 (M1 48 11)) fun M3 => ( zlet (zs M3 48 11 0) fun M4 => ( zlet (zs M4 48 13 0) fun M5 => ( zlet (zs M5 48 14 (-1)) fun M6 => ( zlet (zs M6 48 15 0) fun M7 => ( zlet (zs M7 48 17 0) fun M8 => ( zb2 (F_X11_readName 0 3 M8) fun r9 M10 => ( zb1 (F_X11_expect 32 M10) fun M12 => ( if r9 = 0 then (zb2 (F_X11_defineAxiom M12) fun r15 M16 => ( some (r15, M16))) else (if r9 = 1 then (zb2 (F_X11_defineContext M12) fun r19 M20 => ( some (r19, M20))) else (if r9 = 2 then (zb2 (F_X11_defineMode M12) fun r23 M24 => ( some (r23, M24))) else (if r9 = 3 then (zb2 (F_X11_defineLimit M12) fun r27 M28 => ( some (r27, M28))) else (zb2 (F_X11_fail 1 M12) fun r30 M31 => ( some (r30, M31)))))))))))))))
def F_X11_faultPosition (M : zM) : Option (Int × zM) :=
  zlet (zs M 48 0 0) fun M1 => ( some ((M1 48 14), M1))
def F_X11_compares_J61 (v0 : Int) (v4 : Int) : Option (Int) :=
  zlet (zrem v0 10) fun x1 => ( zlet (zrem (zdiv v0 10) 10) fun x2 => ( if x2 = 0 then (if v4 < x1 then (some 1) else (some 0)) else (if x2 = 1 then (if v4 = x1 then (some 1) else (some 0)) else (if x1 < v4 then (some 1) else (some 0)))))
def F_X11_compares_J52 (v0 : Int) (v1 : Int) (v2 : Int) (v3 : Int) (v5 : Int) (t0 : Int) (t1 : Int) : Option ((Int × Int) ⊕ (Int)) :=
  zlet (w (t0 + t1)) fun x8 => ( zlet (w (v5 + 1)) fun x9 => ( some (.inl (x8, x9))))
def F_X11_compares_J51 (v0 : Int) (v1 : Int) (v2 : Int) (v3 : Int) (v5 : Int) (t0 : Int) : Option ((Int × Int) ⊕ (Int)) :=
  F_X11_compares_J52 v0 v1 v2 v3 v5 t0 0
def F_X11_compares_B23 (v0 : Int) (v1 : Int) (v2 : Int) (v3 : Int) (v4 : Int) (v5 : Int) : Option ((Int × Int) ⊕ (Int)) :=
  if v5 < v2 then (if v3 < 3 then (zb1 (F_X11_letter v1 v2 v5) fun r12 => ( if r12 = v3 then (F_X11_compares_J52 v0 v1 v2 v3 v5 v4 1) else (F_X11_compares_J51 v0 v1 v2 v3 v5 v4))) else (F_X11_compares_J51 v0 v1 v2 v3 v5 v4)) else (some (.inr v4))
def F_X11_compares_L23 (v0 : Int) (v1 : Int) (v2 : Int) (v3 : Int) (v4 : Int) (v5 : Int) : Option (Int) :=
  zb1 (zloop (fun (s : Int × Int) => F_X11_compares_B23 v0 v1 v2 v3 s.1 s.2) zN (v4, v5)) (fun (e : Int) => F_X11_compares_J61 v0 e)
def F_X11_compares_J18 (v0 : Int) (v1 : Int) (v2 : Int) (v3 : Int) (t0 : Int) : Option (Int) :=
  F_X11_compares_L23 v0 v1 v2 v3 t0 0
def F_X11_compares (v0 : Int) (v1 : Int) (v2 : Int) : Option (Int) :=
  zlet (zrem (zdiv v0 100) 10) fun x15 => ( if x15 = 3 then (F_X11_compares_J18 v0 v1 v2 x15 v2) else (F_X11_compares_J18 v0 v1 v2 x15 0))
def F_X11_shows_J126 (v6 : Int) : Option (Int) :=
  zchk ((0 : Int) ≤ v6 ∧ (v6 : Int) ≤ 1) ( some v6)
def F_X11_shows_J118 (v1 : Int) (v2 : Int) (v3 : Int) (v4 : Int) (v7 : Int) (t0 : Int) : Option ((Int × Int) ⊕ (Int)) :=
  zlet (w (v7 + 1)) fun x2 => ( some (.inl (t0, x2)))
def F_X11_shows_J113 (v1 : Int) (v2 : Int) (v3 : Int) (v4 : Int) (v7 : Int) : Option ((Int × Int) ⊕ (Int)) :=
  F_X11_shows_J118 v1 v2 v3 v4 v7 1
def F_X11_shows_B83 (v1 : Int) (v2 : Int) (v3 : Int) (v4 : Int) (v6 : Int) (v7 : Int) : Option ((Int × Int) ⊕ (Int)) :=
  if v2 < (w (v7 + v4)) then (some (.inr v6)) else (if v6 = 0 then (zb1 (F_X11_part v1 v2 v7 (w (v7 + v4))) fun r5 => ( if r5 = v3 then (F_X11_shows_J113 v1 v2 v3 v4 v7) else (F_X11_shows_J118 v1 v2 v3 v4 v7 0))) else (F_X11_shows_J113 v1 v2 v3 v4 v7))
def F_X11_shows_L83 (v1 : Int) (v2 : Int) (v3 : Int) (v4 : Int) (v6 : Int) (v7 : Int) : Option (Int) :=
  zb1 (zloop (fun (s : Int × Int) => F_X11_shows_B83 v1 v2 v3 v4 s.1 s.2) zN (v6, v7)) (fun (e : Int) => F_X11_shows_J126 e)
def F_X11_shows (v0 : Int) (v1 : Int) (v2 : Int) : Option (Int) :=
  zlet (zrem v0 100) fun x8 => ( zb1 (F_X11_lengthOf x8) fun r9 => ( zlet (zrem (zdiv v0 100) 10) fun x11 => ( if v2 < r9 then (some 0) else (if x11 = 0 then (zb1 (F_X11_part v1 v2 0 r9) fun r18 => ( if r18 = x8 then (some 1) else (some 0))) else (if x11 = 1 then (zb1 (F_X11_part v1 v2 (w (v2 - r9)) v2) fun r15 => ( if r15 = x8 then (some 1) else (some 0))) else (F_X11_shows_L83 v1 v2 x8 r9 0 0))))))
def F_X11_fulfils_J222 (M : zM) : Option (Int × zM) :=
  some ((M 56 0), M)
def F_X11_fulfils_J216 (v1 : Int) (v2 : Int) (v3 : Int) (v4 : Int) (v5 : Int) (M : zM) : Option ((Int × Int × zM) ⊕ (zM)) :=
  zlet (w (v5 + 1)) fun x2 => ( some (.inl (v4, x2, M)))
def F_X11_fulfils_J160 (v1 : Int) (v2 : Int) (v3 : Int) (v4 : Int) (v5 : Int) (t1 : Int) (t2 : Int) (M : zM) : Option ((Int × Int × zM) ⊕ (zM)) :=
  zchk ((0 : Int) ≤ t1 ∧ t1 < 60) ( zchk ((0 : Int) ≤ t2 ∧ (t2 : Int) ≤ 1) ( zlet (zs M 56 t1 t2) fun M5 => ( F_X11_fulfils_J216 v1 v2 v3 v4 v5 M5)))
def F_X11_fulfils_J155 (v1 : Int) (v2 : Int) (v3 : Int) (v4 : Int) (v5 : Int) (t1 : Int) (M : zM) : Option ((Int × Int × zM) ⊕ (zM)) :=
  F_X11_fulfils_J160 v1 v2 v3 v4 v5 t1 1 M
def F_X11_fulfils_J129 (v1 : Int) (v2 : Int) (v3 : Int) (v4 : Int) (v5 : Int) (t1 : Int) (M : zM) : Option ((Int × Int × zM) ⊕ (zM)) :=
  F_X11_fulfils_J160 v1 v2 v3 v4 v5 t1 0 M
def F_X11_fulfils_J86 (v1 : Int) (v2 : Int) (v3 : Int) (v4 : Int) (v5 : Int) (v6 : Int) (M : zM) : Option ((Int × Int × zM) ⊕ (zM)) :=
  zlet (w (v4 + (-1))) fun x6 => ( if v6 = 3 then (zchk ((0 : Int) ≤ (w (x6 - 1)) ∧ (w (x6 - 1)) < 60) ( if (M 56 (w (x6 - 1))) = 0 then (F_X11_fulfils_J129 v1 v2 v3 x6 v5 (w (x6 - 1)) M) else (zchk ((0 : Int) ≤ x6 ∧ x6 < 60) ( if (M 56 x6) = 0 then (F_X11_fulfils_J129 v1 v2 v3 x6 v5 (w (x6 - 1)) M) else (F_X11_fulfils_J160 v1 v2 v3 x6 v5 (w (x6 - 1)) 1 M))))) else (zchk ((0 : Int) ≤ (w (x6 - 1)) ∧ (w (x6 - 1)) < 60) ( if (M 56 (w (x6 - 1))) = 0 then (zchk ((0 : Int) ≤ x6 ∧ x6 < 60) ( if (M 56 x6) = 0 then (F_X11_fulfils_J160 v1 v2 v3 x6 v5 (w (x6 - 1)) 0 M) else (F_X11_fulfils_J155 v1 v2 v3 x6 v5 (w (x6 - 1)) M))) else (F_X11_fulfils_J155 v1 v2 v3 x6 v5 (w (x6 - 1)) M))))
def F_X11_fulfils_J212 (v1 : Int) (v2 : Int) (v3 : Int) (v4 : Int) (v5 : Int) (t1 : Int) (t2 : Int) (M : zM) : Option ((Int × Int × zM) ⊕ (zM)) :=
  zchk ((0 : Int) ≤ t1 ∧ t1 < 60) ( zchk ((0 : Int) ≤ t2 ∧ (t2 : Int) ≤ 1) ( zlet (zs M 56 t1 t2) fun M22 => ( zlet (w (v4 + 1)) fun x23 => ( F_X11_fulfils_J216 v1 v2 v3 x23 v5 M22))))
def F_X11_fulfils_J207 (v1 : Int) (v2 : Int) (v3 : Int) (v4 : Int) (v5 : Int) (t1 : Int) (M : zM) : Option ((Int × Int × zM) ⊕ (zM)) :=
  F_X11_fulfils_J212 v1 v2 v3 v4 v5 t1 1 M
def F_X11_fulfils_J211 (v1 : Int) (v2 : Int) (v3 : Int) (v4 : Int) (v5 : Int) (t1 : Int) (M : zM) : Option ((Int × Int × zM) ⊕ (zM)) :=
  F_X11_fulfils_J212 v1 v2 v3 v4 v5 t1 0 M
def F_X11_fulfils_J70 (v1 : Int) (v2 : Int) (v3 : Int) (v4 : Int) (v5 : Int) (t1 : Int) (t2 : Int) (M : zM) : Option ((Int × Int × zM) ⊕ (zM)) :=
  zchk ((0 : Int) ≤ t1 ∧ t1 < 60) ( zchk ((0 : Int) ≤ t2 ∧ (t2 : Int) ≤ 1) ( zlet (zs M 56 t1 t2) fun M26 => ( F_X11_fulfils_J216 v1 v2 v3 v4 v5 M26)))
def F_X11_fulfils_B14 (v1 : Int) (v2 : Int) (v3 : Int) (v4 : Int) (v5 : Int) (M : zM) : Option ((Int × Int × zM) ⊕ (zM)) :=
  zchk ((0 : Int) ≤ v1 ∧ v1 < 5) ( if v5 < (w ((60 * v1) + (M 53 v1))) then (zchk ((0 : Int) ≤ v5 ∧ v5 < 300) ( zlet (M 52 v5) fun x32 => ( if x32 = 2 then (zchk ((0 : Int) ≤ (w (v4 - 1)) ∧ (w (v4 - 1)) < 60) ( if (M 56 (w (v4 - 1))) = 0 then (F_X11_fulfils_J70 v1 v2 v3 v4 v5 (w (v4 - 1)) 1 M) else (F_X11_fulfils_J70 v1 v2 v3 v4 v5 (w (v4 - 1)) 0 M))) else (if x32 = 3 then (F_X11_fulfils_J86 v1 v2 v3 v4 v5 x32 M) else (if x32 = 4 then (F_X11_fulfils_J86 v1 v2 v3 v4 v5 x32 M) else (if x32 = 1 then (F_X11_fulfils_J207 v1 v2 v3 v4 v5 v4 M) else (if x32 < 5000 then (zb1 (F_X11_compares x32 v2 v3) fun r41 => ( if r41 = 0 then (F_X11_fulfils_J211 v1 v2 v3 v4 v5 v4 M) else (F_X11_fulfils_J207 v1 v2 v3 v4 v5 v4 M))) else (zb1 (F_X11_shows x32 v2 v3) fun r38 => ( if r38 = 0 then (F_X11_fulfils_J211 v1 v2 v3 v4 v5 v4 M) else (F_X11_fulfils_J207 v1 v2 v3 v4 v5 v4 M)))))))))) else (some (.inr M)))
def F_X11_fulfils_L14 (v1 : Int) (v2 : Int) (v3 : Int) (v4 : Int) (v5 : Int) (M : zM) : Option (Int × zM) :=
  zb1 (zloop (fun (s : Int × Int × zM) => F_X11_fulfils_B14 v1 v2 v3 s.1 s.2.1 s.2.2) zN (v4, v5, M)) (fun (e : zM) => F_X11_fulfils_J222 e)
def F_X11_fulfils (v1 : Int) (v2 : Int) (M : zM) : Option (Int × zM) :=
  zb1 (F_X11_lengthOf v2) fun r47 => ( zlet (w (60 * v1)) fun x49 => ( F_X11_fulfils_L14 v1 v2 r47 0 x49 M))
def F_X11_fit_J75 (M : zM) : Option (zM) :=
  some M
def F_X11_fit_J69 (v1 : Int) (v2 : Int) (v3 : Int) (M : zM) : Option ((Int × zM) ⊕ (zM)) :=
  zlet (w (v3 + 1)) fun x1 => ( some (.inl (x1, M)))
def F_X11_fit_B26 (v1 : Int) (v2 : Int) (v3 : Int) (v4 : Int) (M : zM) : Option ((Int × zM) ⊕ (zM)) :=
  if (M 48 21) < v4 then (some (.inr M)) else (zb1 (F_X11_part v1 (M 48 21) v3 v4) fun r5 => ( zb2 (F_X11_fulfils v2 r5 M) fun r7 M8 => ( zchk ((0 : Int) ≤ (w ((10 * v3) + v4)) ∧ (w ((10 * v3) + v4)) < 100) ( zchk ((0 : Int) ≤ r7 ∧ (r7 : Int) ≤ 1) ( zlet (zs M8 57 (w ((10 * v3) + v4)) r7) fun M12 => ( zlet (w (v4 + 1)) fun x13 => ( some (.inl (x13, M12)))))))))
def F_X11_fit_L26 (v1 : Int) (v2 : Int) (v3 : Int) (v4 : Int) (M : zM) : Option ((Int × zM) ⊕ (zM)) :=
  zb1 (zloop (fun (s : Int × zM) => F_X11_fit_B26 v1 v2 v3 s.1 s.2) zN (v4, M)) (fun (e : zM) => F_X11_fit_J69 v1 v2 v3 e)
def F_X11_fit_B15 (v1 : Int) (v2 : Int) (v3 : Int) (M : zM) : Option ((Int × zM) ⊕ (zM)) :=
  if (M 48 21) < v3 then (some (.inr M)) else (F_X11_fit_L26 v1 v2 v3 v3 M)
def F_X11_fit_L15 (v1 : Int) (v2 : Int) (v3 : Int) (M : zM) : Option (zM) :=
  zb1 (zloop (fun (s : Int × zM) => F_X11_fit_B15 v1 v2 s.1 s.2) zN (v3, M)) (fun (e : zM) => F_X11_fit_J75 e)
def F_X11_fit (v1 : Int) (v2 : Int) (M : zM) : Option (zM) :=
  zlet (zs M 48 20 v1) fun M16 => ( zb1 (F_X11_lengthOf v1) fun r17 => ( zlet (zs M16 48 21 r17) fun M19 => ( F_X11_fit_L15 v1 v2 0 M19)))
def F_X11_isSelected_J212 (v3 : Int) (M : zM) : Option (Int) :=
  zchk ((0 : Int) ≤ v3 ∧ (v3 : Int) ≤ 1) ( some v3)
def F_X11_isSelected_J206 (v1 : Int) (v2 : Int) (v3 : Int) (v4 : Int) (M : zM) : Option ((Int × Int) ⊕ (Int)) :=
  zlet (w (v4 + 1)) fun x2 => ( some (.inl (v3, x2)))
def F_X11_isSelected_J199 (v1 : Int) (v2 : Int) (v4 : Int) (v5 : Int) (t0 : Int) (M : zM) : Option ((Int × Int) ⊕ (Int)) :=
  zlet (w (v5 + 1)) fun x3 => ( some (.inl (t0, x3)))
def F_X11_isSelected_J198 (v1 : Int) (v2 : Int) (v4 : Int) (v5 : Int) (M : zM) : Option ((Int × Int) ⊕ (Int)) :=
  F_X11_isSelected_J199 v1 v2 v4 v5 0 M
def F_X11_isSelected_J194 (v1 : Int) (v2 : Int) (v4 : Int) (v5 : Int) (M : zM) : Option ((Int × Int) ⊕ (Int)) :=
  F_X11_isSelected_J199 v1 v2 v4 v5 1 M
def F_X11_isSelected_J178 (v1 : Int) (v2 : Int) (v3 : Int) (v4 : Int) (v5 : Int) (v6 : Int) (t0 : Int) (M : zM) : Option ((Int × Int) ⊕ (Int)) :=
  if v3 = 0 then (F_X11_isSelected_J198 v1 v2 v4 v5 M) else (if v6 = 0 then (F_X11_isSelected_J194 v1 v2 v4 v5 M) else (if t0 = 0 then (F_X11_isSelected_J194 v1 v2 v4 v5 M) else (F_X11_isSelected_J198 v1 v2 v4 v5 M)))
def F_X11_isSelected_J163 (v1 : Int) (v2 : Int) (v3 : Int) (v4 : Int) (v5 : Int) (v6 : Int) (M : zM) : Option ((Int × Int) ⊕ (Int)) :=
  F_X11_isSelected_J178 v1 v2 v3 v4 v5 v6 0 M
def F_X11_isSelected_J135 (v1 : Int) (v2 : Int) (v3 : Int) (v4 : Int) (v5 : Int) (v6 : Int) (M : zM) : Option ((Int × Int) ⊕ (Int)) :=
  F_X11_isSelected_J178 v1 v2 v3 v4 v5 v6 0 M
def F_X11_isSelected_J109 (v1 : Int) (v2 : Int) (v3 : Int) (v4 : Int) (v5 : Int) (t0 : Int) (M : zM) : Option ((Int × Int) ⊕ (Int)) :=
  if (M 48 8) = 2 then (if v1 < v4 then (F_X11_isSelected_J135 v1 v2 v3 v4 v5 t0 M) else (if v5 < v2 then (F_X11_isSelected_J135 v1 v2 v3 v4 v5 t0 M) else (F_X11_isSelected_J178 v1 v2 v3 v4 v5 t0 1 M))) else (if (M 48 8) = 3 then (if v4 < v1 then (F_X11_isSelected_J163 v1 v2 v3 v4 v5 t0 M) else (if v2 < v5 then (F_X11_isSelected_J163 v1 v2 v3 v4 v5 t0 M) else (F_X11_isSelected_J178 v1 v2 v3 v4 v5 t0 1 M))) else (if v4 < v1 then (F_X11_isSelected_J178 v1 v2 v3 v4 v5 t0 1 M) else (F_X11_isSelected_J178 v1 v2 v3 v4 v5 t0 0 M)))
def F_X11_isSelected_J108 (v1 : Int) (v2 : Int) (v3 : Int) (v4 : Int) (v5 : Int) (M : zM) : Option ((Int × Int) ⊕ (Int)) :=
  F_X11_isSelected_J109 v1 v2 v3 v4 v5 0 M
def F_X11_isSelected_J104 (v1 : Int) (v2 : Int) (v3 : Int) (v4 : Int) (v5 : Int) (M : zM) : Option ((Int × Int) ⊕ (Int)) :=
  F_X11_isSelected_J109 v1 v2 v3 v4 v5 1 M
def F_X11_isSelected_B67 (v1 : Int) (v2 : Int) (v3 : Int) (v4 : Int) (v5 : Int) (M : zM) : Option ((Int × Int) ⊕ (Int)) :=
  if (M 48 21) < v5 then (some (.inr v3)) else (zchk ((0 : Int) ≤ (w ((10 * v4) + v5)) ∧ (w ((10 * v4) + v5)) < 100) ( if (M 57 (w ((10 * v4) + v5))) = 0 then (F_X11_isSelected_J108 v1 v2 v3 v4 v5 M) else (if v4 = v1 then (if v5 = v2 then (F_X11_isSelected_J108 v1 v2 v3 v4 v5 M) else (F_X11_isSelected_J104 v1 v2 v3 v4 v5 M)) else (F_X11_isSelected_J104 v1 v2 v3 v4 v5 M))))
def F_X11_isSelected_L67 (v1 : Int) (v2 : Int) (v3 : Int) (v4 : Int) (v5 : Int) (M : zM) : Option ((Int × Int) ⊕ (Int)) :=
  zb1 (zloop (fun (s : Int × Int) => F_X11_isSelected_B67 v1 v2 s.1 v4 s.2 M) zN (v3, v5)) (fun (e : Int) => F_X11_isSelected_J206 v1 v2 e v4 M)
def F_X11_isSelected_B46 (v1 : Int) (v2 : Int) (v3 : Int) (v4 : Int) (M : zM) : Option ((Int × Int) ⊕ (Int)) :=
  if (M 48 21) < v4 then (some (.inr v3)) else (if 1 < (M 48 8) then (F_X11_isSelected_L67 v1 v2 v3 v4 v4 M) else (some (.inr v3)))
def F_X11_isSelected_L46 (v1 : Int) (v2 : Int) (v3 : Int) (v4 : Int) (M : zM) : Option (Int) :=
  zb1 (zloop (fun (s : Int × Int) => F_X11_isSelected_B46 v1 v2 s.1 s.2 M) zN (v3, v4)) (fun (e : Int) => F_X11_isSelected_J212 e M)
def F_X11_isSelected_J39 (M : zM) : Option (Int) :=
  some 0
def F_X11_isSelected (v1 : Int) (v2 : Int) (M : zM) : Option (Int) :=
  zchk ((0 : Int) ≤ (w ((10 * v1) + v2)) ∧ (w ((10 * v1) + v2)) < 100) ( if (M 57 (w ((10 * v1) + v2))) = 0 then (some 0) else (if (M 48 8) = 0 then (if v1 = 0 then (if v2 = (M 48 21) then (some 1) else (F_X11_isSelected_J39 M)) else (F_X11_isSelected_J39 M)) else (F_X11_isSelected_L46 v1 v2 1 0 M)))
def F_X11_hasRoom (v1 : Int) (M : zM) : Option (Int) :=
  zchk ((0 : Int) ≤ v1 ∧ v1 < 5) ( zb1 (F_X11_lengthOf (M 50 v1)) fun r4 => ( zchk ((0 : Int) ≤ v1 ∧ v1 < 5) ( zb1 (F_X11_lengthOf (M 51 v1)) fun r8 => ( if (M 48 9) < (w (((M 48 21) + r4) + r8)) then (some 0) else (some 1)))))
def F_X11_inserted (v1 : Int) (v2 : Int) (v3 : Int) (M : zM) : Option (Int) :=
  zb1 (F_X11_part (M 48 20) (M 48 21) 0 v2) fun r3 => ( zchk ((0 : Int) ≤ v1 ∧ v1 < 5) ( zb1 (F_X11_joined r3 (M 50 v1)) fun r7 => ( zb1 (F_X11_part (M 48 20) (M 48 21) v2 v3) fun r11 => ( zchk ((0 : Int) ≤ v1 ∧ v1 < 5) ( zb1 (F_X11_joined r11 (M 51 v1)) fun r15 => ( zb1 (F_X11_joined r7 r15) fun r17 => ( zb1 (F_X11_part (M 48 20) (M 48 21) v3 (M 48 21)) fun r22 => ( zb1 (F_X11_joined r17 r22) fun r24 => ( some r24)))))))))
def F_X11_enter_J19 (v1 : Int) (t1 : Int) (t2 : Int) (M : zM) : Option (zM) :=
  zlet (zs M 48 23 (w (t1 + t2))) fun M1 => ( zchk ((0 : Int) ≤ v1 ∧ v1 < 29524) ( zlet (zs M1 58 v1 1) fun M3 => ( some M3)))
def F_X11_enter (v1 : Int) (M : zM) : Option (zM) :=
  zchk ((0 : Int) ≤ v1 ∧ v1 < 29524) ( if (M 58 v1) = 0 then (F_X11_enter_J19 v1 (M 48 23) 1 M) else (F_X11_enter_J19 v1 (M 48 23) 0 M))
def F_X11_isFactor_J26 (M : zM) : Option (Int) :=
  some 0
def F_X11_isFactor (v1 : Int) (M : zM) : Option (Int) :=
  if (zrem v1 10) < (zdiv v1 10) then (F_X11_isFactor_J26 M) else (if (M 48 21) < (zrem v1 10) then (F_X11_isFactor_J26 M) else (some 1))
def F_X11_grow_J68 (M : zM) : Option (zM) :=
  some M
def F_X11_grow_J62 (v2 : Int) (v3 : Int) (M : zM) : Option ((Int × zM) ⊕ (zM)) :=
  zlet (w (v3 + 1)) fun x1 => ( some (.inl (x1, M)))
def F_X11_grow_B8 (v2 : Int) (v3 : Int) (M : zM) : Option ((Int × zM) ⊕ (zM)) :=
  if v3 < 100 then (zb1 (F_X11_hasRoom v2 M) fun r3 => ( if r3 = 0 then (some (.inr M)) else (zb1 (F_X11_isFactor v3 M) fun r6 => ( if r6 = 0 then (F_X11_grow_J62 v2 v3 M) else (zb1 (F_X11_isSelected (zdiv v3 10) (zrem v3 10) M) fun r9 => ( if r9 = 0 then (F_X11_grow_J62 v2 v3 M) else (zb1 (F_X11_inserted v2 (zdiv v3 10) (zrem v3 10) M) fun r12 => ( zb1 (F_X11_enter r12 M) fun M14 => ( F_X11_grow_J62 v2 v3 M14))))))))) else (some (.inr M))
def F_X11_grow_L8 (v2 : Int) (v3 : Int) (M : zM) : Option (zM) :=
  zb1 (zloop (fun (s : Int × zM) => F_X11_grow_B8 v2 s.1 s.2) zN (v3, M)) (fun (e : zM) => F_X11_grow_J68 e)
def F_X11_grow (v1 : Int) (v2 : Int) (M : zM) : Option (zM) :=
  zb1 (F_X11_fit v1 v2 M) fun M16 => ( F_X11_grow_L8 v2 0 M16)
def F_X11_find_J134 (M : zM) : Option (Int × zM) :=
  if 300 < (M 48 23) then (some (0, M)) else (some (1, M))
def F_X11_find_J128 (v1 : Int) (v2 : Int) (M : zM) : Option ((Int × zM) ⊕ (zM)) :=
  zlet (w (v2 + 1)) fun x3 => ( some (.inl (x3, M)))
def F_X11_find_J122 (v1 : Int) (v2 : Int) (v3 : Int) (M : zM) : Option ((Int × zM) ⊕ (zM)) :=
  zlet (w (v3 + 1)) fun x4 => ( some (.inl (x4, M)))
def F_X11_find_B90 (v1 : Int) (v2 : Int) (v3 : Int) (M : zM) : Option ((Int × zM) ⊕ (zM)) :=
  if v3 < (M 48 7) then (zchk ((0 : Int) ≤ v2 ∧ v2 < 29524) ( if (M 58 v2) = 0 then (some (.inr M)) else (if (zand (zshr v1 v3) 1) = 1 then (zb1 (F_X11_grow v2 v3 M) fun M11 => ( F_X11_find_J122 v1 v2 v3 M11)) else (F_X11_find_J122 v1 v2 v3 M)))) else (some (.inr M))
def F_X11_find_L90 (v1 : Int) (v2 : Int) (v3 : Int) (M : zM) : Option ((Int × zM) ⊕ (zM)) :=
  zb1 (zloop (fun (s : Int × zM) => F_X11_find_B90 v1 v2 s.1 s.2) zN (v3, M)) (fun (e : zM) => F_X11_find_J128 v1 v2 e)
def F_X11_find_B71 (v1 : Int) (v2 : Int) (M : zM) : Option ((Int × zM) ⊕ (zM)) :=
  if v2 < 29524 then (if 300 < (M 48 23) then (some (.inr M)) else (F_X11_find_L90 v1 v2 0 M)) else (some (.inr M))
def F_X11_find_L71 (v1 : Int) (v2 : Int) (M : zM) : Option (Int × zM) :=
  zb1 (zloop (fun (s : Int × zM) => F_X11_find_B71 v1 s.1 s.2) zN (v2, M)) (fun (e : zM) => F_X11_find_J134 e)
def F_X11_find_J69 (v1 : Int) (M : zM) : Option (Int × zM) :=
  F_X11_find_L71 v1 0 M
def F_X11_find_J63 (v1 : Int) (v2 : Int) (M : zM) : Option ((Int × zM) ⊕ (zM)) :=
  zlet (w (v2 + 1)) fun x16 => ( some (.inl (x16, M)))
def F_X11_find_B29 (v1 : Int) (v2 : Int) (M : zM) : Option ((Int × zM) ⊕ (zM)) :=
  if v2 < (M 48 2) then (zchk ((0 : Int) ≤ v2 ∧ v2 < 6) ( zb1 (F_X11_lengthOf (M 49 v2)) fun r21 => ( if (M 48 9) < r21 then (F_X11_find_J63 v1 v2 M) else (zchk ((0 : Int) ≤ v2 ∧ v2 < 6) ( zb1 (F_X11_enter (M 49 v2) M) fun M27 => ( F_X11_find_J63 v1 v2 M27)))))) else (some (.inr M))
def F_X11_find_L29 (v1 : Int) (v2 : Int) (M : zM) : Option (Int × zM) :=
  zb1 (zloop (fun (s : Int × zM) => F_X11_find_B29 v1 s.1 s.2) zN (v2, M)) (fun (e : zM) => F_X11_find_J69 v1 e)
def F_X11_find_J22 (v1 : Int) (M : zM) : Option (Int × zM) :=
  zlet (zs M 48 23 0) fun M29 => ( F_X11_find_L29 v1 0 M29)
def F_X11_find_B2 (v1 : Int) (v2 : Int) (M : zM) : Option ((Int × zM) ⊕ (zM)) :=
  if v2 < 29524 then (zchk ((0 : Int) ≤ v2 ∧ v2 < 29524) ( zlet (zs M 58 v2 0) fun M32 => ( zlet (w (v2 + 1)) fun x33 => ( some (.inl (x33, M32)))))) else (some (.inr M))
def F_X11_find_L2 (v1 : Int) (v2 : Int) (M : zM) : Option (Int × zM) :=
  zb1 (zloop (fun (s : Int × zM) => F_X11_find_B2 v1 s.1 s.2) zN (v2, M)) (fun (e : zM) => F_X11_find_J22 v1 e)
def F_X11_find (v1 : Int) (M : zM) : Option (Int × zM) :=
  F_X11_find_L2 v1 0 M
def F_X11_findAll (M : zM) : Option (Int × zM) :=
  zb2 (F_X11_find (w ((zshl 1 (M 48 7)) - 1)) M) fun r2 M3 => ( zchk ((0 : Int) ≤ r2 ∧ (r2 : Int) ≤ 1) ( some (r2, M3)))
def F_X11_canInsert_J53 (M : zM) : Option (Int × zM) :=
  some (0, M)
def F_X11_canInsert_J45 (M : zM) : Option (Int × zM) :=
  some (1, M)
def F_X11_canInsert_J47 (v2 : Int) (v3 : Int) (M : zM) : Option ((Int) ⊕ ((Unit) ⊕ (Unit))) :=
  zlet (w (v3 + 1)) fun x1 => ( some (.inl x1))
def F_X11_canInsert_B8 (v2 : Int) (v3 : Int) (M : zM) : Option ((Int) ⊕ ((Unit) ⊕ (Unit))) :=
  if v3 < 100 then (zb1 (F_X11_hasRoom v2 M) fun r3 => ( if r3 = 0 then (some (.inr (.inr ()))) else (zb1 (F_X11_isFactor v3 M) fun r6 => ( if r6 = 0 then (F_X11_canInsert_J47 v2 v3 M) else (zb1 (F_X11_isSelected (zdiv v3 10) (zrem v3 10) M) fun r9 => ( if r9 = 0 then (F_X11_canInsert_J47 v2 v3 M) else (some (.inr (.inl ()))))))))) else (some (.inr (.inr ())))
def F_X11_canInsert_L8 (v2 : Int) (v3 : Int) (M : zM) : Option (Int × zM) :=
  zb1 (zloop (fun (s : Int) => F_X11_canInsert_B8 v2 s M) zN v3) (Sum.elim (fun (e : Unit) => F_X11_canInsert_J45 M) (fun (e : Unit) => F_X11_canInsert_J53 M))
def F_X11_canInsert (v1 : Int) (v2 : Int) (M : zM) : Option (Int × zM) :=
  zb1 (F_X11_fit v1 v2 M) fun M12 => ( F_X11_canInsert_L8 v2 0 M12)
def F_X11_size (M : zM) : Option (Int × zM) :=
  zlet (zs M 48 0 0) fun M1 => ( zb2 (F_X11_findAll M1) fun r2 M3 => ( if r2 = 0 then (zb2 (F_X11_fail 1 M3) fun r6 M7 => ( some (r6, M7))) else (some ((M3 48 23), M3))))
def F_X11_countOf_J40 (v2 : Int) (M : zM) : Option (Int) :=
  some v2
def F_X11_countOf_J32 (v1 : Int) (v3 : Int) (t0 : Int) (t1 : Int) (M : zM) : Option ((Int × Int) ⊕ (Int)) :=
  zlet (w (t0 + t1)) fun x1 => ( zlet (w (v3 + 1)) fun x2 => ( some (.inl (x1, x2))))
def F_X11_countOf_B7 (v1 : Int) (v2 : Int) (v3 : Int) (M : zM) : Option ((Int × Int) ⊕ (Int)) :=
  zb1 (F_X11_first (w (v1 + 1))) fun r3 => ( if v3 < r3 then (zchk ((0 : Int) ≤ v3 ∧ v3 < 29524) ( if (M 58 v3) = 0 then (F_X11_countOf_J32 v1 v3 v2 0 M) else (F_X11_countOf_J32 v1 v3 v2 1 M))) else (some (.inr v2)))
def F_X11_countOf_L7 (v1 : Int) (v2 : Int) (v3 : Int) (M : zM) : Option (Int) :=
  zb1 (zloop (fun (s : Int × Int) => F_X11_countOf_B7 v1 s.1 s.2 M) zN (v2, v3)) (fun (e : Int) => F_X11_countOf_J40 e M)
def F_X11_countOf (v1 : Int) (M : zM) : Option (Int) :=
  zb1 (F_X11_first v1) fun r9 => ( F_X11_countOf_L7 v1 0 r9 M)
def F_X11_sizeOf (v1 : Int) (M : zM) : Option (Int × zM) :=
  zlet (zs M 48 0 0) fun M1 => ( zb1 (F_X11_isIn v1 0 (M1 48 9)) fun r3 => ( if r3 = 0 then (zb2 (F_X11_fail 1 M1) fun r15 M16 => ( some (r15, M16))) else (zb2 (F_X11_findAll M1) fun r6 M7 => ( if r6 = 0 then (zb2 (F_X11_fail 2 M7) fun r10 M11 => ( some (r10, M11))) else (zb1 (F_X11_countOf v1 M7) fun r13 => ( some (r13, M7)))))))
def F_X11_density (v1 : Int) (M : zM) : Option (UInt64 × zM) :=
  zb2 (F_X11_sizeOf v1 M) fun r1 M2 => ( if (M2 48 0) = 0 then (zb1 (F_X11_power v1) fun r6 => ( zchkP (vf_n64 (FP.ddiv (FP.i2d (zi r1)) (FP.i2d (zi r6)))) ( some ((FP.ddiv (FP.i2d (zi r1)) (FP.i2d (zi r6))), M2)))) else (some (0, M2)))
def F_X11_isUsedIn_J35 (M : zM) : Option (Int × zM) :=
  some (0, M)
def F_X11_isUsedIn_J27 (M : zM) : Option (Int × zM) :=
  some (1, M)
def F_X11_isUsedIn_J29 (v1 : Int) (v2 : Int) (M : zM) : Option ((Int × zM) ⊕ ((zM) ⊕ (zM))) :=
  zlet (w (v2 + 1)) fun x1 => ( some (.inl (x1, M)))
def F_X11_isUsedIn_B2 (v1 : Int) (v2 : Int) (M : zM) : Option ((Int × zM) ⊕ ((zM) ⊕ (zM))) :=
  if v2 < 29524 then (zchk ((0 : Int) ≤ v2 ∧ v2 < 29524) ( if (M 58 v2) = 0 then (F_X11_isUsedIn_J29 v1 v2 M) else (zb2 (F_X11_canInsert v2 v1 M) fun r6 M7 => ( if r6 = 0 then (F_X11_isUsedIn_J29 v1 v2 M7) else (some (.inr (.inl M7))))))) else (some (.inr (.inr M)))
def F_X11_isUsedIn_L2 (v1 : Int) (v2 : Int) (M : zM) : Option (Int × zM) :=
  zb1 (zloop (fun (s : Int × zM) => F_X11_isUsedIn_B2 v1 s.1 s.2) zN (v2, M)) (Sum.elim (fun (e : zM) => F_X11_isUsedIn_J27 e) (fun (e : zM) => F_X11_isUsedIn_J35 e))
def F_X11_isUsedIn (v1 : Int) (M : zM) : Option (Int × zM) :=
  F_X11_isUsedIn_L2 v1 0 M
def F_X11_isUsed_J34 (t1 : Int) (M : zM) : Option (Int × zM) :=
  zb2 (F_X11_fail t1 M) fun r1 M2 => ( if 0 < r1 then (some (1, M2)) else (some (0, M2)))
def F_X11_isUsed_J20 (v1 : Int) (M : zM) : Option (Int × zM) :=
  zb1 (F_X11_isContext v1 M) fun r5 => ( if r5 = 0 then (F_X11_isUsed_J34 1 M) else (F_X11_isUsed_J34 2 M))
def F_X11_isUsed (v1 : Int) (M : zM) : Option (Int × zM) :=
  zlet (zs M 48 0 0) fun M8 => ( zb1 (F_X11_isContext v1 M8) fun r9 => ( if r9 = 0 then (F_X11_isUsed_J20 v1 M8) else (zb2 (F_X11_findAll M8) fun r12 M13 => ( if r12 = 0 then (F_X11_isUsed_J20 v1 M13) else (zb2 (F_X11_isUsedIn v1 M13) fun r16 M17 => ( zchk ((0 : Int) ≤ r16 ∧ (r16 : Int) ≤ 1) ( some (r16, M17))))))))
def F_X11_isRedundant_J34 (t1 : Int) (M : zM) : Option (Int × zM) :=
  zb2 (F_X11_fail t1 M) fun r1 M2 => ( if 0 < r1 then (some (1, M2)) else (some (0, M2)))
def F_X11_isRedundant_J20 (v1 : Int) (M : zM) : Option (Int × zM) :=
  zb1 (F_X11_isContext v1 M) fun r5 => ( if r5 = 0 then (F_X11_isRedundant_J34 1 M) else (F_X11_isRedundant_J34 2 M))
def F_X11_isRedundant (v1 : Int) (M : zM) : Option (Int × zM) :=
  zlet (zs M 48 0 0) fun M8 => ( zb1 (F_X11_isContext v1 M8) fun r9 => ( if r9 = 0 then (F_X11_isRedundant_J20 v1 M8) else (zb2 (F_X11_findAll M8) fun r12 M13 => ( if r12 = 0 then (F_X11_isRedundant_J20 v1 M13) else (zlet (M13 48 23) fun x17 => ( zb2 (F_X11_find (w (((zshl 1 (M13 48 7)) - 1) - (zshl 1 v1))) M13) fun r19 M20 => ( if (M20 48 23) = x17 then (some (1, M20)) else (some (0, M20)))))))))
def F_X11_minimalContexts_J77 (v2 : Int) (M : zM) : Option (Int × zM) :=
  some (v2, M)
def F_X11_minimalContexts_J71 (v1 : Int) (v2 : Int) (v3 : Int) (M : zM) : Option ((Int × Int × zM) ⊕ (Int × zM)) :=
  zlet (w (v3 + (-1))) fun x1 => ( some (.inl (v2, x1, M)))
def F_X11_minimalContexts_J70 (v1 : Int) (v3 : Int) (t0 : Int) (M : zM) : Option ((Int × Int × zM) ⊕ (Int × zM)) :=
  F_X11_minimalContexts_J71 v1 t0 v3 M
def F_X11_minimalContexts_B36 (v1 : Int) (v2 : Int) (v3 : Int) (M : zM) : Option ((Int × Int × zM) ⊕ (Int × zM)) :=
  if v3 < 0 then (some (.inr (v2, M))) else (zb1 (F_J6_bitCount_0f7a4 v3) fun r3 => ( zb1 (F_J6_bitCount_0f7a4 v2) fun r5 => ( if r5 < r3 then (F_X11_minimalContexts_J71 v1 v2 v3 M) else (zb2 (F_X11_find v3 M) fun r8 M9 => ( if (M9 48 23) = v1 then (F_X11_minimalContexts_J70 v1 v3 v3 M9) else (F_X11_minimalContexts_J70 v1 v3 v2 M9))))))
def F_X11_minimalContexts_L36 (v1 : Int) (v2 : Int) (v3 : Int) (M : zM) : Option (Int × zM) :=
  zb1 (zloop (fun (s : Int × Int × zM) => F_X11_minimalContexts_B36 v1 s.1 s.2.1 s.2.2) zN (v2, v3, M)) (fun (e : Int × zM) => F_X11_minimalContexts_J77 e.1 e.2)
def F_X11_minimalContexts (M : zM) : Option (Int × zM) :=
  zlet (zs M 48 0 0) fun M13 => ( zb2 (F_X11_findAll M13) fun r14 M15 => ( if r14 = 0 then (zb2 (F_X11_fail 1 M15) fun r23 M24 => ( some (r23, M24))) else (zlet (M15 48 23) fun x19 => ( zlet (w ((zshl 1 (M15 48 7)) - 1)) fun x21 => ( zlet (w (x21 - 1)) fun x22 => ( F_X11_minimalContexts_L36 x19 x21 x22 M15))))))
def F_X11_link_J38 (M : zM) : Option (zM) :=
  some M
def F_X11_link_J30 (v1 : Int) (v2 : Int) (v3 : Int) (t1 : Int) (t2 : Int) (t3 : Int) (M : zM) : Option ((Int × zM) ⊕ (zM)) :=
  zchk ((0 : Int) ≤ t1 ∧ t1 < 5) ( zlet (zs M 60 t1 (zor t2 t3)) fun M2 => ( zlet (w (v3 + 1)) fun x3 => ( some (.inl (x3, M2)))))
def F_X11_link_B2 (v1 : Int) (v2 : Int) (v3 : Int) (M : zM) : Option ((Int × zM) ⊕ (zM)) :=
  if v3 < 5 then (zchk ((0 : Int) ≤ v3 ∧ v3 < 5) ( if (zand (zshr v1 v3) 1) = 1 then (F_X11_link_J30 v1 v2 v3 v3 (M 60 v3) (zshl 1 v2) M) else (F_X11_link_J30 v1 v2 v3 v3 (M 60 v3) 0 M))) else (some (.inr M))
def F_X11_link_L2 (v1 : Int) (v2 : Int) (v3 : Int) (M : zM) : Option (zM) :=
  zb1 (zloop (fun (s : Int × zM) => F_X11_link_B2 v1 v2 s.1 s.2) zN (v3, M)) (fun (e : zM) => F_X11_link_J38 e)
def F_X11_link (v1 : Int) (v2 : Int) (M : zM) : Option (zM) :=
  F_X11_link_L2 v1 v2 0 M
def F_X11_findFollows_J168 (M : zM) : Option (zM) :=
  some M
def F_X11_findFollows_J162 (v1 : Int) (M : zM) : Option ((Int × zM) ⊕ (zM)) :=
  zlet (w (v1 + 1)) fun x1 => ( some (.inl (x1, M)))
def F_X11_findFollows_J156 (v1 : Int) (v2 : Int) (M : zM) : Option ((Int × zM) ⊕ (zM)) :=
  zlet (w (v2 + 1)) fun x2 => ( some (.inl (x2, M)))
def F_X11_findFollows_J150 (v1 : Int) (v2 : Int) (v3 : Int) (M : zM) : Option ((Int × zM) ⊕ (zM)) :=
  zlet (w (v3 + 1)) fun x3 => ( some (.inl (x3, M)))
def F_X11_findFollows_B78 (v1 : Int) (v2 : Int) (v3 : Int) (M : zM) : Option ((Int × zM) ⊕ (zM)) :=
  if v3 < 100 then (zb1 (F_X11_hasRoom v2 M) fun r5 => ( if r5 = 0 then (some (.inr M)) else (zb1 (F_X11_isFactor v3 M) fun r8 => ( if r8 = 0 then (F_X11_findFollows_J150 v1 v2 v3 M) else (zb1 (F_X11_isSelected (zdiv v3 10) (zrem v3 10) M) fun r11 => ( if r11 = 0 then (F_X11_findFollows_J150 v1 v2 v3 M) else (zb1 (F_X11_inserted v2 (zdiv v3 10) (zrem v3 10) M) fun r14 => ( zchk ((0 : Int) ≤ r14 ∧ r14 < 29524) ( zchk ((0 : Int) ≤ r14 ∧ r14 < 29524) ( zlet (zs M 59 r14 (zor (M 59 r14) (zshl 1 v2))) fun M19 => ( zchk ((0 : Int) ≤ v1 ∧ v1 < 29524) ( zb1 (F_X11_link (M19 59 v1) v2 M19) fun M22 => ( F_X11_findFollows_J150 v1 v2 v3 M22))))))))))))) else (some (.inr M))
def F_X11_findFollows_L78 (v1 : Int) (v2 : Int) (v3 : Int) (M : zM) : Option ((Int × zM) ⊕ (zM)) :=
  zb1 (zloop (fun (s : Int × zM) => F_X11_findFollows_B78 v1 v2 s.1 s.2) zN (v3, M)) (fun (e : zM) => F_X11_findFollows_J156 v1 v2 e)
def F_X11_findFollows_B53 (v1 : Int) (v2 : Int) (M : zM) : Option ((Int × zM) ⊕ (zM)) :=
  if v2 < (M 48 7) then (zchk ((0 : Int) ≤ v1 ∧ v1 < 29524) ( if (M 58 v1) = 0 then (some (.inr M)) else (zb1 (F_X11_fit v1 v2 M) fun M29 => ( F_X11_findFollows_L78 v1 v2 0 M29)))) else (some (.inr M))
def F_X11_findFollows_L53 (v1 : Int) (v2 : Int) (M : zM) : Option ((Int × zM) ⊕ (zM)) :=
  zb1 (zloop (fun (s : Int × zM) => F_X11_findFollows_B53 v1 s.1 s.2) zN (v2, M)) (fun (e : zM) => F_X11_findFollows_J162 v1 e)
def F_X11_findFollows_B44 (v1 : Int) (M : zM) : Option ((Int × zM) ⊕ (zM)) :=
  if v1 < 29524 then (F_X11_findFollows_L53 v1 0 M) else (some (.inr M))
def F_X11_findFollows_L44 (v1 : Int) (M : zM) : Option (zM) :=
  zb1 (zloop (fun (s : Int × zM) => F_X11_findFollows_B44 s.1 s.2) zN (v1, M)) (fun (e : zM) => F_X11_findFollows_J168 e)
def F_X11_findFollows_J42 (M : zM) : Option (zM) :=
  F_X11_findFollows_L44 0 M
def F_X11_findFollows_B24 (v1 : Int) (M : zM) : Option ((Int × zM) ⊕ (zM)) :=
  if v1 < 5 then (zchk ((0 : Int) ≤ v1 ∧ v1 < 5) ( zlet (zs M 60 v1 0) fun M34 => ( zlet (w (v1 + 1)) fun x35 => ( some (.inl (x35, M34)))))) else (some (.inr M))
def F_X11_findFollows_L24 (v1 : Int) (M : zM) : Option (zM) :=
  zb1 (zloop (fun (s : Int × zM) => F_X11_findFollows_B24 s.1 s.2) zN (v1, M)) (fun (e : zM) => F_X11_findFollows_J42 e)
def F_X11_findFollows_J22 (M : zM) : Option (zM) :=
  F_X11_findFollows_L24 0 M
def F_X11_findFollows_B2 (v1 : Int) (M : zM) : Option ((Int × zM) ⊕ (zM)) :=
  if v1 < 29524 then (zchk ((0 : Int) ≤ v1 ∧ v1 < 29524) ( zlet (zs M 59 v1 0) fun M38 => ( zlet (w (v1 + 1)) fun x39 => ( some (.inl (x39, M38)))))) else (some (.inr M))
def F_X11_findFollows_L2 (v1 : Int) (M : zM) : Option (zM) :=
  zb1 (zloop (fun (s : Int × zM) => F_X11_findFollows_B2 s.1 s.2) zN (v1, M)) (fun (e : zM) => F_X11_findFollows_J22 e)
def F_X11_findFollows (M : zM) : Option (zM) :=
  F_X11_findFollows_L2 0 M
def F_X11_canFollow_J21 (M : zM) : Option (Int × zM) :=
  zb2 (F_X11_fail 1 M) fun r1 M2 => ( if 0 < r1 then (some (1, M2)) else (some (0, M2)))
def F_X11_canFollow (v1 : Int) (v2 : Int) (M : zM) : Option (Int × zM) :=
  zlet (zs M 48 0 0) fun M5 => ( zb1 (F_X11_isContext v1 M5) fun r6 => ( if r6 = 0 then (F_X11_canFollow_J21 M5) else (zb1 (F_X11_isContext v2 M5) fun r9 => ( if r9 = 0 then (F_X11_canFollow_J21 M5) else (zb2 (F_X11_findAll M5) fun r12 M13 => ( if r12 = 0 then (zb2 (F_X11_fail 2 M13) fun r21 M22 => ( if 0 < r21 then (some (1, M22)) else (some (0, M22)))) else (zb1 (F_X11_findFollows M13) fun M16 => ( zchk ((0 : Int) ≤ v1 ∧ v1 < 5) ( if (zand (zshr (M16 60 v1) v2) 1) = 1 then (some (1, M16)) else (some (0, M16)))))))))))
def F_X11_shortestLoop_J112 (M : zM) : Option (Int × zM) :=
  zb2 (F_X11_fail 3 M) fun r1 M2 => ( some (r1, M2))
def F_X11_shortestLoop_J101 (v3 : Int) (M : zM) : Option (Int × zM) :=
  some (v3, M)
def F_X11_shortestLoop_J91 (v1 : Int) (v3 : Int) (v4 : Int) (M : zM) : Option ((Int × Int) ⊕ ((Int) ⊕ (Unit))) :=
  if (zand (zshr v4 v1) 1) = 1 then (some (.inr (.inl v3))) else (zlet (w (v3 + 1)) fun x5 => ( some (.inl (v4, x5))))
def F_X11_shortestLoop_J82 (v1 : Int) (v2 : Int) (v3 : Int) (v5 : Int) (t0 : Int) (t1 : Int) (M : zM) : Option ((Int × Int) ⊕ (Int)) :=
  zlet (zor t0 t1) fun x6 => ( zlet (w (v5 + 1)) fun x7 => ( some (.inl (x6, x7))))
def F_X11_shortestLoop_B53 (v1 : Int) (v2 : Int) (v3 : Int) (v4 : Int) (v5 : Int) (M : zM) : Option ((Int × Int) ⊕ (Int)) :=
  if v5 < 5 then (if (zand (zshr v2 v5) 1) = 1 then (zchk ((0 : Int) ≤ v5 ∧ v5 < 5) ( F_X11_shortestLoop_J82 v1 v2 v3 v5 v4 (M 60 v5) M)) else (F_X11_shortestLoop_J82 v1 v2 v3 v5 v4 0 M)) else (some (.inr v4))
def F_X11_shortestLoop_L53 (v1 : Int) (v2 : Int) (v3 : Int) (v4 : Int) (v5 : Int) (M : zM) : Option ((Int × Int) ⊕ ((Int) ⊕ (Unit))) :=
  zb1 (zloop (fun (s : Int × Int) => F_X11_shortestLoop_B53 v1 v2 v3 s.1 s.2 M) zN (v4, v5)) (fun (e : Int) => F_X11_shortestLoop_J91 v1 v3 e M)
def F_X11_shortestLoop_B42 (v1 : Int) (v2 : Int) (v3 : Int) (M : zM) : Option ((Int × Int) ⊕ ((Int) ⊕ (Unit))) :=
  if 5 < v3 then (some (.inr (.inr ()))) else (F_X11_shortestLoop_L53 v1 v2 v3 0 0 M)
def F_X11_shortestLoop_L42 (v1 : Int) (v2 : Int) (v3 : Int) (M : zM) : Option (Int × zM) :=
  zb1 (zloop (fun (s : Int × Int) => F_X11_shortestLoop_B42 v1 s.1 s.2 M) zN (v2, v3)) (Sum.elim (fun (e : Int) => F_X11_shortestLoop_J101 e M) (fun (e : Unit) => F_X11_shortestLoop_J112 M))
def F_X11_shortestLoop (v1 : Int) (M : zM) : Option (Int × zM) :=
  zlet (zs M 48 0 0) fun M13 => ( zb1 (F_X11_isContext v1 M13) fun r14 => ( if r14 = 0 then (zb2 (F_X11_fail 1 M13) fun r27 M28 => ( some (r27, M28))) else (zb2 (F_X11_findAll M13) fun r17 M18 => ( if r17 = 0 then (zb2 (F_X11_fail 2 M18) fun r24 M25 => ( some (r24, M25))) else (zb1 (F_X11_findFollows M18) fun M21 => ( zlet (zshl 1 v1) fun x23 => ( F_X11_shortestLoop_L42 v1 x23 1 M21)))))))
def F_X11_reduces (v1 : Int) (v2 : Int) (v3 : Int) (v4 : Int) (M : zM) : Option (Int × zM) :=
  zb1 (F_X11_lengthOf v1) fun r1 => ( zchk ((0 : Int) ≤ v2 ∧ v2 < 5) ( zb1 (F_X11_lengthOf (M 50 v2)) fun r5 => ( zchk ((0 : Int) ≤ v2 ∧ v2 < 5) ( zb1 (F_X11_lengthOf (M 51 v2)) fun r9 => ( zlet (w ((v4 + r5) + r9)) fun x11 => ( if (M 48 9) < r1 then (some (0, M)) else (if r1 < x11 then (some (0, M)) else (zb1 (F_X11_part v1 r1 v3 (w (v3 + r5))) fun r15 => ( zchk ((0 : Int) ≤ v2 ∧ v2 < 5) ( if r15 = (M 50 v2) then (zb1 (F_X11_part v1 r1 (w (v4 + r5)) x11) fun r20 => ( zchk ((0 : Int) ≤ v2 ∧ v2 < 5) ( if r20 = (M 51 v2) then (zb1 (F_X11_part v1 r1 0 v3) fun r25 => ( zb1 (F_X11_part v1 r1 (w (v3 + r5)) (w (v4 + r5))) fun r27 => ( zb1 (F_X11_joined r25 r27) fun r29 => ( zb1 (F_X11_part v1 r1 x11 r1) fun r31 => ( zb1 (F_X11_joined r29 r31) fun r33 => ( zlet (zs M 48 26 r33) fun M35 => ( zb1 (F_X11_fit (M35 48 26) v2 M35) fun M37 => ( zb1 (F_X11_isSelected v3 v4 M37) fun r39 => ( zchk ((0 : Int) ≤ r39 ∧ (r39 : Int) ≤ 1) ( some (r39, M37))))))))))) else (some (0, M))))) else (some (0, M))))))))))))
def F_X11_isPlace (v0 : Int) : Option (Int) :=
  if (zrem v0 10) < (zrem (zdiv v0 10) 10) then (some 0) else (some 1)
def F_X11_countReductions_J59 (v2 : Int) (M : zM) : Option (Int × zM) :=
  some (v2, M)
def F_X11_countReductions_J51 (v1 : Int) (v3 : Int) (t0 : Int) (t1 : Int) (M : zM) : Option ((Int × Int × zM) ⊕ (Int × zM)) :=
  zlet (w (t0 + t1)) fun x1 => ( zlet (w (v3 + 1)) fun x2 => ( some (.inl (x1, x2, M))))
def F_X11_countReductions_J50 (v1 : Int) (v3 : Int) (t0 : Int) (M : zM) : Option ((Int × Int × zM) ⊕ (Int × zM)) :=
  F_X11_countReductions_J51 v1 v3 t0 0 M
def F_X11_countReductions_B4 (v1 : Int) (v2 : Int) (v3 : Int) (M : zM) : Option ((Int × Int × zM) ⊕ (Int × zM)) :=
  if v3 < (w (100 * (M 48 7))) then (zb1 (F_X11_isPlace v3) fun r5 => ( if r5 = 0 then (F_X11_countReductions_J50 v1 v3 v2 M) else (zb2 (F_X11_reduces v1 (zdiv v3 100) (zrem (zdiv v3 10) 10) (zrem v3 10) M) fun r8 M9 => ( if r8 = 0 then (F_X11_countReductions_J50 v1 v3 v2 M9) else (F_X11_countReductions_J51 v1 v3 v2 1 M9))))) else (some (.inr (v2, M)))
def F_X11_countReductions_L4 (v1 : Int) (v2 : Int) (v3 : Int) (M : zM) : Option (Int × zM) :=
  zb1 (zloop (fun (s : Int × Int × zM) => F_X11_countReductions_B4 v1 s.1 s.2.1 s.2.2) zN (v2, v3, M)) (fun (e : Int × zM) => F_X11_countReductions_J59 e.1 e.2)
def F_X11_countReductions (v1 : Int) (M : zM) : Option (Int × zM) :=
  F_X11_countReductions_L4 v1 0 0 M
def F_X11_meet_J148 (M : zM) : Option (zM) :=
  some M
def F_X11_meet_J141 (v2 : Int) (t1 : Int) (t2 : Int) (M : zM) : Option ((Int × zM) ⊕ (zM)) :=
  zchk ((0 : Int) ≤ t1 ∧ t1 < 29524) ( zlet (zs M 62 t1 t2) fun M2 => ( zlet (w (v2 + (-1))) fun x3 => ( some (.inl (x3, M2)))))
def F_X11_meet_J127 (v2 : Int) (v3 : Int) (M : zM) : Option ((Int × zM) ⊕ (zM)) :=
  if v3 = 0 then (F_X11_meet_J141 v2 v2 0 M) else (F_X11_meet_J141 v2 v2 1 M)
def F_X11_meet_J121 (v2 : Int) (v3 : Int) (v4 : Int) (M : zM) : Option ((Int × Int × zM) ⊕ (Int × zM)) :=
  zlet (w (v4 + 1)) fun x5 => ( some (.inl (v3, x5, M)))
def F_X11_meet_B54 (v2 : Int) (v3 : Int) (v4 : Int) (M : zM) : Option ((Int × Int × zM) ⊕ (Int × zM)) :=
  if v4 < (w (100 * (M 48 7))) then (zchk ((0 : Int) ≤ v2 ∧ v2 < 29524) ( if (M 61 v2) = 0 then (some (.inr (v3, M))) else (zb1 (F_X11_isPlace v4) fun r11 => ( if r11 = 0 then (F_X11_meet_J121 v2 v3 v4 M) else (zb2 (F_X11_reduces v2 (zdiv v4 100) (zrem (zdiv v4 10) 10) (zrem v4 10) M) fun r14 M15 => ( if r14 = 0 then (F_X11_meet_J121 v2 v3 v4 M15) else (zchk ((0 : Int) ≤ (M15 48 26) ∧ (M15 48 26) < 29524) ( zlet (zs M15 61 (M15 48 26) 1) fun M20 => ( F_X11_meet_J121 v2 0 v4 M20))))))))) else (some (.inr (v3, M)))
def F_X11_meet_L54 (v2 : Int) (v3 : Int) (v4 : Int) (M : zM) : Option ((Int × zM) ⊕ (zM)) :=
  zb1 (zloop (fun (s : Int × Int × zM) => F_X11_meet_B54 v2 s.1 s.2.1 s.2.2) zN (v3, v4, M)) (fun (e : Int × zM) => F_X11_meet_J127 v2 e.1 e.2)
def F_X11_meet_B40 (v2 : Int) (M : zM) : Option ((Int × zM) ⊕ (zM)) :=
  if v2 < 0 then (some (.inr M)) else (zchk ((0 : Int) ≤ v2 ∧ v2 < 29524) ( zlet (M 61 v2) fun x24 => ( F_X11_meet_L54 v2 x24 0 M)))
def F_X11_meet_L40 (v2 : Int) (M : zM) : Option (zM) :=
  zb1 (zloop (fun (s : Int × zM) => F_X11_meet_B40 s.1 s.2) zN (v2, M)) (fun (e : zM) => F_X11_meet_J148 e)
def F_X11_meet_J38 (v1 : Int) (M : zM) : Option (zM) :=
  F_X11_meet_L40 v1 M
def F_X11_meet_J24 (v1 : Int) (v2 : Int) (t1 : Int) (t2 : Int) (M : zM) : Option ((Int × zM) ⊕ (zM)) :=
  zchk ((0 : Int) ≤ t1 ∧ t1 < 29524) ( zchk ((0 : Int) ≤ t2 ∧ (t2 : Int) ≤ 1) ( zlet (zs M 61 t1 t2) fun M27 => ( zchk ((0 : Int) ≤ v2 ∧ v2 < 29524) ( zlet (zs M27 62 v2 0) fun M29 => ( zlet (w (v2 + 1)) fun x30 => ( some (.inl (x30, M29))))))))
def F_X11_meet_B2 (v1 : Int) (v2 : Int) (M : zM) : Option ((Int × zM) ⊕ (zM)) :=
  if v2 < 29524 then (if v2 = v1 then (F_X11_meet_J24 v1 v2 v2 1 M) else (F_X11_meet_J24 v1 v2 v2 0 M)) else (some (.inr M))
def F_X11_meet_L2 (v1 : Int) (v2 : Int) (M : zM) : Option (zM) :=
  zb1 (zloop (fun (s : Int × zM) => F_X11_meet_B2 v1 s.1 s.2) zN (v2, M)) (fun (e : zM) => F_X11_meet_J38 v1 e)
def F_X11_meet (v1 : Int) (M : zM) : Option (zM) :=
  F_X11_meet_L2 v1 0 M
def F_X11_onlyForm_J118 (rc : Nat → Int → zM → Option (Int × zM)) (v1 : Int) (t1 : Int) (t2 : Int) (M : zM) : Option (Int × zM) :=
  zchk ((0 : Int) ≤ t1 ∧ t1 < 29524) ( zlet (zs M 62 t1 t2) fun M2 => ( zchk ((0 : Int) ≤ v1 ∧ v1 < 29524) ( some ((M2 62 v1), M2))))
def F_X11_onlyForm_J103 (rc : Nat → Int → zM → Option (Int × zM)) (v1 : Int) (v2 : Int) (M : zM) : Option (Int × zM) :=
  if v2 = (-1) then (F_X11_onlyForm_J118 rc v1 v1 v1 M) else (F_X11_onlyForm_J118 rc v1 v1 v2 M)
def F_X11_onlyForm_J97 (rc : Nat → Int → zM → Option (Int × zM)) (v1 : Int) (v2 : Int) (v3 : Int) (M : zM) : Option ((Int × Int × zM) ⊕ (Int × zM)) :=
  zlet (w (v3 + 1)) fun x6 => ( some (.inl (v2, x6, M)))
def F_X11_onlyForm_J96 (rc : Nat → Int → zM → Option (Int × zM)) (v1 : Int) (v3 : Int) (t0 : Int) (M : zM) : Option ((Int × Int × zM) ⊕ (Int × zM)) :=
  F_X11_onlyForm_J97 rc v1 t0 v3 M
def F_X11_onlyForm_J89 (rc : Nat → Int → zM → Option (Int × zM)) (v1 : Int) (v3 : Int) (v4 : Int) (M : zM) : Option ((Int × Int × zM) ⊕ (Int × zM)) :=
  F_X11_onlyForm_J96 rc v1 v3 v4 M
def F_X11_onlyForm_B21 (rc : Nat → Int → zM → Option (Int × zM)) (v1 : Int) (v2 : Int) (v3 : Int) (M : zM) : Option ((Int × Int × zM) ⊕ (Int × zM)) :=
  if v3 < (w (100 * (M 48 7))) then (if v2 = (-2) then (some (.inr (v2, M))) else (zb1 (F_X11_isPlace v3) fun r10 => ( if r10 = 0 then (F_X11_onlyForm_J97 rc v1 v2 v3 M) else (zb2 (F_X11_reduces v1 (zdiv v3 100) (zrem (zdiv v3 10) 10) (zrem v3 10) M) fun r13 M14 => ( if r13 = 0 then (F_X11_onlyForm_J97 rc v1 v2 v3 M14) else (zb2 (rc 0 (M14 48 26) M14) fun r18 M19 => ( if v2 = (-1) then (F_X11_onlyForm_J89 rc v1 v3 r18 M19) else (if v2 = r18 then (F_X11_onlyForm_J89 rc v1 v3 r18 M19) else (F_X11_onlyForm_J96 rc v1 v3 (-2) M19))))))))) else (some (.inr (v2, M)))
def F_X11_onlyForm_L21 (rc : Nat → Int → zM → Option (Int × zM)) (v1 : Int) (v2 : Int) (v3 : Int) (M : zM) : Option (Int × zM) :=
  zb1 (zloop (fun (s : Int × Int × zM) => F_X11_onlyForm_B21 rc v1 s.1 s.2.1 s.2.2) zN (v2, v3, M)) (fun (e : Int × zM) => F_X11_onlyForm_J103 rc v1 e.1 e.2)
def F_X11_onlyForm (rc : Nat → Int → zM → Option (Int × zM)) (v1 : Int) (M : zM) : Option (Int × zM) :=
  zchk ((0 : Int) ≤ v1 ∧ v1 < 29524) ( if (M 62 v1) = (-1) then (F_X11_onlyForm_L21 rc v1 (-1) 0 M) else (zchk ((0 : Int) ≤ v1 ∧ v1 < 29524) ( some ((M 62 v1), M))))
def F_GN (n : Nat) (k : Nat) (v1 : Int) (M : zM) : Option (Int × zM) := match n with
  | 0 => none
  | n + 1 => F_X11_onlyForm (F_GN n) v1 M
def F_X11_isConfluent_J84 (M : zM) : Option (Int × zM) :=
  some (1, M)
def F_X11_isConfluent_J76 (M : zM) : Option (Int × zM) :=
  some (0, M)
def F_X11_isConfluent_J78 (v1 : Int) (M : zM) : Option ((Int × zM) ⊕ ((zM) ⊕ (zM))) :=
  zlet (w (v1 + 1)) fun x1 => ( some (.inl (x1, M)))
def F_X11_isConfluent_B50 (v1 : Int) (M : zM) : Option ((Int × zM) ⊕ ((zM) ⊕ (zM))) :=
  if v1 < 29524 then (zchk ((0 : Int) ≤ v1 ∧ v1 < 29524) ( if (M 58 v1) = 0 then (F_X11_isConfluent_J78 v1 M) else (zb2 (F_GN 40 0 v1 M) fun r6 M7 => ( if r6 = (-2) then (some (.inr (.inl M7))) else (F_X11_isConfluent_J78 v1 M7))))) else (some (.inr (.inr M)))
def F_X11_isConfluent_L50 (v1 : Int) (M : zM) : Option (Int × zM) :=
  zb1 (zloop (fun (s : Int × zM) => F_X11_isConfluent_B50 s.1 s.2) zN (v1, M)) (Sum.elim (fun (e : zM) => F_X11_isConfluent_J76 e) (fun (e : zM) => F_X11_isConfluent_J84 e))
def F_X11_isConfluent_J48 (M : zM) : Option (Int × zM) :=
  F_X11_isConfluent_L50 0 M
def F_X11_isConfluent_B28 (v1 : Int) (M : zM) : Option ((Int × zM) ⊕ (zM)) :=
  if v1 < 29524 then (zchk ((0 : Int) ≤ v1 ∧ v1 < 29524) ( zlet (zs M 62 v1 (-1)) fun M12 => ( zlet (w (v1 + 1)) fun x13 => ( some (.inl (x13, M12)))))) else (some (.inr M))
def F_X11_isConfluent_L28 (v1 : Int) (M : zM) : Option (Int × zM) :=
  zb1 (zloop (fun (s : Int × zM) => F_X11_isConfluent_B28 s.1 s.2) zN (v1, M)) (fun (e : zM) => F_X11_isConfluent_J48 e)
def F_X11_isConfluent (M : zM) : Option (Int × zM) :=
  zlet (zs M 48 0 0) fun M14 => ( zb2 (F_X11_findAll M14) fun r15 M16 => ( if r15 = 0 then (zb2 (F_X11_fail 1 M16) fun r19 M20 => ( if 0 < r19 then (some (1, M20)) else (some (0, M20)))) else (F_X11_isConfluent_L28 0 M16)))
def F_X11_clearWord (M : zM) : Option (zM) :=
  zlet (zs M 48 0 0) fun M1 => ( zlet (zs M1 48 29 0) fun M2 => ( some M2))
def F_X11_addLetter_J64 (t1 : Int) (M : zM) : Option (zM) :=
  zlet (zs M 48 29 t1) fun M1 => ( some M1)
def F_X11_addLetter_J33 (v1 : Int) (t1 : Int) (M : zM) : Option (zM) :=
  zlet (zs M 48 0 t1) fun M2 => ( if (M2 48 0) = 0 then (zb1 (F_X11_joined (M2 48 29) (w ((1 + v1) - 97))) fun r7 => ( F_X11_addLetter_J64 r7 M2)) else (F_X11_addLetter_J64 (M2 48 29) M2))
def F_X11_addLetter (v1 : Int) (M : zM) : Option (zM) :=
  zb1 (F_X11_isIn v1 97 99) fun r9 => ( if r9 = 0 then (F_X11_addLetter_J33 v1 1 M) else (zb1 (F_X11_lengthOf (M 48 29)) fun r13 => ( if r13 = 9 then (F_X11_addLetter_J33 v1 2 M) else (F_X11_addLetter_J33 v1 0 M))))
def F_X11_takeAxiom_J44 (t1 : Int) (M : zM) : Option (zM) :=
  zlet (zs M 48 29 t1) fun M1 => ( some M1)
def F_X11_takeAxiom_J20 (v1 : Int) (t1 : Int) (M : zM) : Option (zM) :=
  zlet (zs M 48 0 t1) fun M2 => ( if (M2 48 0) = 0 then (zchk ((0 : Int) ≤ v1 ∧ v1 < 6) ( F_X11_takeAxiom_J44 (M2 49 v1) M2)) else (F_X11_takeAxiom_J44 (M2 48 29) M2))
def F_X11_takeAxiom (v1 : Int) (M : zM) : Option (zM) :=
  zb1 (F_X11_isIn v1 0 (w ((M 48 2) - 1))) fun r9 => ( if r9 = 0 then (F_X11_takeAxiom_J20 v1 1 M) else (F_X11_takeAxiom_J20 v1 0 M))
def F_X11_takeWord_J78 (v3 : Int) (M : zM) : Option (zM) :=
  zlet (zs M 48 29 v3) fun M1 => ( some M1)
def F_X11_takeWord_J70 (v3 : Int) (t0 : Int) (t1 : Int) (M : zM) : Option ((Int × Int) ⊕ (Int)) :=
  zlet (w (t0 - t1)) fun x2 => ( zlet (w (v3 + 1)) fun x3 => ( some (.inl (x2, x3))))
def F_X11_takeWord_J55 (v2 : Int) (v3 : Int) (M : zM) : Option ((Int × Int) ⊕ (Int)) :=
  zchk ((0 : Int) ≤ v3 ∧ v3 < 29524) ( if (M 58 v3) = 0 then (F_X11_takeWord_J70 v3 v2 0 M) else (F_X11_takeWord_J70 v3 v2 1 M))
def F_X11_takeWord_B42 (v2 : Int) (v3 : Int) (M : zM) : Option ((Int × Int) ⊕ (Int)) :=
  if 0 < v2 then (F_X11_takeWord_J55 v2 v3 M) else (zchk ((0 : Int) ≤ v3 ∧ v3 < 29524) ( if (M 58 v3) = 0 then (F_X11_takeWord_J55 v2 v3 M) else (some (.inr v3))))
def F_X11_takeWord_L42 (v2 : Int) (v3 : Int) (M : zM) : Option (zM) :=
  zb1 (zloop (fun (s : Int × Int) => F_X11_takeWord_B42 s.1 s.2 M) zN (v2, v3)) (fun (e : Int) => F_X11_takeWord_J78 e M)
def F_X11_takeWord (v1 : Int) (M : zM) : Option (zM) :=
  zlet (zs M 48 0 0) fun M11 => ( zb2 (F_X11_findAll M11) fun r12 M13 => ( if r12 = 0 then (zlet (zs M13 48 0 1) fun M21 => ( some M21)) else (zb1 (F_X11_isIn v1 0 (w ((M13 48 23) - 1))) fun r17 => ( if r17 = 0 then (zlet (zs M13 48 0 2) fun M20 => ( some M20)) else (F_X11_takeWord_L42 v1 0 M13)))))
def F_X11_wordLength (M : zM) : Option (Int × zM) :=
  zlet (zs M 48 0 0) fun M1 => ( zb1 (F_X11_lengthOf (M1 48 29)) fun r3 => ( some (r3, M1)))
def F_X11_letterAt (v1 : Int) (M : zM) : Option (Int × zM) :=
  zlet (zs M 48 0 0) fun M1 => ( zb1 (F_X11_lengthOf (M1 48 29)) fun r3 => ( zb1 (F_X11_isIn v1 0 (w (r3 - 1))) fun r5 => ( if r5 = 0 then (zb2 (F_X11_fail 1 M1) fun r8 M9 => ( zchk ((0 : Int) ≤ (zi2c r8) ∧ ((zi2c r8) : Int) < 65536) ( some ((zi2c r8), M9)))) else (zb1 (F_X11_letter (M1 48 29) r3 v1) fun r13 => ( zchk ((0 : Int) ≤ (zi2c (97 + r13)) ∧ ((zi2c (97 + r13)) : Int) < 65536) ( some ((zi2c (97 + r13)), M1)))))))
def F_X11_isGenerated (M : zM) : Option (Int × zM) :=
  zlet (zs M 48 0 0) fun M1 => ( zb2 (F_X11_findAll M1) fun r2 M3 => ( if r2 = 0 then (zb2 (F_X11_fail 1 M3) fun r6 M7 => ( if 0 < r6 then (some (1, M7)) else (some (0, M7)))) else (zchk ((0 : Int) ≤ (M3 48 29) ∧ (M3 48 29) < 29524) ( some ((M3 58 (M3 48 29)), M3)))))
def F_X11_rank_J71 (v1 : Int) (M : zM) : Option (Int × zM) :=
  some (v1, M)
def F_X11_rank_J63 (v2 : Int) (t0 : Int) (t1 : Int) (M : zM) : Option ((Int × Int) ⊕ (Int)) :=
  zlet (w (t0 + t1)) fun x1 => ( zlet (w (v2 + 1)) fun x2 => ( some (.inl (x1, x2))))
def F_X11_rank_B40 (v1 : Int) (v2 : Int) (M : zM) : Option ((Int × Int) ⊕ (Int)) :=
  if v2 < (M 48 29) then (zchk ((0 : Int) ≤ v2 ∧ v2 < 29524) ( if (M 58 v2) = 0 then (F_X11_rank_J63 v2 v1 0 M) else (F_X11_rank_J63 v2 v1 1 M))) else (some (.inr v1))
def F_X11_rank_L40 (v1 : Int) (v2 : Int) (M : zM) : Option (Int × zM) :=
  zb1 (zloop (fun (s : Int × Int) => F_X11_rank_B40 s.1 s.2 M) zN (v1, v2)) (fun (e : Int) => F_X11_rank_J71 e M)
def F_X11_rank (M : zM) : Option (Int × zM) :=
  zlet (zs M 48 0 0) fun M8 => ( zb2 (F_X11_findAll M8) fun r9 M10 => ( if r9 = 0 then (zb2 (F_X11_fail 1 M10) fun r20 M21 => ( some (r20, M21))) else (zchk ((0 : Int) ≤ (M10 48 29) ∧ (M10 48 29) < 29524) ( if (M10 58 (M10 48 29)) = 0 then (zb2 (F_X11_fail 2 M10) fun r17 M18 => ( some (r17, M18))) else (F_X11_rank_L40 0 0 M10)))))
def F_X11_findFar_J195 (M : zM) : Option (zM) :=
  some M
def F_X11_findFar_J189 (v1 : Int) (M : zM) : Option ((Int × zM) ⊕ (zM)) :=
  zlet (w (v1 + (-1))) fun x1 => ( some (.inl (x1, M)))
def F_X11_findFar_J183 (v1 : Int) (v2 : Int) (M : zM) : Option ((Int × zM) ⊕ (zM)) :=
  zlet (w (v2 + 1)) fun x2 => ( some (.inl (x2, M)))
def F_X11_findFar_J177 (v1 : Int) (v2 : Int) (v3 : Int) (M : zM) : Option ((Int × zM) ⊕ (zM)) :=
  zlet (w (v3 + 1)) fun x3 => ( some (.inl (x3, M)))
def F_X11_findFar_J176 (v1 : Int) (v2 : Int) (v3 : Int) (t1 : Int) (t2 : Int) (M : zM) : Option ((Int × zM) ⊕ (zM)) :=
  zchk ((0 : Int) ≤ t1 ∧ t1 < 29524) ( zlet (zs M 63 t1 t2) fun M5 => ( F_X11_findFar_J177 v1 v2 v3 M5))
def F_X11_findFar_J170 (v1 : Int) (v2 : Int) (v3 : Int) (t1 : Int) (M : zM) : Option ((Int × zM) ⊕ (zM)) :=
  zchk ((0 : Int) ≤ v1 ∧ v1 < 29524) ( F_X11_findFar_J176 v1 v2 v3 t1 (M 63 v1) M)
def F_X11_findFar_J163 (v1 : Int) (v2 : Int) (v3 : Int) (v4 : Int) (t1 : Int) (M : zM) : Option ((Int × zM) ⊕ (zM)) :=
  F_X11_findFar_J176 v1 v2 v3 t1 (w (v4 + 1)) M
def F_X11_findFar_B72 (v1 : Int) (v2 : Int) (v3 : Int) (M : zM) : Option ((Int × zM) ⊕ (zM)) :=
  if v3 < 100 then (zb1 (F_X11_hasRoom v2 M) fun r9 => ( if r9 = 0 then (some (.inr M)) else (zb1 (F_X11_isFactor v3 M) fun r12 => ( if r12 = 0 then (F_X11_findFar_J177 v1 v2 v3 M) else (zb1 (F_X11_isSelected (zdiv v3 10) (zrem v3 10) M) fun r15 => ( if r15 = 0 then (F_X11_findFar_J177 v1 v2 v3 M) else (zb1 (F_X11_inserted v2 (zdiv v3 10) (zrem v3 10) M) fun r18 => ( zchk ((0 : Int) ≤ r18 ∧ r18 < 29524) ( zlet (M 63 r18) fun x22 => ( if x22 = (-1) then (F_X11_findFar_J170 v1 v2 v3 v1 M) else (zchk ((0 : Int) ≤ v1 ∧ v1 < 29524) ( if (M 63 v1) = (-1) then (F_X11_findFar_J163 v1 v2 v3 x22 v1 M) else (zchk ((0 : Int) ≤ v1 ∧ v1 < 29524) ( if (w (x22 + 1)) < (M 63 v1) then (F_X11_findFar_J163 v1 v2 v3 x22 v1 M) else (F_X11_findFar_J170 v1 v2 v3 v1 M))))))))))))))) else (some (.inr M))
def F_X11_findFar_L72 (v1 : Int) (v2 : Int) (v3 : Int) (M : zM) : Option ((Int × zM) ⊕ (zM)) :=
  zb1 (zloop (fun (s : Int × zM) => F_X11_findFar_B72 v1 v2 s.1 s.2) zN (v3, M)) (fun (e : zM) => F_X11_findFar_J183 v1 v2 e)
def F_X11_findFar_B47 (v1 : Int) (v2 : Int) (M : zM) : Option ((Int × zM) ⊕ (zM)) :=
  if v2 < (M 48 7) then (zchk ((0 : Int) ≤ v1 ∧ v1 < 29524) ( if (M 58 v1) = 0 then (some (.inr M)) else (zb1 (F_X11_fit v1 v2 M) fun M35 => ( F_X11_findFar_L72 v1 v2 0 M35)))) else (some (.inr M))
def F_X11_findFar_L47 (v1 : Int) (v2 : Int) (M : zM) : Option ((Int × zM) ⊕ (zM)) :=
  zb1 (zloop (fun (s : Int × zM) => F_X11_findFar_B47 v1 s.1 s.2) zN (v2, M)) (fun (e : zM) => F_X11_findFar_J189 v1 e)
def F_X11_findFar_B41 (v1 : Int) (M : zM) : Option ((Int × zM) ⊕ (zM)) :=
  if v1 < 0 then (some (.inr M)) else (F_X11_findFar_L47 v1 0 M)
def F_X11_findFar_L41 (v1 : Int) (M : zM) : Option (zM) :=
  zb1 (zloop (fun (s : Int × zM) => F_X11_findFar_B41 s.1 s.2) zN (v1, M)) (fun (e : zM) => F_X11_findFar_J195 e)
def F_X11_findFar_J34 (M : zM) : Option (zM) :=
  zlet (w ((M 48 29) - 1)) fun x39 => ( F_X11_findFar_L41 x39 M)
def F_X11_findFar_J27 (v1 : Int) (t1 : Int) (t2 : Int) (M : zM) : Option ((Int × zM) ⊕ (zM)) :=
  zchk ((0 : Int) ≤ t1 ∧ t1 < 29524) ( zlet (zs M 63 t1 t2) fun M41 => ( zlet (w (v1 + 1)) fun x42 => ( some (.inl (x42, M41)))))
def F_X11_findFar_B2 (v1 : Int) (M : zM) : Option ((Int × zM) ⊕ (zM)) :=
  if v1 < 29524 then (if v1 = (M 48 29) then (F_X11_findFar_J27 v1 v1 0 M) else (F_X11_findFar_J27 v1 v1 (-1) M)) else (some (.inr M))
def F_X11_findFar_L2 (v1 : Int) (M : zM) : Option (zM) :=
  zb1 (zloop (fun (s : Int × zM) => F_X11_findFar_B2 s.1 s.2) zN (v1, M)) (fun (e : zM) => F_X11_findFar_J34 e)
def F_X11_findFar (M : zM) : Option (zM) :=
  F_X11_findFar_L2 0 M
def F_X11_isAxiom_J28 (M : zM) : Option (Int) :=
  some 0
def F_X11_isAxiom_J20 (M : zM) : Option (Int) :=
  some 1
def F_X11_isAxiom_B2 (v1 : Int) (v2 : Int) (M : zM) : Option ((Int) ⊕ ((Unit) ⊕ (Unit))) :=
  if v2 < (M 48 2) then (zchk ((0 : Int) ≤ v2 ∧ v2 < 6) ( if (M 49 v2) = v1 then (some (.inr (.inl ()))) else (zlet (w (v2 + 1)) fun x6 => ( some (.inl x6))))) else (some (.inr (.inr ())))
def F_X11_isAxiom_L2 (v1 : Int) (v2 : Int) (M : zM) : Option (Int) :=
  zb1 (zloop (fun (s : Int) => F_X11_isAxiom_B2 v1 s M) zN v2) (Sum.elim (fun (e : Unit) => F_X11_isAxiom_J20 M) (fun (e : Unit) => F_X11_isAxiom_J28 M))
def F_X11_isAxiom (v1 : Int) (M : zM) : Option (Int) :=
  F_X11_isAxiom_L2 v1 0 M
def F_X11_bestAxiom_J67 (v1 : Int) (M : zM) : Option (Int) :=
  some v1
def F_X11_bestAxiom_J61 (v1 : Int) (v2 : Int) (M : zM) : Option ((Int × Int) ⊕ (Int)) :=
  zlet (w (v2 + 1)) fun x1 => ( some (.inl (v1, x1)))
def F_X11_bestAxiom_J59 (v2 : Int) (M : zM) : Option ((Int × Int) ⊕ (Int)) :=
  F_X11_bestAxiom_J61 v2 v2 M
def F_X11_bestAxiom_B4 (v1 : Int) (v2 : Int) (M : zM) : Option ((Int × Int) ⊕ (Int)) :=
  if (M 48 29) < v2 then (some (.inr v1)) else (zchk ((0 : Int) ≤ v2 ∧ v2 < 29524) ( if (M 58 v2) = 0 then (F_X11_bestAxiom_J61 v1 v2 M) else (zchk ((0 : Int) ≤ v2 ∧ v2 < 29524) ( if (M 63 v2) = (-1) then (F_X11_bestAxiom_J61 v1 v2 M) else (zb1 (F_X11_isAxiom v2 M) fun r10 => ( if r10 = 0 then (F_X11_bestAxiom_J61 v1 v2 M) else (if v1 = (-1) then (F_X11_bestAxiom_J59 v2 M) else (zchk ((0 : Int) ≤ v2 ∧ v2 < 29524) ( zchk ((0 : Int) ≤ v1 ∧ v1 < 29524) ( if (M 63 v2) < (M 63 v1) then (F_X11_bestAxiom_J59 v2 M) else (F_X11_bestAxiom_J61 v1 v2 M)))))))))))
def F_X11_bestAxiom_L4 (v1 : Int) (v2 : Int) (M : zM) : Option (Int) :=
  zb1 (zloop (fun (s : Int × Int) => F_X11_bestAxiom_B4 s.1 s.2 M) zN (v1, v2)) (fun (e : Int) => F_X11_bestAxiom_J67 e M)
def F_X11_bestAxiom (M : zM) : Option (Int) :=
  F_X11_bestAxiom_L4 (-1) 0 M
def F_X11_derivationLength (M : zM) : Option (Int × zM) :=
  zlet (zs M 48 0 0) fun M1 => ( zb2 (F_X11_findAll M1) fun r2 M3 => ( if r2 = 0 then (zb2 (F_X11_fail 1 M3) fun r19 M20 => ( some (r19, M20))) else (zchk ((0 : Int) ≤ (M3 48 29) ∧ (M3 48 29) < 29524) ( if (M3 58 (M3 48 29)) = 0 then (zb2 (F_X11_fail 2 M3) fun r16 M17 => ( some (r16, M17))) else (zb1 (F_X11_findFar M3) fun M10 => ( zb1 (F_X11_bestAxiom M10) fun r12 => ( zchk ((0 : Int) ≤ r12 ∧ r12 < 29524) ( some ((M10 63 r12), M10)))))))))
def F_X11_nearer_J105 (M : zM) : Option (Int × zM) :=
  some ((-1), M)
def F_X11_nearer_J97 (v2 : Int) (M : zM) : Option (Int × zM) :=
  some (v2, M)
def F_X11_nearer_J99 (v1 : Int) (v2 : Int) (M : zM) : Option ((Int × zM) ⊕ ((Int × zM) ⊕ (zM))) :=
  zlet (w (v2 + 1)) fun x1 => ( some (.inl (x1, M)))
def F_X11_nearer_B2 (v1 : Int) (v2 : Int) (M : zM) : Option ((Int × zM) ⊕ ((Int × zM) ⊕ (zM))) :=
  if v2 < (w (100 * (M 48 7))) then (zlet (zdiv v2 100) fun x4 => ( zb1 (F_X11_fit v1 x4 M) fun M5 => ( zb1 (F_X11_hasRoom x4 M5) fun r7 => ( if r7 = 0 then (F_X11_nearer_J99 v1 v2 M5) else (zb1 (F_X11_isFactor (zrem v2 100) M5) fun r10 => ( if r10 = 0 then (F_X11_nearer_J99 v1 v2 M5) else (zb1 (F_X11_isSelected (zrem (zdiv v2 10) 10) (zrem v2 10) M5) fun r13 => ( if r13 = 0 then (F_X11_nearer_J99 v1 v2 M5) else (zb1 (F_X11_inserted x4 (zrem (zdiv v2 10) 10) (zrem v2 10) M5) fun r16 => ( zchk ((0 : Int) ≤ r16 ∧ r16 < 29524) ( zchk ((0 : Int) ≤ v1 ∧ v1 < 29524) ( if (M5 63 r16) = (w ((M5 63 v1) - 1)) then (some (.inr (.inl (v2, M5)))) else (F_X11_nearer_J99 v1 v2 M5))))))))))))) else (some (.inr (.inr M)))
def F_X11_nearer_L2 (v1 : Int) (v2 : Int) (M : zM) : Option (Int × zM) :=
  zb1 (zloop (fun (s : Int × zM) => F_X11_nearer_B2 v1 s.1 s.2) zN (v2, M)) (Sum.elim (fun (e : Int × zM) => F_X11_nearer_J97 e.1 e.2) (fun (e : zM) => F_X11_nearer_J105 e))
def F_X11_nearer (v1 : Int) (M : zM) : Option (Int × zM) :=
  F_X11_nearer_L2 v1 0 M
def F_X11_derivationStep_J140 (v2 : Int) (v4 : Int) (M : zM) : Option (Int × zM) :=
  if v2 = 0 then (some ((zdiv v4 100), M)) else (if v2 = 1 then (some ((zrem (zdiv v4 10) 10), M)) else (some ((zrem v4 10), M)))
def F_X11_derivationStep_B88 (v1 : Int) (v2 : Int) (v3 : Int) (v4 : Int) (v5 : Int) (M : zM) : Option ((Int × Int × Int × zM) ⊕ (Int × zM)) :=
  if v1 < v5 then (some (.inr (v4, M))) else (zb2 (F_X11_nearer v3 M) fun r4 M5 => ( zb1 (F_X11_fit v3 (zdiv r4 100) M5) fun M7 => ( zb1 (F_X11_inserted (zdiv r4 100) (zrem (zdiv r4 10) 10) (zrem r4 10) M7) fun r9 => ( zlet (w (v5 + 1)) fun x11 => ( some (.inl (r9, r4, x11, M7)))))))
def F_X11_derivationStep_L88 (v1 : Int) (v2 : Int) (v3 : Int) (v4 : Int) (v5 : Int) (M : zM) : Option (Int × zM) :=
  zb1 (zloop (fun (s : Int × Int × Int × zM) => F_X11_derivationStep_B88 v1 v2 s.1 s.2.1 s.2.2.1 s.2.2.2) zN (v3, v4, v5, M)) (fun (e : Int × zM) => F_X11_derivationStep_J140 v2 e.1 e.2)
def F_X11_derivationStep (v1 : Int) (v2 : Int) (M : zM) : Option (Int × zM) :=
  zlet (zs M 48 0 0) fun M12 => ( zb1 (F_X11_isIn v2 0 2) fun r13 => ( if r13 = 0 then (zb2 (F_X11_fail 1 M12) fun r42 M43 => ( some (r42, M43))) else (zb2 (F_X11_findAll M12) fun r16 M17 => ( if r16 = 0 then (zb2 (F_X11_fail 2 M17) fun r39 M40 => ( some (r39, M40))) else (zchk ((0 : Int) ≤ (M17 48 29) ∧ (M17 48 29) < 29524) ( if (M17 58 (M17 48 29)) = 0 then (zb2 (F_X11_fail 3 M17) fun r36 M37 => ( some (r36, M37))) else (zb1 (F_X11_findFar M17) fun M24 => ( zb1 (F_X11_bestAxiom M24) fun r26 => ( zchk ((0 : Int) ≤ r26 ∧ r26 < 29524) ( zb1 (F_X11_isIn v1 0 (w ((M24 63 r26) - 1))) fun r30 => ( if r30 = 0 then (zb2 (F_X11_fail 4 M24) fun r33 M34 => ( some (r33, M34))) else (F_X11_derivationStep_L88 v1 v2 r26 (-1) 0 M24))))))))))))
def F_X11_derivations_J181 (M : zM) : Option (Int × zM) :=
  zchk ((0 : Int) ≤ (M 48 29) ∧ (M 48 29) < 29524) ( some ((M 64 (M 48 29)), M))
def F_X11_derivations_J175 (v1 : Int) (M : zM) : Option ((Int × zM) ⊕ (zM)) :=
  zlet (w (v1 + 1)) fun x4 => ( some (.inl (x4, M)))
def F_X11_derivations_J169 (v1 : Int) (v2 : Int) (M : zM) : Option ((Int × zM) ⊕ (zM)) :=
  zlet (w (v2 + 1)) fun x5 => ( some (.inl (x5, M)))
def F_X11_derivations_J163 (v1 : Int) (v2 : Int) (v3 : Int) (M : zM) : Option ((Int × zM) ⊕ (zM)) :=
  zlet (w (v3 + 1)) fun x6 => ( some (.inl (x6, M)))
def F_X11_derivations_B99 (v1 : Int) (v2 : Int) (v3 : Int) (M : zM) : Option ((Int × zM) ⊕ (zM)) :=
  if v3 < 100 then (zb1 (F_X11_hasRoom v2 M) fun r8 => ( if r8 = 0 then (some (.inr M)) else (zb1 (F_X11_isFactor v3 M) fun r11 => ( if r11 = 0 then (F_X11_derivations_J163 v1 v2 v3 M) else (zb1 (F_X11_isSelected (zdiv v3 10) (zrem v3 10) M) fun r14 => ( if r14 = 0 then (F_X11_derivations_J163 v1 v2 v3 M) else (zb1 (F_X11_inserted v2 (zdiv v3 10) (zrem v3 10) M) fun r17 => ( zchk ((0 : Int) ≤ r17 ∧ r17 < 29524) ( zchk ((0 : Int) ≤ v1 ∧ v1 < 29524) ( zchk ((0 : Int) ≤ r17 ∧ r17 < 29524) ( zlet (zs M 64 r17 (zladd (M 64 r17) (M 64 v1))) fun M24 => ( F_X11_derivations_J163 v1 v2 v3 M24)))))))))))) else (some (.inr M))
def F_X11_derivations_L99 (v1 : Int) (v2 : Int) (v3 : Int) (M : zM) : Option ((Int × zM) ⊕ (zM)) :=
  zb1 (zloop (fun (s : Int × zM) => F_X11_derivations_B99 v1 v2 s.1 s.2) zN (v3, M)) (fun (e : zM) => F_X11_derivations_J169 v1 v2 e)
def F_X11_derivations_B74 (v1 : Int) (v2 : Int) (M : zM) : Option ((Int × zM) ⊕ (zM)) :=
  if v2 < (M 48 7) then (zchk ((0 : Int) ≤ v1 ∧ v1 < 29524) ( if (M 58 v1) = 0 then (some (.inr M)) else (zb1 (F_X11_fit v1 v2 M) fun M30 => ( F_X11_derivations_L99 v1 v2 0 M30)))) else (some (.inr M))
def F_X11_derivations_L74 (v1 : Int) (v2 : Int) (M : zM) : Option ((Int × zM) ⊕ (zM)) :=
  zb1 (zloop (fun (s : Int × zM) => F_X11_derivations_B74 v1 s.1 s.2) zN (v2, M)) (fun (e : zM) => F_X11_derivations_J175 v1 e)
def F_X11_derivations_B64 (v1 : Int) (M : zM) : Option ((Int × zM) ⊕ (zM)) :=
  if v1 < (M 48 29) then (F_X11_derivations_L74 v1 0 M) else (some (.inr M))
def F_X11_derivations_L64 (v1 : Int) (M : zM) : Option (Int × zM) :=
  zb1 (zloop (fun (s : Int × zM) => F_X11_derivations_B64 s.1 s.2) zN (v1, M)) (fun (e : zM) => F_X11_derivations_J181 e)
def F_X11_derivations_J62 (M : zM) : Option (Int × zM) :=
  F_X11_derivations_L64 0 M
def F_X11_derivations_J55 (v1 : Int) (t1 : Int) (t2 : Int) (M : zM) : Option ((Int × zM) ⊕ (zM)) :=
  zchk ((0 : Int) ≤ t1 ∧ t1 < 29524) ( zlet (zs M 64 t1 t2) fun M35 => ( zlet (w (v1 + 1)) fun x36 => ( some (.inl (x36, M35)))))
def F_X11_derivations_J54 (v1 : Int) (t1 : Int) (M : zM) : Option ((Int × zM) ⊕ (zM)) :=
  F_X11_derivations_J55 v1 t1 0 M
def F_X11_derivations_B21 (v1 : Int) (M : zM) : Option ((Int × zM) ⊕ (zM)) :=
  if v1 < 29524 then (zchk ((0 : Int) ≤ v1 ∧ v1 < 29524) ( if (M 58 v1) = 0 then (F_X11_derivations_J54 v1 v1 M) else (zb1 (F_X11_isAxiom v1 M) fun r41 => ( if r41 = 0 then (F_X11_derivations_J54 v1 v1 M) else (F_X11_derivations_J55 v1 v1 1 M))))) else (some (.inr M))
def F_X11_derivations_L21 (v1 : Int) (M : zM) : Option (Int × zM) :=
  zb1 (zloop (fun (s : Int × zM) => F_X11_derivations_B21 s.1 s.2) zN (v1, M)) (fun (e : zM) => F_X11_derivations_J62 e)
def F_X11_derivations (M : zM) : Option (Int × zM) :=
  zlet (zs M 48 0 0) fun M44 => ( zb2 (F_X11_findAll M44) fun r45 M46 => ( if r45 = 0 then (zb2 (F_X11_fail 1 M46) fun r49 M50 => ( some (r49, M50))) else (F_X11_derivations_L21 0 M46)))
def F_X11_findInsertion_J92 (v2 : Int) (M : zM) : Option (Int × zM) :=
  some ((w (v2 - 1000)), M)
def F_X11_findInsertion_J81 (v3 : Int) (M : zM) : Option (Int × zM) :=
  some (v3, M)
def F_X11_findInsertion_J86 (v1 : Int) (v2 : Int) (v3 : Int) (M : zM) : Option ((Int × Int × zM) ⊕ ((Int × zM) ⊕ (Int × zM))) :=
  zlet (w (v3 + 1)) fun x1 => ( some (.inl (v2, x1, M)))
def F_X11_findInsertion_J38 (v1 : Int) (v2 : Int) (v3 : Int) (v4 : Int) (M : zM) : Option ((Int × Int × zM) ⊕ ((Int × zM) ⊕ (Int × zM))) :=
  zb1 (F_X11_hasRoom v4 M) fun r2 => ( if r2 = 0 then (F_X11_findInsertion_J86 v1 v2 v3 M) else (zb1 (F_X11_isFactor (zrem v3 100) M) fun r5 => ( if r5 = 0 then (F_X11_findInsertion_J86 v1 v2 v3 M) else (zb1 (F_X11_isSelected (zrem (zdiv v3 10) 10) (zrem v3 10) M) fun r8 => ( if r8 = 0 then (F_X11_findInsertion_J86 v1 v2 v3 M) else (if v2 = v1 then (some (.inr (.inl (v3, M)))) else (zlet (w (v2 + 1)) fun x12 => ( F_X11_findInsertion_J86 v1 x12 v3 M))))))))
def F_X11_findInsertion_B4 (v1 : Int) (v2 : Int) (v3 : Int) (M : zM) : Option ((Int × Int × zM) ⊕ ((Int × zM) ⊕ (Int × zM))) :=
  if v3 < (w (100 * (M 48 7))) then (zlet (zdiv v3 100) fun x15 => ( if (zrem v3 100) = 0 then (zb1 (F_X11_fit (M 48 29) x15 M) fun M18 => ( F_X11_findInsertion_J38 v1 v2 v3 x15 M18)) else (F_X11_findInsertion_J38 v1 v2 v3 x15 M))) else (some (.inr (.inr (v2, M))))
def F_X11_findInsertion_L4 (v1 : Int) (v2 : Int) (v3 : Int) (M : zM) : Option (Int × zM) :=
  zb1 (zloop (fun (s : Int × Int × zM) => F_X11_findInsertion_B4 v1 s.1 s.2.1 s.2.2) zN (v2, v3, M)) (Sum.elim (fun (e : Int × zM) => F_X11_findInsertion_J81 e.1 e.2) (fun (e : Int × zM) => F_X11_findInsertion_J92 e.1 e.2))
def F_X11_findInsertion (v1 : Int) (M : zM) : Option (Int × zM) :=
  F_X11_findInsertion_L4 v1 0 0 M
def F_X11_insertions (M : zM) : Option (Int × zM) :=
  zlet (zs M 48 0 0) fun M1 => ( zb2 (F_X11_findInsertion (-1) M1) fun r2 M3 => ( some ((w (r2 + 1000)), M3)))
def F_X11_insert (v1 : Int) (M : zM) : Option (Int × zM) :=
  zlet (zs M 48 0 0) fun M1 => ( zb2 (F_X11_findInsertion v1 M1) fun r2 M3 => ( if r2 < 0 then (zb2 (F_X11_fail 1 M3) fun r12 M13 => ( some (r12, M13))) else (zb1 (F_X11_fit (M3 48 29) (zdiv r2 100) M3) fun M7 => ( zb1 (F_X11_inserted (zdiv r2 100) (zrem (zdiv r2 10) 10) (zrem r2 10) M7) fun r9 => ( zlet (zs M7 48 29 r9) fun M11 => ( some ((zdiv r2 100), M11)))))))
def F_X11_reductions (M : zM) : Option (Int × zM) :=
  zlet (zs M 48 0 0) fun M1 => ( zb2 (F_X11_countReductions (M1 48 29) M1) fun r3 M4 => ( some (r3, M4)))
def F_X11_countAhead_J63 (v3 : Int) (M : zM) : Option (Int) :=
  some v3
def F_X11_countAhead_J55 (v1 : Int) (v2 : Int) (v4 : Int) (t0 : Int) (t1 : Int) (M : zM) : Option ((Int × Int) ⊕ (Int)) :=
  zlet (w (t0 + t1)) fun x1 => ( zlet (w (v4 + 1)) fun x2 => ( some (.inl (x1, x2))))
def F_X11_countAhead_J50 (v1 : Int) (v2 : Int) (v4 : Int) (t0 : Int) (M : zM) : Option ((Int × Int) ⊕ (Int)) :=
  F_X11_countAhead_J55 v1 v2 v4 t0 1 M
def F_X11_countAhead_J54 (v1 : Int) (v2 : Int) (v4 : Int) (t0 : Int) (M : zM) : Option ((Int × Int) ⊕ (Int)) :=
  F_X11_countAhead_J55 v1 v2 v4 t0 0 M
def F_X11_countAhead_B5 (v1 : Int) (v2 : Int) (v3 : Int) (v4 : Int) (M : zM) : Option ((Int × Int) ⊕ (Int)) :=
  if v4 < v2 then (zchk ((0 : Int) ≤ v4 ∧ v4 < 500) ( zchk ((0 : Int) ≤ v1 ∧ v1 < 500) ( if (M 66 v4) < (M 66 v1) then (F_X11_countAhead_J50 v1 v2 v4 v3 M) else (zchk ((0 : Int) ≤ v4 ∧ v4 < 500) ( zchk ((0 : Int) ≤ v1 ∧ v1 < 500) ( if (M 66 v4) = (M 66 v1) then (if v4 < v1 then (F_X11_countAhead_J50 v1 v2 v4 v3 M) else (F_X11_countAhead_J54 v1 v2 v4 v3 M)) else (F_X11_countAhead_J54 v1 v2 v4 v3 M))))))) else (some (.inr v3))
def F_X11_countAhead_L5 (v1 : Int) (v2 : Int) (v3 : Int) (v4 : Int) (M : zM) : Option (Int) :=
  zb1 (zloop (fun (s : Int × Int) => F_X11_countAhead_B5 v1 v2 s.1 s.2 M) zN (v3, v4)) (fun (e : Int) => F_X11_countAhead_J63 e M)
def F_X11_countAhead (v1 : Int) (v2 : Int) (M : zM) : Option (Int) :=
  F_X11_countAhead_L5 v1 v2 0 0 M
def F_X11_reduce_J121 (v3 : Int) (M : zM) : Option (Int × zM) :=
  zchk ((0 : Int) ≤ v3 ∧ v3 < 500) ( zlet (zs M 48 29 (M 66 v3)) fun M3 => ( zchk ((0 : Int) ≤ v3 ∧ v3 < 500) ( some ((zdiv (M3 65 v3) 100), M3))))
def F_X11_reduce_B105 (v1 : Int) (v2 : Int) (v3 : Int) (M : zM) : Option ((Int) ⊕ (Int)) :=
  zb1 (F_X11_countAhead v3 v2 M) fun r6 => ( if r6 = v1 then (some (.inr v3)) else (zlet (w (v3 + 1)) fun x9 => ( some (.inl x9))))
def F_X11_reduce_L105 (v1 : Int) (v2 : Int) (v3 : Int) (M : zM) : Option (Int × zM) :=
  zb1 (zloop (fun (s : Int) => F_X11_reduce_B105 v1 v2 s M) zN v3) (fun (e : Int) => F_X11_reduce_J121 e M)
def F_X11_reduce_J103 (v1 : Int) (v2 : Int) (M : zM) : Option (Int × zM) :=
  F_X11_reduce_L105 v1 v2 0 M
def F_X11_reduce_J97 (v1 : Int) (v2 : Int) (v3 : Int) (M : zM) : Option ((Int × Int × zM) ⊕ (Int × zM)) :=
  zlet (w (v3 + 1)) fun x10 => ( some (.inl (v2, x10, M)))
def F_X11_reduce_B33 (v1 : Int) (v2 : Int) (v3 : Int) (M : zM) : Option ((Int × Int × zM) ⊕ (Int × zM)) :=
  if v3 < (w (100 * (M 48 7))) then (zb1 (F_X11_isPlace v3) fun r13 => ( if r13 = 0 then (F_X11_reduce_J97 v1 v2 v3 M) else (zb2 (F_X11_reduces (M 48 29) (zdiv v3 100) (zrem (zdiv v3 10) 10) (zrem v3 10) M) fun r17 M18 => ( if r17 = 0 then (F_X11_reduce_J97 v1 v2 v3 M18) else (zchk ((0 : Int) ≤ v2 ∧ v2 < 500) ( zlet (zs M18 65 v2 v3) fun M22 => ( zchk ((0 : Int) ≤ v2 ∧ v2 < 500) ( zlet (zs M22 66 v2 (M22 48 26)) fun M25 => ( zlet (w (v2 + 1)) fun x26 => ( F_X11_reduce_J97 v1 x26 v3 M25)))))))))) else (some (.inr (v2, M)))
def F_X11_reduce_L33 (v1 : Int) (v2 : Int) (v3 : Int) (M : zM) : Option (Int × zM) :=
  zb1 (zloop (fun (s : Int × Int × zM) => F_X11_reduce_B33 v1 s.1 s.2.1 s.2.2) zN (v2, v3, M)) (fun (e : Int × zM) => F_X11_reduce_J103 v1 e.1 e.2)
def F_X11_reduce (v1 : Int) (M : zM) : Option (Int × zM) :=
  zlet (zs M 48 0 0) fun M27 => ( zb2 (F_X11_countReductions (M27 48 29) M27) fun r29 M30 => ( zb1 (F_X11_isIn v1 0 (w (r29 - 1))) fun r32 => ( if r32 = 0 then (zb2 (F_X11_fail 1 M30) fun r35 M36 => ( some (r35, M36))) else (F_X11_reduce_L33 v1 0 0 M30))))
def F_X11_countForms_J27 (v1 : Int) (M : zM) : Option (Int) :=
  some v1
def F_X11_countForms_B4 (v1 : Int) (v2 : Int) (M : zM) : Option ((Int × Int) ⊕ (Int)) :=
  if (M 48 29) < v2 then (some (.inr v1)) else (zchk ((0 : Int) ≤ v2 ∧ v2 < 29524) ( zlet (w (v1 + (M 62 v2))) fun x5 => ( zlet (w (v2 + 1)) fun x6 => ( some (.inl (x5, x6))))))
def F_X11_countForms_L4 (v1 : Int) (v2 : Int) (M : zM) : Option (Int) :=
  zb1 (zloop (fun (s : Int × Int) => F_X11_countForms_B4 s.1 s.2 M) zN (v1, v2)) (fun (e : Int) => F_X11_countForms_J27 e M)
def F_X11_countForms (M : zM) : Option (Int) :=
  F_X11_countForms_L4 0 0 M
def F_X11_normalForms (M : zM) : Option (Int × zM) :=
  zlet (zs M 48 0 0) fun M1 => ( zb1 (F_X11_meet (M1 48 29) M1) fun M3 => ( zb1 (F_X11_countForms M3) fun r5 => ( some (r5, M3))))
def F_X11_normalize_J65 (v3 : Int) (M : zM) : Option (zM) :=
  zlet (zs M 48 29 v3) fun M1 => ( some M1)
def F_X11_normalize_J50 (v2 : Int) (v3 : Int) (M : zM) : Option ((Int × Int) ⊕ (Int)) :=
  zchk ((0 : Int) ≤ v3 ∧ v3 < 29524) ( zlet (w (v2 - (M 62 v3))) fun x4 => ( zlet (w (v3 + 1)) fun x5 => ( some (.inl (x4, x5)))))
def F_X11_normalize_B37 (v2 : Int) (v3 : Int) (M : zM) : Option ((Int × Int) ⊕ (Int)) :=
  if 0 < v2 then (F_X11_normalize_J50 v2 v3 M) else (zchk ((0 : Int) ≤ v3 ∧ v3 < 29524) ( if (M 62 v3) = 0 then (F_X11_normalize_J50 v2 v3 M) else (some (.inr v3))))
def F_X11_normalize_L37 (v2 : Int) (v3 : Int) (M : zM) : Option (zM) :=
  zb1 (zloop (fun (s : Int × Int) => F_X11_normalize_B37 s.1 s.2 M) zN (v2, v3)) (fun (e : Int) => F_X11_normalize_J65 e M)
def F_X11_normalize (v1 : Int) (M : zM) : Option (zM) :=
  zlet (zs M 48 0 0) fun M10 => ( zb1 (F_X11_meet (M10 48 29) M10) fun M12 => ( zb1 (F_X11_countForms M12) fun r14 => ( zb1 (F_X11_isIn v1 0 (w (r14 - 1))) fun r16 => ( if r16 = 0 then (zlet (zs M12 48 0 1) fun M19 => ( some M19)) else (F_X11_normalize_L37 v1 0 M12)))))
def F_X11_isSlot (v0 : Int) : Option (Int) :=
  zb1 (F_X11_isIn v0 0 2) fun r1 => ( zchk ((0 : Int) ≤ r1 ∧ (r1 : Int) ≤ 1) ( some r1))
def F_X11_allocate_J89 (M : zM) : Option (zM) :=
  some M
def F_X11_allocate_B63 (v1 : Int) (v4 : Int) (M : zM) : Option ((Int × zM) ⊕ (zM)) :=
  if v4 < 20 then (zchk ((0 : Int) ≤ (w ((20 * v1) + v4)) ∧ (w ((20 * v1) + v4)) < 60) ( zlet (zs M 69 (w ((20 * v1) + v4)) 0) fun M3 => ( zlet (w (v4 + 1)) fun x4 => ( some (.inl (x4, M3)))))) else (some (.inr M))
def F_X11_allocate_L63 (v1 : Int) (v4 : Int) (M : zM) : Option (zM) :=
  zb1 (zloop (fun (s : Int × zM) => F_X11_allocate_B63 v1 s.1 s.2) zN (v4, M)) (fun (e : zM) => F_X11_allocate_J89 e)
def F_X11_allocate_J36 (v1 : Int) (v2 : Int) (v3 : Int) (t1 : Int) (M : zM) : Option (zM) :=
  zlet (zs M 48 0 t1) fun M5 => ( if (M5 48 0) = 0 then (zchk ((0 : Int) ≤ v1 ∧ v1 < 3) ( zlet (zs M5 67 v1 v2) fun M9 => ( zchk ((0 : Int) ≤ v1 ∧ v1 < 3) ( zlet (zs M9 68 v1 v3) fun M11 => ( F_X11_allocate_L63 v1 0 M11))))) else (F_X11_allocate_J89 M5))
def F_X11_allocate_J31 (v1 : Int) (v2 : Int) (v3 : Int) (M : zM) : Option (zM) :=
  F_X11_allocate_J36 v1 v2 v3 2 M
def F_X11_allocate (v1 : Int) (v2 : Int) (v3 : Int) (M : zM) : Option (zM) :=
  zb1 (F_X11_isSlot v1) fun r12 => ( if r12 = 0 then (F_X11_allocate_J36 v1 v2 v3 1 M) else (zb1 (F_X11_isIn v2 0 2) fun r15 => ( if r15 = 0 then (F_X11_allocate_J31 v1 v2 v3 M) else (zb1 (F_X11_isIn v3 0 20) fun r18 => ( if r18 = 0 then (F_X11_allocate_J31 v1 v2 v3 M) else (F_X11_allocate_J36 v1 v2 v3 0 M))))))
def F_X11_problem (v1 : Int) (v2 : Int) (M : zM) : Option (Int) :=
  zb1 (F_X11_isSlot v1) fun r1 => ( if r1 = 0 then (some 1) else (zchk ((0 : Int) ≤ v1 ∧ v1 < 3) ( if (M 67 v1) < 0 then (some 2) else (zchk ((0 : Int) ≤ v1 ∧ v1 < 3) ( zb1 (F_X11_isIn v2 0 (w ((M 68 v1) - 1))) fun r9 => ( if r9 = 0 then (some 1) else (some 0)))))))
def F_X11_store_J57 (t1 : Int) (t2 : Int) (M : zM) : Option (zM) :=
  zchk ((0 : Int) ≤ t1 ∧ t1 < 60) ( zlet (zs M 69 t1 t2) fun M2 => ( some M2))
def F_X11_store (v1 : Int) (v2 : Int) (v3 : Int) (M : zM) : Option (zM) :=
  zb1 (F_X11_problem v1 v2 M) fun r3 => ( zlet (zs M 48 0 r3) fun M5 => ( if (M5 48 0) = 0 then (zchk ((0 : Int) ≤ v1 ∧ v1 < 3) ( if (M5 67 v1) = 0 then (F_X11_store_J57 (w ((20 * v1) + v2)) (zi2b v3) M5) else (zchk ((0 : Int) ≤ v1 ∧ v1 < 3) ( if (M5 67 v1) = 1 then (F_X11_store_J57 (w ((20 * v1) + v2)) (zi2s v3) M5) else (F_X11_store_J57 (w ((20 * v1) + v2)) v3 M5))))) else (some M5)))
def F_X11_element (v1 : Int) (v2 : Int) (M : zM) : Option (Int × zM) :=
  zb1 (F_X11_problem v1 v2 M) fun r1 => ( zlet (zs M 48 0 r1) fun M3 => ( if (M3 48 0) = 0 then (zchk ((0 : Int) ≤ (w ((20 * v1) + v2)) ∧ (w ((20 * v1) + v2)) < 60) ( some ((M3 69 (w ((20 * v1) + v2))), M3))) else (some (0, M3))))
def F_X11_compareSizes_J113 (M : zM) : Option (Int × zM) :=
  some ((-1), M)
def F_X11_compareSizes_J105 (v2 : Int) (M : zM) : Option (Int × zM) :=
  some (v2, M)
def F_X11_compareSizes_J80 (M : zM) : Option (Int × zM) :=
  zb2 (F_X11_fail 1 M) fun r1 M2 => ( some (r1, M2))
def F_X11_compareSizes_B62 (v1 : Int) (v2 : Int) (M : zM) : Option ((Int) ⊕ ((Unit) ⊕ ((Int) ⊕ (Unit)))) :=
  if (M 48 9) < v2 then (some (.inr (.inr (.inr ())))) else (zchk ((0 : Int) ≤ v1 ∧ v1 < 3) ( if v2 < (M 68 v1) then (zchk ((0 : Int) ≤ (w ((20 * v1) + v2)) ∧ (w ((20 * v1) + v2)) < 60) ( zb1 (F_X11_countOf v2 M) fun r11 => ( if (M 69 (w ((20 * v1) + v2))) = r11 then (zlet (w (v2 + 1)) fun x14 => ( some (.inl x14))) else (some (.inr (.inr (.inl v2))))))) else (some (.inr (.inl ())))))
def F_X11_compareSizes_L62 (v1 : Int) (v2 : Int) (M : zM) : Option (Int × zM) :=
  zb1 (zloop (fun (s : Int) => F_X11_compareSizes_B62 v1 s M) zN v2) (Sum.elim (fun (e : Unit) => F_X11_compareSizes_J80 M) (Sum.elim (fun (e : Int) => F_X11_compareSizes_J105 e M) (fun (e : Unit) => F_X11_compareSizes_J113 M)))
def F_X11_compareSizes_J56 (t1 : Int) (M : zM) : Option (Int × zM) :=
  zb2 (F_X11_fail t1 M) fun r15 M16 => ( some (r15, M16))
def F_X11_compareSizes (v1 : Int) (M : zM) : Option (Int × zM) :=
  zlet (zs M 48 0 0) fun M18 => ( zb1 (F_X11_isSlot v1) fun r19 => ( if r19 = 0 then (zb2 (F_X11_fail 1 M18) fun r35 M36 => ( some (r35, M36))) else (zb2 (F_X11_findAll M18) fun r22 M23 => ( if r22 = 0 then (zb2 (F_X11_fail 2 M23) fun r32 M33 => ( some (r32, M33))) else (zchk ((0 : Int) ≤ v1 ∧ v1 < 3) ( if (M23 67 v1) = 2 then (F_X11_compareSizes_L62 v1 0 M23) else (zchk ((0 : Int) ≤ v1 ∧ v1 < 3) ( if (M23 67 v1) < 0 then (F_X11_compareSizes_J56 3 M23) else (F_X11_compareSizes_J56 4 M23)))))))))
def F_X11_save_J103 (M : zM) : Option (zM) :=
  zlet (zs M 75 0 (M 48 2)) fun M2 => ( zlet (zs M2 75 1 (M2 48 7)) fun M4 => ( zlet (zs M4 75 2 (M4 48 8)) fun M6 => ( zlet (zs M6 75 3 (M6 48 9)) fun M8 => ( zlet (zs M8 75 4 (M8 48 29)) fun M10 => ( some M10)))))
def F_X11_save_B12 (v1 : Int) (M : zM) : Option ((Int × zM) ⊕ (zM)) :=
  if v1 < 300 then (zchk ((0 : Int) ≤ v1 ∧ v1 < 300) ( zchk ((0 : Int) ≤ v1 ∧ v1 < 300) ( zlet (zs M 73 v1 (M 52 v1)) fun M15 => ( zchk ((0 : Int) ≤ (zrem v1 6) ∧ (zrem v1 6) < 6) ( zchk ((0 : Int) ≤ (zrem v1 6) ∧ (zrem v1 6) < 6) ( zlet (zs M15 70 (zrem v1 6) (M15 49 (zrem v1 6))) fun M19 => ( zchk ((0 : Int) ≤ (zrem v1 5) ∧ (zrem v1 5) < 5) ( zchk ((0 : Int) ≤ (zrem v1 5) ∧ (zrem v1 5) < 5) ( zlet (zs M19 71 (zrem v1 5) (M19 50 (zrem v1 5))) fun M23 => ( zchk ((0 : Int) ≤ (zrem v1 5) ∧ (zrem v1 5) < 5) ( zchk ((0 : Int) ≤ (zrem v1 5) ∧ (zrem v1 5) < 5) ( zlet (zs M23 72 (zrem v1 5) (M23 51 (zrem v1 5))) fun M27 => ( zchk ((0 : Int) ≤ (zrem v1 5) ∧ (zrem v1 5) < 5) ( zchk ((0 : Int) ≤ (zrem v1 5) ∧ (zrem v1 5) < 5) ( zlet (zs M27 74 (zrem v1 5) (M27 53 (zrem v1 5))) fun M31 => ( zlet (w (v1 + 1)) fun x32 => ( some (.inl (x32, M31))))))))))))))))))) else (some (.inr M))
def F_X11_save_L12 (v1 : Int) (M : zM) : Option (zM) :=
  zb1 (zloop (fun (s : Int × zM) => F_X11_save_B12 s.1 s.2) zN (v1, M)) (fun (e : zM) => F_X11_save_J103 e)
def F_X11_save (M : zM) : Option (zM) :=
  zlet (zs M 48 0 0) fun M33 => ( zlet (zs M33 48 37 1) fun M34 => ( F_X11_save_L12 0 M34))
def F_X11_restore_J116 (M : zM) : Option (zM) :=
  if (M 48 37) = 0 then (some M) else (zlet (zs M 48 2 (M 75 0)) fun M4 => ( zlet (zs M4 48 7 (M4 75 1)) fun M6 => ( zlet (zs M6 48 8 (M6 75 2)) fun M8 => ( zlet (zs M8 48 9 (M8 75 3)) fun M10 => ( zlet (zs M10 48 29 (M10 75 4)) fun M12 => ( some M12))))))
def F_X11_restore_B18 (v1 : Int) (M : zM) : Option ((Int × zM) ⊕ (zM)) :=
  if v1 < 300 then (if (M 48 37) = 0 then (some (.inr M)) else (zchk ((0 : Int) ≤ v1 ∧ v1 < 300) ( zchk ((0 : Int) ≤ v1 ∧ v1 < 300) ( zlet (zs M 52 v1 (M 73 v1)) fun M19 => ( zchk ((0 : Int) ≤ (zrem v1 6) ∧ (zrem v1 6) < 6) ( zchk ((0 : Int) ≤ (zrem v1 6) ∧ (zrem v1 6) < 6) ( zlet (zs M19 49 (zrem v1 6) (M19 70 (zrem v1 6))) fun M23 => ( zchk ((0 : Int) ≤ (zrem v1 5) ∧ (zrem v1 5) < 5) ( zchk ((0 : Int) ≤ (zrem v1 5) ∧ (zrem v1 5) < 5) ( zlet (zs M23 50 (zrem v1 5) (M23 71 (zrem v1 5))) fun M27 => ( zchk ((0 : Int) ≤ (zrem v1 5) ∧ (zrem v1 5) < 5) ( zchk ((0 : Int) ≤ (zrem v1 5) ∧ (zrem v1 5) < 5) ( zlet (zs M27 51 (zrem v1 5) (M27 72 (zrem v1 5))) fun M31 => ( zchk ((0 : Int) ≤ (zrem v1 5) ∧ (zrem v1 5) < 5) ( zchk ((0 : Int) ≤ (zrem v1 5) ∧ (zrem v1 5) < 5) ( zlet (zs M31 53 (zrem v1 5) (M31 74 (zrem v1 5))) fun M35 => ( zlet (w (v1 + 1)) fun x36 => ( some (.inl (x36, M35)))))))))))))))))))) else (some (.inr M))
def F_X11_restore_L18 (v1 : Int) (M : zM) : Option (zM) :=
  zb1 (zloop (fun (s : Int × zM) => F_X11_restore_B18 s.1 s.2) zN (v1, M)) (fun (e : zM) => F_X11_restore_J116 e)
def F_X11_restore_J13 (t1 : Int) (M : zM) : Option (zM) :=
  zlet (zs M 48 0 t1) fun M37 => ( F_X11_restore_L18 0 M37)
def F_X11_restore (M : zM) : Option (zM) :=
  if (M 48 37) = 0 then (F_X11_restore_J13 1 M) else (F_X11_restore_J13 0 M)
def F_L_append (v1 : Int) (M : zM) (S : zS) : Option (Int × zM × zS) :=
  zbx (F_X10_append v1 M S) (fun e M S => if e = 0 then (some (1, M, S)) else (none)) fun u4 M1 S2 => ( some (0, M1, S2))
def F_L_define (M : zM) (S : zS) : Option (Int × zM × zS) :=
  zbx (F_X10_define M S) (fun e M S => if e = 1 then (some (1, M, S)) else (if e = 0 then (some (2, M, S)) else (none))) fun r1 M2 S3 => ( zlet (zs M2 76 0 r1) fun M11 => ( some (0, M11, S3)))
def F_L_removeAxiom (v1 : Int) (M : zM) (S : zS) : Option (Int × zM × zS) :=
  zbx (F_X10_removeAxiom v1 M S) (fun e M S => if e = 2 then (some (1, M, S)) else (none)) fun u4 M1 S2 => ( some (0, M1, S2))
def F_L_removeContext (v1 : Int) (M : zM) (S : zS) : Option (Int × zM × zS) :=
  zbx (F_X10_removeContext v1 M S) (fun e M S => if e = 2 then (some (1, M, S)) else (none)) fun u4 M1 S2 => ( some (0, M1, S2))
def F_L_count (v1 : Int) (M : zM) (S : zS) : Option (Int × zM × zS) :=
  zbx (F_X10_count v1 M S) (fun e M S => if e = 1 then (some (1, M, S)) else (none)) fun r1 M2 S3 => ( zlet (zs M2 76 0 r1) fun M10 => ( some (0, M10, S3)))
def F_L_size (M : zM) (S : zS) : Option (Int × zM × zS) :=
  zbx (F_X10_size M S) (fun e M S => if e = 3 then (some (1, M, S)) else (none)) fun r1 M2 S3 => ( zlet (zs M2 76 0 r1) fun M10 => ( some (0, M10, S3)))
def F_L_sizeOf (v1 : Int) (M : zM) (S : zS) : Option (Int × zM × zS) :=
  zbx (F_X10_sizeOf v1 M S) (fun e M S => if e = 1 then (some (1, M, S)) else (if e = 3 then (some (2, M, S)) else (none))) fun r1 M2 S3 => ( zlet (zs M2 76 0 r1) fun M11 => ( some (0, M11, S3)))
def F_L_density (v1 : Int) (M : zM) (S : zS) : Option (Int × zM × zS) :=
  zbx (F_X10_density v1 M S) (fun e M S => if e = 1 then (some (1, M, S)) else (if e = 3 then (some (2, M, S)) else (none))) fun r1 M2 S3 => ( zlet (zs M2 77 0 (zdi r1)) fun M11 => ( some (0, M11, S3)))
def F_L_isUsed_J15 (t1 : Int) (t2 : Int) (M : zM) (S : zS) : Option (Int × zM × zS) :=
  zchk ((0 : Int) ≤ t1 ∧ t1 < 1) ( zlet (zs M 76 t1 t2) fun M2 => ( some (0, M2, S)))
def F_L_isUsed (v1 : Int) (M : zM) (S : zS) : Option (Int × zM × zS) :=
  zbx (F_X10_isUsed v1 M S) (fun e M S => if e = 2 then (some (1, M, S)) else (if e = 3 then (some (2, M, S)) else (none))) fun r3 M4 S5 => ( if r3 = 0 then (F_L_isUsed_J15 0 0 M4 S5) else (F_L_isUsed_J15 0 1 M4 S5))
def F_L_isRedundant_J15 (t1 : Int) (t2 : Int) (M : zM) (S : zS) : Option (Int × zM × zS) :=
  zchk ((0 : Int) ≤ t1 ∧ t1 < 1) ( zlet (zs M 76 t1 t2) fun M2 => ( some (0, M2, S)))
def F_L_isRedundant (v1 : Int) (M : zM) (S : zS) : Option (Int × zM × zS) :=
  zbx (F_X10_isRedundant v1 M S) (fun e M S => if e = 2 then (some (1, M, S)) else (if e = 3 then (some (2, M, S)) else (none))) fun r3 M4 S5 => ( if r3 = 0 then (F_L_isRedundant_J15 0 0 M4 S5) else (F_L_isRedundant_J15 0 1 M4 S5))
def F_L_minimalContexts (M : zM) (S : zS) : Option (Int × zM × zS) :=
  zbx (F_X10_minimalContexts M S) (fun e M S => if e = 3 then (some (1, M, S)) else (none)) fun r1 M2 S3 => ( zlet (zs M2 76 0 r1) fun M10 => ( some (0, M10, S3)))
def F_L_canFollow_J16 (t1 : Int) (t2 : Int) (M : zM) (S : zS) : Option (Int × zM × zS) :=
  zchk ((0 : Int) ≤ t1 ∧ t1 < 1) ( zlet (zs M 76 t1 t2) fun M2 => ( some (0, M2, S)))
def F_L_canFollow (v1 : Int) (v2 : Int) (M : zM) (S : zS) : Option (Int × zM × zS) :=
  zbx (F_X10_canFollow v1 v2 M S) (fun e M S => if e = 2 then (some (1, M, S)) else (if e = 3 then (some (2, M, S)) else (none))) fun r3 M4 S5 => ( if r3 = 0 then (F_L_canFollow_J16 0 0 M4 S5) else (F_L_canFollow_J16 0 1 M4 S5))
def F_L_shortestLoop (v1 : Int) (M : zM) (S : zS) : Option (Int × zM × zS) :=
  zbx (F_X10_shortestLoop v1 M S) (fun e M S => if e = 2 then (some (1, M, S)) else (if e = 3 then (some (2, M, S)) else (if e = 4 then (some (3, M, S)) else (none)))) fun r1 M2 S3 => ( zlet (zs M2 76 0 r1) fun M12 => ( some (0, M12, S3)))
def F_L_isConfluent_J14 (t1 : Int) (t2 : Int) (M : zM) (S : zS) : Option (Int × zM × zS) :=
  zchk ((0 : Int) ≤ t1 ∧ t1 < 1) ( zlet (zs M 76 t1 t2) fun M2 => ( some (0, M2, S)))
def F_L_isConfluent (M : zM) (S : zS) : Option (Int × zM × zS) :=
  zbx (F_X10_isConfluent M S) (fun e M S => if e = 3 then (some (1, M, S)) else (none)) fun r3 M4 S5 => ( if r3 = 0 then (F_L_isConfluent_J14 0 0 M4 S5) else (F_L_isConfluent_J14 0 1 M4 S5))
def F_L_addLetter (v1 : Int) (M : zM) (S : zS) : Option (Int × zM × zS) :=
  zbx (F_X10_addLetter v1 M S) (fun e M S => if e = 1 then (some (1, M, S)) else (if e = 0 then (some (2, M, S)) else (none))) fun u4 M1 S2 => ( some (0, M1, S2))
def F_L_takeAxiom (v1 : Int) (M : zM) (S : zS) : Option (Int × zM × zS) :=
  zbx (F_X10_takeAxiom v1 M S) (fun e M S => if e = 2 then (some (1, M, S)) else (none)) fun u4 M1 S2 => ( some (0, M1, S2))
def F_L_takeWord (v1 : Int) (M : zM) (S : zS) : Option (Int × zM × zS) :=
  zbx (F_X10_takeWord v1 M S) (fun e M S => if e = 3 then (some (1, M, S)) else (if e = 2 then (some (2, M, S)) else (none))) fun u4 M1 S2 => ( some (0, M1, S2))
def F_L_letterAt (v1 : Int) (M : zM) (S : zS) : Option (Int × zM × zS) :=
  zbx (F_X10_letterAt v1 M S) (fun e M S => if e = 2 then (some (1, M, S)) else (none)) fun r1 M2 S3 => ( zlet (zs M2 76 0 r1) fun M10 => ( some (0, M10, S3)))
def F_L_isGenerated_J14 (t1 : Int) (t2 : Int) (M : zM) (S : zS) : Option (Int × zM × zS) :=
  zchk ((0 : Int) ≤ t1 ∧ t1 < 1) ( zlet (zs M 76 t1 t2) fun M2 => ( some (0, M2, S)))
def F_L_isGenerated (M : zM) (S : zS) : Option (Int × zM × zS) :=
  zbx (F_X10_isGenerated M S) (fun e M S => if e = 3 then (some (1, M, S)) else (none)) fun r3 M4 S5 => ( if r3 = 0 then (F_L_isGenerated_J14 0 0 M4 S5) else (F_L_isGenerated_J14 0 1 M4 S5))
def F_L_rank (M : zM) (S : zS) : Option (Int × zM × zS) :=
  zbx (F_X10_rank M S) (fun e M S => if e = 3 then (some (1, M, S)) else (if e = 4 then (some (2, M, S)) else (none))) fun r1 M2 S3 => ( zlet (zs M2 76 0 r1) fun M11 => ( some (0, M11, S3)))
def F_L_derivationLength (M : zM) (S : zS) : Option (Int × zM × zS) :=
  zbx (F_X10_derivationLength M S) (fun e M S => if e = 3 then (some (1, M, S)) else (if e = 4 then (some (2, M, S)) else (none))) fun r1 M2 S3 => ( zlet (zs M2 76 0 r1) fun M11 => ( some (0, M11, S3)))
def F_L_derivationStep (v1 : Int) (v2 : Int) (M : zM) (S : zS) : Option (Int × zM × zS) :=
  zbx (F_X10_derivationStep v1 v2 M S) (fun e M S => if e = 1 then (some (1, M, S)) else (if e = 3 then (some (2, M, S)) else (if e = 4 then (some (3, M, S)) else (if e = 2 then (some (4, M, S)) else (none))))) fun r1 M2 S3 => ( zlet (zs M2 76 0 r1) fun M13 => ( some (0, M13, S3)))
def F_L_derivations (M : zM) (S : zS) : Option (Int × zM × zS) :=
  zbx (F_X10_derivations M S) (fun e M S => if e = 3 then (some (1, M, S)) else (none)) fun r1 M2 S3 => ( zlet (zs M2 76 0 r1) fun M10 => ( some (0, M10, S3)))
def F_L_insert (v1 : Int) (M : zM) (S : zS) : Option (Int × zM × zS) :=
  zbx (F_X10_insert v1 M S) (fun e M S => if e = 2 then (some (1, M, S)) else (none)) fun r1 M2 S3 => ( zlet (zs M2 76 0 r1) fun M10 => ( some (0, M10, S3)))
def F_L_reduce (v1 : Int) (M : zM) (S : zS) : Option (Int × zM × zS) :=
  zbx (F_X10_reduce v1 M S) (fun e M S => if e = 2 then (some (1, M, S)) else (none)) fun r1 M2 S3 => ( zlet (zs M2 76 0 r1) fun M10 => ( some (0, M10, S3)))
def F_L_normalize (v1 : Int) (M : zM) (S : zS) : Option (Int × zM × zS) :=
  zbx (F_X10_normalize v1 M S) (fun e M S => if e = 2 then (some (1, M, S)) else (none)) fun u4 M1 S2 => ( some (0, M1, S2))
def F_L_allocate (v1 : Int) (v2 : Int) (v3 : Int) (M : zM) (S : zS) : Option (Int × zM × zS) :=
  zbx (F_X10_allocate v1 v2 v3 M S) (fun e M S => if e = 2 then (some (1, M, S)) else (if e = 1 then (some (2, M, S)) else (none))) fun u4 M1 S2 => ( some (0, M1, S2))
def F_L_store (v1 : Int) (v2 : Int) (v3 : Int) (M : zM) (S : zS) : Option (Int × zM × zS) :=
  zbx (F_X10_store v1 v2 v3 M S) (fun e M S => if e = 2 then (some (1, M, S)) else (if e = 0 then (some (2, M, S)) else (none))) fun u4 M1 S2 => ( some (0, M1, S2))
def F_L_element (v1 : Int) (v2 : Int) (M : zM) (S : zS) : Option (Int × zM × zS) :=
  zbx (F_X10_element v1 v2 M S) (fun e M S => if e = 2 then (some (1, M, S)) else (if e = 0 then (some (2, M, S)) else (none))) fun r1 M2 S3 => ( zlet (zs M2 76 0 r1) fun M11 => ( some (0, M11, S3)))
def F_L_compareSizes (v1 : Int) (M : zM) (S : zS) : Option (Int × zM × zS) :=
  zbx (F_X10_compareSizes v1 M S) (fun e M S => if e = 2 then (some (1, M, S)) else (if e = 3 then (some (2, M, S)) else (if e = 0 then (some (3, M, S)) else (if e = 1 then (some (4, M, S)) else (none))))) fun r1 M2 S3 => ( zlet (zs M2 76 0 r1) fun M13 => ( some (0, M13, S3)))
def F_L_restore (M : zM) (S : zS) : Option (Int × zM × zS) :=
  zbx (F_X10_restore M S) (fun e M S => if e = 0 then (some (1, M, S)) else (none)) fun u4 M1 S2 => ( some (0, M1, S2))
def F_L_law_J1876 (ln : Int) (scr : Int → Int) (M : zM) (S : zS) : Option (Int × zM × zS) :=
  some (1, M, S)
def F_L_law_J1870 (ln : Int) (scr : Int → Int) (v5 : Int) (M : zM) (S : zS) : Option ((Int × zM × zS) ⊕ (zM × zS)) :=
  zlet (w (v5 + 4)) fun x1 => ( some (.inl (x1, M, S)))
def F_L_law_J212 (ln : Int) (scr : Int → Int) (v5 : Int) (M : zM) (S : zS) : Option ((Int × zM × zS) ⊕ (zM × zS)) :=
  zchk ((0 : Int) ≤ (w (v5 + 1)) ∧ (w (v5 + 1)) < ln) ( zb3 (F_L_append (zi2c (scr (w (v5 + 1)))) M S) fun r3 M4 S5 => ( zchk ((0 : Int) ≤ (w (v5 + 1)) ∧ (w (v5 + 1)) < ln) ( zb1 (F_X11_append (zi2c (scr (w (v5 + 1)))) M4) fun M8 => ( zb1 (F_X11_thrown M8) fun r10 => ( if r10 = r3 then (F_L_law_J1870 ln scr v5 M8 S5) else (none))))))
def F_L_law_J291 (ln : Int) (scr : Int → Int) (v5 : Int) (M : zM) (S : zS) : Option ((Int × zM × zS) ⊕ (zM × zS)) :=
  F_L_law_J1870 ln scr v5 M S
def F_L_law_J250 (ln : Int) (scr : Int → Int) (v5 : Int) (M : zM) (S : zS) : Option ((Int × zM × zS) ⊕ (zM × zS)) :=
  zb3 (F_L_define M S) fun r13 M14 S15 => ( zb2 (F_X11_define M14) fun r17 M18 => ( zb1 (F_X11_thrown M18) fun r20 => ( if r20 = r13 then (if r13 = 0 then (if (zcmp (M18 76 0) r17) = 0 then (F_L_law_J291 ln scr v5 M18 S15) else (none)) else (F_L_law_J291 ln scr v5 M18 S15)) else (none))))
def F_L_law_J294 (ln : Int) (scr : Int → Int) (v5 : Int) (M : zM) (S : zS) : Option ((Int × zM × zS) ⊕ (zM × zS)) :=
  zb1 (F_X10_faultPosition M) fun r26 => ( zb2 (F_X11_faultPosition M) fun r28 M29 => ( if r26 = r28 then (F_L_law_J1870 ln scr v5 M29 S) else (none)))
def F_L_law_J307 (ln : Int) (scr : Int → Int) (v5 : Int) (M : zM) (S : zS) : Option ((Int × zM × zS) ⊕ (zM × zS)) :=
  zchk ((0 : Int) ≤ (w (v5 + 1)) ∧ (w (v5 + 1)) < ln) ( zb3 (F_L_removeAxiom (scr (w (v5 + 1))) M S) fun r33 M34 S35 => ( zchk ((0 : Int) ≤ (w (v5 + 1)) ∧ (w (v5 + 1)) < ln) ( zb1 (F_X11_removeAxiom (scr (w (v5 + 1))) M34) fun M38 => ( zb1 (F_X11_thrown M38) fun r40 => ( if r40 = r33 then (F_L_law_J1870 ln scr v5 M38 S35) else (none))))))
def F_L_law_J343 (ln : Int) (scr : Int → Int) (v5 : Int) (M : zM) (S : zS) : Option ((Int × zM × zS) ⊕ (zM × zS)) :=
  zchk ((0 : Int) ≤ (w (v5 + 1)) ∧ (w (v5 + 1)) < ln) ( zb3 (F_L_removeContext (scr (w (v5 + 1))) M S) fun r44 M45 S46 => ( zchk ((0 : Int) ≤ (w (v5 + 1)) ∧ (w (v5 + 1)) < ln) ( zb1 (F_X11_removeContext (scr (w (v5 + 1))) M45) fun M49 => ( zb1 (F_X11_thrown M49) fun r51 => ( if r51 = r44 then (F_L_law_J1870 ln scr v5 M49 S46) else (none))))))
def F_L_law_J432 (ln : Int) (scr : Int → Int) (v5 : Int) (M : zM) (S : zS) : Option ((Int × zM × zS) ⊕ (zM × zS)) :=
  F_L_law_J1870 ln scr v5 M S
def F_L_law_J379 (ln : Int) (scr : Int → Int) (v5 : Int) (M : zM) (S : zS) : Option ((Int × zM × zS) ⊕ (zM × zS)) :=
  zchk ((0 : Int) ≤ (w (v5 + 1)) ∧ (w (v5 + 1)) < ln) ( zb3 (F_L_count (scr (w (v5 + 1))) M S) fun r55 M56 S57 => ( zchk ((0 : Int) ≤ (w (v5 + 1)) ∧ (w (v5 + 1)) < ln) ( zb2 (F_X11_count (scr (w (v5 + 1))) M56) fun r60 M61 => ( zb1 (F_X11_thrown M61) fun r63 => ( if r63 = r55 then (if r55 = 0 then (if (zcmp (M61 76 0) r60) = 0 then (F_L_law_J432 ln scr v5 M61 S57) else (none)) else (F_L_law_J432 ln scr v5 M61 S57)) else (none))))))
def F_L_law_J476 (ln : Int) (scr : Int → Int) (v5 : Int) (M : zM) (S : zS) : Option ((Int × zM × zS) ⊕ (zM × zS)) :=
  F_L_law_J1870 ln scr v5 M S
def F_L_law_J435 (ln : Int) (scr : Int → Int) (v5 : Int) (M : zM) (S : zS) : Option ((Int × zM × zS) ⊕ (zM × zS)) :=
  zb3 (F_L_size M S) fun r69 M70 S71 => ( zb2 (F_X11_size M70) fun r73 M74 => ( zb1 (F_X11_thrown M74) fun r76 => ( if r76 = r69 then (if r69 = 0 then (if (zcmp (M74 76 0) r73) = 0 then (F_L_law_J476 ln scr v5 M74 S71) else (none)) else (F_L_law_J476 ln scr v5 M74 S71)) else (none))))
def F_L_law_J532 (ln : Int) (scr : Int → Int) (v5 : Int) (M : zM) (S : zS) : Option ((Int × zM × zS) ⊕ (zM × zS)) :=
  F_L_law_J1870 ln scr v5 M S
def F_L_law_J479 (ln : Int) (scr : Int → Int) (v5 : Int) (M : zM) (S : zS) : Option ((Int × zM × zS) ⊕ (zM × zS)) :=
  zchk ((0 : Int) ≤ (w (v5 + 1)) ∧ (w (v5 + 1)) < ln) ( zb3 (F_L_sizeOf (scr (w (v5 + 1))) M S) fun r83 M84 S85 => ( zchk ((0 : Int) ≤ (w (v5 + 1)) ∧ (w (v5 + 1)) < ln) ( zb2 (F_X11_sizeOf (scr (w (v5 + 1))) M84) fun r88 M89 => ( zb1 (F_X11_thrown M89) fun r91 => ( if r91 = r83 then (if r83 = 0 then (if (zcmp (M89 76 0) r88) = 0 then (F_L_law_J532 ln scr v5 M89 S85) else (none)) else (F_L_law_J532 ln scr v5 M89 S85)) else (none))))))
def F_L_law_J609 (ln : Int) (scr : Int → Int) (v5 : Int) (M : zM) (S : zS) : Option ((Int × zM × zS) ⊕ (zM × zS)) :=
  F_L_law_J1870 ln scr v5 M S
def F_L_law_J535 (ln : Int) (scr : Int → Int) (v5 : Int) (M : zM) (S : zS) : Option ((Int × zM × zS) ⊕ (zM × zS)) :=
  zchk ((0 : Int) ≤ (w (v5 + 1)) ∧ (w (v5 + 1)) < ln) ( zb3 (F_L_density (scr (w (v5 + 1))) M S) fun r98 M99 S100 => ( zchk ((0 : Int) ≤ (w (v5 + 1)) ∧ (w (v5 + 1)) < ln) ( zb2 (F_X11_density (scr (w (v5 + 1))) M99) fun r103 M104 => ( zb1 (F_X11_thrown M104) fun r106 => ( if r106 = r98 then (if r98 = 0 then (if (zdcl (zd (M104 77 0)) r103) = 0 then (F_L_law_J609 ln scr v5 M104 S100) else (if (zdcl (zd (M104 77 0)) (zd (M104 77 0))) = 0 then (none) else (if (zdcl r103 r103) = 0 then (none) else (F_L_law_J609 ln scr v5 M104 S100)))) else (F_L_law_J609 ln scr v5 M104 S100)) else (none))))))
def F_L_law_J672 (ln : Int) (scr : Int → Int) (v5 : Int) (M : zM) (S : zS) : Option ((Int × zM × zS) ⊕ (zM × zS)) :=
  F_L_law_J1870 ln scr v5 M S
def F_L_law_J666 (ln : Int) (scr : Int → Int) (v5 : Int) (t0 : Int) (t1 : Int) (M : zM) (S : zS) : Option ((Int × zM × zS) ⊕ (zM × zS)) :=
  if (zcmp t0 t1) = 0 then (F_L_law_J672 ln scr v5 M S) else (none)
def F_L_law_J612 (ln : Int) (scr : Int → Int) (v5 : Int) (M : zM) (S : zS) : Option ((Int × zM × zS) ⊕ (zM × zS)) :=
  zchk ((0 : Int) ≤ (w (v5 + 1)) ∧ (w (v5 + 1)) < ln) ( zb3 (F_L_isUsed (scr (w (v5 + 1))) M S) fun r118 M119 S120 => ( zchk ((0 : Int) ≤ (w (v5 + 1)) ∧ (w (v5 + 1)) < ln) ( zb2 (F_X11_isUsed (scr (w (v5 + 1))) M119) fun r123 M124 => ( zb1 (F_X11_thrown M124) fun r126 => ( if r126 = r118 then (if r118 = 0 then (if r123 = 0 then (F_L_law_J666 ln scr v5 (M124 76 0) 0 M124 S120) else (F_L_law_J666 ln scr v5 (M124 76 0) 1 M124 S120)) else (F_L_law_J672 ln scr v5 M124 S120)) else (none))))))
def F_L_law_J735 (ln : Int) (scr : Int → Int) (v5 : Int) (M : zM) (S : zS) : Option ((Int × zM × zS) ⊕ (zM × zS)) :=
  F_L_law_J1870 ln scr v5 M S
def F_L_law_J729 (ln : Int) (scr : Int → Int) (v5 : Int) (t0 : Int) (t1 : Int) (M : zM) (S : zS) : Option ((Int × zM × zS) ⊕ (zM × zS)) :=
  if (zcmp t0 t1) = 0 then (F_L_law_J735 ln scr v5 M S) else (none)
def F_L_law_J675 (ln : Int) (scr : Int → Int) (v5 : Int) (M : zM) (S : zS) : Option ((Int × zM × zS) ⊕ (zM × zS)) :=
  zchk ((0 : Int) ≤ (w (v5 + 1)) ∧ (w (v5 + 1)) < ln) ( zb3 (F_L_isRedundant (scr (w (v5 + 1))) M S) fun r134 M135 S136 => ( zchk ((0 : Int) ≤ (w (v5 + 1)) ∧ (w (v5 + 1)) < ln) ( zb2 (F_X11_isRedundant (scr (w (v5 + 1))) M135) fun r139 M140 => ( zb1 (F_X11_thrown M140) fun r142 => ( if r142 = r134 then (if r134 = 0 then (if r139 = 0 then (F_L_law_J729 ln scr v5 (M140 76 0) 0 M140 S136) else (F_L_law_J729 ln scr v5 (M140 76 0) 1 M140 S136)) else (F_L_law_J735 ln scr v5 M140 S136)) else (none))))))
def F_L_law_J779 (ln : Int) (scr : Int → Int) (v5 : Int) (M : zM) (S : zS) : Option ((Int × zM × zS) ⊕ (zM × zS)) :=
  F_L_law_J1870 ln scr v5 M S
def F_L_law_J738 (ln : Int) (scr : Int → Int) (v5 : Int) (M : zM) (S : zS) : Option ((Int × zM × zS) ⊕ (zM × zS)) :=
  zb3 (F_L_minimalContexts M S) fun r148 M149 S150 => ( zb2 (F_X11_minimalContexts M149) fun r152 M153 => ( zb1 (F_X11_thrown M153) fun r155 => ( if r155 = r148 then (if r148 = 0 then (if (zcmp (M153 76 0) r152) = 0 then (F_L_law_J779 ln scr v5 M153 S150) else (none)) else (F_L_law_J779 ln scr v5 M153 S150)) else (none))))
def F_L_law_J854 (ln : Int) (scr : Int → Int) (v5 : Int) (M : zM) (S : zS) : Option ((Int × zM × zS) ⊕ (zM × zS)) :=
  F_L_law_J1870 ln scr v5 M S
def F_L_law_J848 (ln : Int) (scr : Int → Int) (v5 : Int) (t0 : Int) (t1 : Int) (M : zM) (S : zS) : Option ((Int × zM × zS) ⊕ (zM × zS)) :=
  if (zcmp t0 t1) = 0 then (F_L_law_J854 ln scr v5 M S) else (none)
def F_L_law_J782 (ln : Int) (scr : Int → Int) (v5 : Int) (M : zM) (S : zS) : Option ((Int × zM × zS) ⊕ (zM × zS)) :=
  zchk ((0 : Int) ≤ (w (v5 + 1)) ∧ (w (v5 + 1)) < ln) ( zchk ((0 : Int) ≤ (w (v5 + 2)) ∧ (w (v5 + 2)) < ln) ( zb3 (F_L_canFollow (scr (w (v5 + 1))) (scr (w (v5 + 2))) M S) fun r164 M165 S166 => ( zchk ((0 : Int) ≤ (w (v5 + 1)) ∧ (w (v5 + 1)) < ln) ( zchk ((0 : Int) ≤ (w (v5 + 2)) ∧ (w (v5 + 2)) < ln) ( zb2 (F_X11_canFollow (scr (w (v5 + 1))) (scr (w (v5 + 2))) M165) fun r170 M171 => ( zb1 (F_X11_thrown M171) fun r173 => ( if r173 = r164 then (if r164 = 0 then (if r170 = 0 then (F_L_law_J848 ln scr v5 (M171 76 0) 0 M171 S166) else (F_L_law_J848 ln scr v5 (M171 76 0) 1 M171 S166)) else (F_L_law_J854 ln scr v5 M171 S166)) else (none))))))))
def F_L_law_J910 (ln : Int) (scr : Int → Int) (v5 : Int) (M : zM) (S : zS) : Option ((Int × zM × zS) ⊕ (zM × zS)) :=
  F_L_law_J1870 ln scr v5 M S
def F_L_law_J857 (ln : Int) (scr : Int → Int) (v5 : Int) (M : zM) (S : zS) : Option ((Int × zM × zS) ⊕ (zM × zS)) :=
  zchk ((0 : Int) ≤ (w (v5 + 1)) ∧ (w (v5 + 1)) < ln) ( zb3 (F_L_shortestLoop (scr (w (v5 + 1))) M S) fun r180 M181 S182 => ( zchk ((0 : Int) ≤ (w (v5 + 1)) ∧ (w (v5 + 1)) < ln) ( zb2 (F_X11_shortestLoop (scr (w (v5 + 1))) M181) fun r185 M186 => ( zb1 (F_X11_thrown M186) fun r188 => ( if r188 = r180 then (if r180 = 0 then (if (zcmp (M186 76 0) r185) = 0 then (F_L_law_J910 ln scr v5 M186 S182) else (none)) else (F_L_law_J910 ln scr v5 M186 S182)) else (none))))))
def F_L_law_J961 (ln : Int) (scr : Int → Int) (v5 : Int) (M : zM) (S : zS) : Option ((Int × zM × zS) ⊕ (zM × zS)) :=
  F_L_law_J1870 ln scr v5 M S
def F_L_law_J955 (ln : Int) (scr : Int → Int) (v5 : Int) (t0 : Int) (t1 : Int) (M : zM) (S : zS) : Option ((Int × zM × zS) ⊕ (zM × zS)) :=
  if (zcmp t0 t1) = 0 then (F_L_law_J961 ln scr v5 M S) else (none)
def F_L_law_J913 (ln : Int) (scr : Int → Int) (v5 : Int) (M : zM) (S : zS) : Option ((Int × zM × zS) ⊕ (zM × zS)) :=
  zb3 (F_L_isConfluent M S) fun r195 M196 S197 => ( zb2 (F_X11_isConfluent M196) fun r199 M200 => ( zb1 (F_X11_thrown M200) fun r202 => ( if r202 = r195 then (if r195 = 0 then (if r199 = 0 then (F_L_law_J955 ln scr v5 (M200 76 0) 0 M200 S197) else (F_L_law_J955 ln scr v5 (M200 76 0) 1 M200 S197)) else (F_L_law_J961 ln scr v5 M200 S197)) else (none))))
def F_L_law_J964 (ln : Int) (scr : Int → Int) (v5 : Int) (M : zM) (S : zS) : Option ((Int × zM × zS) ⊕ (zM × zS)) :=
  zb1 (F_X10_clearWord M) fun M208 => ( zb1 (F_X11_clearWord M208) fun M210 => ( F_L_law_J1870 ln scr v5 M210 S))
def F_L_law_J975 (ln : Int) (scr : Int → Int) (v5 : Int) (M : zM) (S : zS) : Option ((Int × zM × zS) ⊕ (zM × zS)) :=
  zchk ((0 : Int) ≤ (w (v5 + 1)) ∧ (w (v5 + 1)) < ln) ( zb3 (F_L_addLetter (zi2c (scr (w (v5 + 1)))) M S) fun r213 M214 S215 => ( zchk ((0 : Int) ≤ (w (v5 + 1)) ∧ (w (v5 + 1)) < ln) ( zb1 (F_X11_addLetter (zi2c (scr (w (v5 + 1)))) M214) fun M218 => ( zb1 (F_X11_thrown M218) fun r220 => ( if r220 = r213 then (F_L_law_J1870 ln scr v5 M218 S215) else (none))))))
def F_L_law_J1013 (ln : Int) (scr : Int → Int) (v5 : Int) (M : zM) (S : zS) : Option ((Int × zM × zS) ⊕ (zM × zS)) :=
  zchk ((0 : Int) ≤ (w (v5 + 1)) ∧ (w (v5 + 1)) < ln) ( zb3 (F_L_takeAxiom (scr (w (v5 + 1))) M S) fun r224 M225 S226 => ( zchk ((0 : Int) ≤ (w (v5 + 1)) ∧ (w (v5 + 1)) < ln) ( zb1 (F_X11_takeAxiom (scr (w (v5 + 1))) M225) fun M229 => ( zb1 (F_X11_thrown M229) fun r231 => ( if r231 = r224 then (F_L_law_J1870 ln scr v5 M229 S226) else (none))))))
def F_L_law_J1049 (ln : Int) (scr : Int → Int) (v5 : Int) (M : zM) (S : zS) : Option ((Int × zM × zS) ⊕ (zM × zS)) :=
  zchk ((0 : Int) ≤ (w (v5 + 1)) ∧ (w (v5 + 1)) < ln) ( zb3 (F_L_takeWord (scr (w (v5 + 1))) M S) fun r235 M236 S237 => ( zchk ((0 : Int) ≤ (w (v5 + 1)) ∧ (w (v5 + 1)) < ln) ( zb1 (F_X11_takeWord (scr (w (v5 + 1))) M236) fun M240 => ( zb1 (F_X11_thrown M240) fun r242 => ( if r242 = r235 then (F_L_law_J1870 ln scr v5 M240 S237) else (none))))))
def F_L_law_J1085 (ln : Int) (scr : Int → Int) (v5 : Int) (M : zM) (S : zS) : Option ((Int × zM × zS) ⊕ (zM × zS)) :=
  zb1 (F_X10_wordLength M) fun r245 => ( zb2 (F_X11_wordLength M) fun r247 M248 => ( if r245 = r247 then (F_L_law_J1870 ln scr v5 M248 S) else (none)))
def F_L_law_J1151 (ln : Int) (scr : Int → Int) (v5 : Int) (M : zM) (S : zS) : Option ((Int × zM × zS) ⊕ (zM × zS)) :=
  F_L_law_J1870 ln scr v5 M S
def F_L_law_J1098 (ln : Int) (scr : Int → Int) (v5 : Int) (M : zM) (S : zS) : Option ((Int × zM × zS) ⊕ (zM × zS)) :=
  zchk ((0 : Int) ≤ (w (v5 + 1)) ∧ (w (v5 + 1)) < ln) ( zb3 (F_L_letterAt (scr (w (v5 + 1))) M S) fun r252 M253 S254 => ( zchk ((0 : Int) ≤ (w (v5 + 1)) ∧ (w (v5 + 1)) < ln) ( zb2 (F_X11_letterAt (scr (w (v5 + 1))) M253) fun r257 M258 => ( zb1 (F_X11_thrown M258) fun r260 => ( if r260 = r252 then (if r252 = 0 then (if (zcmp (M258 76 0) r257) = 0 then (F_L_law_J1151 ln scr v5 M258 S254) else (none)) else (F_L_law_J1151 ln scr v5 M258 S254)) else (none))))))
def F_L_law_J1202 (ln : Int) (scr : Int → Int) (v5 : Int) (M : zM) (S : zS) : Option ((Int × zM × zS) ⊕ (zM × zS)) :=
  F_L_law_J1870 ln scr v5 M S
def F_L_law_J1196 (ln : Int) (scr : Int → Int) (v5 : Int) (t0 : Int) (t1 : Int) (M : zM) (S : zS) : Option ((Int × zM × zS) ⊕ (zM × zS)) :=
  if (zcmp t0 t1) = 0 then (F_L_law_J1202 ln scr v5 M S) else (none)
def F_L_law_J1154 (ln : Int) (scr : Int → Int) (v5 : Int) (M : zM) (S : zS) : Option ((Int × zM × zS) ⊕ (zM × zS)) :=
  zb3 (F_L_isGenerated M S) fun r267 M268 S269 => ( zb2 (F_X11_isGenerated M268) fun r271 M272 => ( zb1 (F_X11_thrown M272) fun r274 => ( if r274 = r267 then (if r267 = 0 then (if r271 = 0 then (F_L_law_J1196 ln scr v5 (M272 76 0) 0 M272 S269) else (F_L_law_J1196 ln scr v5 (M272 76 0) 1 M272 S269)) else (F_L_law_J1202 ln scr v5 M272 S269)) else (none))))
def F_L_law_J1246 (ln : Int) (scr : Int → Int) (v5 : Int) (M : zM) (S : zS) : Option ((Int × zM × zS) ⊕ (zM × zS)) :=
  F_L_law_J1870 ln scr v5 M S
def F_L_law_J1205 (ln : Int) (scr : Int → Int) (v5 : Int) (M : zM) (S : zS) : Option ((Int × zM × zS) ⊕ (zM × zS)) :=
  zb3 (F_L_rank M S) fun r280 M281 S282 => ( zb2 (F_X11_rank M281) fun r284 M285 => ( zb1 (F_X11_thrown M285) fun r287 => ( if r287 = r280 then (if r280 = 0 then (if (zcmp (M285 76 0) r284) = 0 then (F_L_law_J1246 ln scr v5 M285 S282) else (none)) else (F_L_law_J1246 ln scr v5 M285 S282)) else (none))))
def F_L_law_J1290 (ln : Int) (scr : Int → Int) (v5 : Int) (M : zM) (S : zS) : Option ((Int × zM × zS) ⊕ (zM × zS)) :=
  F_L_law_J1870 ln scr v5 M S
def F_L_law_J1249 (ln : Int) (scr : Int → Int) (v5 : Int) (M : zM) (S : zS) : Option ((Int × zM × zS) ⊕ (zM × zS)) :=
  zb3 (F_L_derivationLength M S) fun r293 M294 S295 => ( zb2 (F_X11_derivationLength M294) fun r297 M298 => ( zb1 (F_X11_thrown M298) fun r300 => ( if r300 = r293 then (if r293 = 0 then (if (zcmp (M298 76 0) r297) = 0 then (F_L_law_J1290 ln scr v5 M298 S295) else (none)) else (F_L_law_J1290 ln scr v5 M298 S295)) else (none))))
def F_L_law_J1358 (ln : Int) (scr : Int → Int) (v5 : Int) (M : zM) (S : zS) : Option ((Int × zM × zS) ⊕ (zM × zS)) :=
  F_L_law_J1870 ln scr v5 M S
def F_L_law_J1293 (ln : Int) (scr : Int → Int) (v5 : Int) (M : zM) (S : zS) : Option ((Int × zM × zS) ⊕ (zM × zS)) :=
  zchk ((0 : Int) ≤ (w (v5 + 1)) ∧ (w (v5 + 1)) < ln) ( zchk ((0 : Int) ≤ (w (v5 + 2)) ∧ (w (v5 + 2)) < ln) ( zb3 (F_L_derivationStep (scr (w (v5 + 1))) (scr (w (v5 + 2))) M S) fun r308 M309 S310 => ( zchk ((0 : Int) ≤ (w (v5 + 1)) ∧ (w (v5 + 1)) < ln) ( zchk ((0 : Int) ≤ (w (v5 + 2)) ∧ (w (v5 + 2)) < ln) ( zb2 (F_X11_derivationStep (scr (w (v5 + 1))) (scr (w (v5 + 2))) M309) fun r314 M315 => ( zb1 (F_X11_thrown M315) fun r317 => ( if r317 = r308 then (if r308 = 0 then (if (zcmp (M315 76 0) r314) = 0 then (F_L_law_J1358 ln scr v5 M315 S310) else (none)) else (F_L_law_J1358 ln scr v5 M315 S310)) else (none))))))))
def F_L_law_J1401 (ln : Int) (scr : Int → Int) (v5 : Int) (M : zM) (S : zS) : Option ((Int × zM × zS) ⊕ (zM × zS)) :=
  F_L_law_J1870 ln scr v5 M S
def F_L_law_J1361 (ln : Int) (scr : Int → Int) (v5 : Int) (M : zM) (S : zS) : Option ((Int × zM × zS) ⊕ (zM × zS)) :=
  zb3 (F_L_derivations M S) fun r323 M324 S325 => ( zb2 (F_X11_derivations M324) fun r327 M328 => ( zb1 (F_X11_thrown M328) fun r330 => ( if r330 = r323 then (if r323 = 0 then (if (zcmp (M328 76 0) r327) = 0 then (F_L_law_J1401 ln scr v5 M328 S325) else (none)) else (F_L_law_J1401 ln scr v5 M328 S325)) else (none))))
def F_L_law_J1404 (ln : Int) (scr : Int → Int) (v5 : Int) (M : zM) (S : zS) : Option ((Int × zM × zS) ⊕ (zM × zS)) :=
  zb2 (F_X10_insertions M S) fun r336 M337 => ( zb2 (F_X11_insertions M337) fun r339 M340 => ( if r336 = r339 then (F_L_law_J1870 ln scr v5 M340 S) else (none)))
def F_L_law_J1470 (ln : Int) (scr : Int → Int) (v5 : Int) (M : zM) (S : zS) : Option ((Int × zM × zS) ⊕ (zM × zS)) :=
  F_L_law_J1870 ln scr v5 M S
def F_L_law_J1417 (ln : Int) (scr : Int → Int) (v5 : Int) (M : zM) (S : zS) : Option ((Int × zM × zS) ⊕ (zM × zS)) :=
  zchk ((0 : Int) ≤ (w (v5 + 1)) ∧ (w (v5 + 1)) < ln) ( zb3 (F_L_insert (scr (w (v5 + 1))) M S) fun r344 M345 S346 => ( zchk ((0 : Int) ≤ (w (v5 + 1)) ∧ (w (v5 + 1)) < ln) ( zb2 (F_X11_insert (scr (w (v5 + 1))) M345) fun r349 M350 => ( zb1 (F_X11_thrown M350) fun r352 => ( if r352 = r344 then (if r344 = 0 then (if (zcmp (M350 76 0) r349) = 0 then (F_L_law_J1470 ln scr v5 M350 S346) else (none)) else (F_L_law_J1470 ln scr v5 M350 S346)) else (none))))))
def F_L_law_J1473 (ln : Int) (scr : Int → Int) (v5 : Int) (M : zM) (S : zS) : Option ((Int × zM × zS) ⊕ (zM × zS)) :=
  zb2 (F_X10_reductions M S) fun r358 M359 => ( zb2 (F_X11_reductions M359) fun r361 M362 => ( if r358 = r361 then (F_L_law_J1870 ln scr v5 M362 S) else (none)))
def F_L_law_J1539 (ln : Int) (scr : Int → Int) (v5 : Int) (M : zM) (S : zS) : Option ((Int × zM × zS) ⊕ (zM × zS)) :=
  F_L_law_J1870 ln scr v5 M S
def F_L_law_J1486 (ln : Int) (scr : Int → Int) (v5 : Int) (M : zM) (S : zS) : Option ((Int × zM × zS) ⊕ (zM × zS)) :=
  zchk ((0 : Int) ≤ (w (v5 + 1)) ∧ (w (v5 + 1)) < ln) ( zb3 (F_L_reduce (scr (w (v5 + 1))) M S) fun r366 M367 S368 => ( zchk ((0 : Int) ≤ (w (v5 + 1)) ∧ (w (v5 + 1)) < ln) ( zb2 (F_X11_reduce (scr (w (v5 + 1))) M367) fun r371 M372 => ( zb1 (F_X11_thrown M372) fun r374 => ( if r374 = r366 then (if r366 = 0 then (if (zcmp (M372 76 0) r371) = 0 then (F_L_law_J1539 ln scr v5 M372 S368) else (none)) else (F_L_law_J1539 ln scr v5 M372 S368)) else (none))))))
def F_L_law_J1542 (ln : Int) (scr : Int → Int) (v5 : Int) (M : zM) (S : zS) : Option ((Int × zM × zS) ⊕ (zM × zS)) :=
  zb2 (F_X10_normalForms M S) fun r380 M381 => ( zb2 (F_X11_normalForms M381) fun r383 M384 => ( if r380 = r383 then (F_L_law_J1870 ln scr v5 M384 S) else (none)))
def F_L_law_J1555 (ln : Int) (scr : Int → Int) (v5 : Int) (M : zM) (S : zS) : Option ((Int × zM × zS) ⊕ (zM × zS)) :=
  zchk ((0 : Int) ≤ (w (v5 + 1)) ∧ (w (v5 + 1)) < ln) ( zb3 (F_L_normalize (scr (w (v5 + 1))) M S) fun r388 M389 S390 => ( zchk ((0 : Int) ≤ (w (v5 + 1)) ∧ (w (v5 + 1)) < ln) ( zb1 (F_X11_normalize (scr (w (v5 + 1))) M389) fun M393 => ( zb1 (F_X11_thrown M393) fun r395 => ( if r395 = r388 then (F_L_law_J1870 ln scr v5 M393 S390) else (none))))))
def F_L_law_J1591 (ln : Int) (scr : Int → Int) (v5 : Int) (M : zM) (S : zS) : Option ((Int × zM × zS) ⊕ (zM × zS)) :=
  zchk ((0 : Int) ≤ (w (v5 + 1)) ∧ (w (v5 + 1)) < ln) ( zchk ((0 : Int) ≤ (w (v5 + 2)) ∧ (w (v5 + 2)) < ln) ( zchk ((0 : Int) ≤ (w (v5 + 3)) ∧ (w (v5 + 3)) < ln) ( zb3 (F_L_allocate (scr (w (v5 + 1))) (scr (w (v5 + 2))) (scr (w (v5 + 3))) M S) fun r401 M402 S403 => ( zchk ((0 : Int) ≤ (w (v5 + 1)) ∧ (w (v5 + 1)) < ln) ( zchk ((0 : Int) ≤ (w (v5 + 2)) ∧ (w (v5 + 2)) < ln) ( zchk ((0 : Int) ≤ (w (v5 + 3)) ∧ (w (v5 + 3)) < ln) ( zb1 (F_X11_allocate (scr (w (v5 + 1))) (scr (w (v5 + 2))) (scr (w (v5 + 3))) M402) fun M408 => ( zb1 (F_X11_thrown M408) fun r410 => ( if r410 = r401 then (F_L_law_J1870 ln scr v5 M408 S403) else (none))))))))))
def F_L_law_J1651 (ln : Int) (scr : Int → Int) (v5 : Int) (M : zM) (S : zS) : Option ((Int × zM × zS) ⊕ (zM × zS)) :=
  zchk ((0 : Int) ≤ (w (v5 + 1)) ∧ (w (v5 + 1)) < ln) ( zchk ((0 : Int) ≤ (w (v5 + 2)) ∧ (w (v5 + 2)) < ln) ( zchk ((0 : Int) ≤ (w (v5 + 3)) ∧ (w (v5 + 3)) < ln) ( zb3 (F_L_store (scr (w (v5 + 1))) (scr (w (v5 + 2))) (scr (w (v5 + 3))) M S) fun r416 M417 S418 => ( zchk ((0 : Int) ≤ (w (v5 + 1)) ∧ (w (v5 + 1)) < ln) ( zchk ((0 : Int) ≤ (w (v5 + 2)) ∧ (w (v5 + 2)) < ln) ( zchk ((0 : Int) ≤ (w (v5 + 3)) ∧ (w (v5 + 3)) < ln) ( zb1 (F_X11_store (scr (w (v5 + 1))) (scr (w (v5 + 2))) (scr (w (v5 + 3))) M417) fun M423 => ( zb1 (F_X11_thrown M423) fun r425 => ( if r425 = r416 then (F_L_law_J1870 ln scr v5 M423 S418) else (none))))))))))
def F_L_law_J1776 (ln : Int) (scr : Int → Int) (v5 : Int) (M : zM) (S : zS) : Option ((Int × zM × zS) ⊕ (zM × zS)) :=
  F_L_law_J1870 ln scr v5 M S
def F_L_law_J1711 (ln : Int) (scr : Int → Int) (v5 : Int) (M : zM) (S : zS) : Option ((Int × zM × zS) ⊕ (zM × zS)) :=
  zchk ((0 : Int) ≤ (w (v5 + 1)) ∧ (w (v5 + 1)) < ln) ( zchk ((0 : Int) ≤ (w (v5 + 2)) ∧ (w (v5 + 2)) < ln) ( zb3 (F_L_element (scr (w (v5 + 1))) (scr (w (v5 + 2))) M S) fun r430 M431 S432 => ( zchk ((0 : Int) ≤ (w (v5 + 1)) ∧ (w (v5 + 1)) < ln) ( zchk ((0 : Int) ≤ (w (v5 + 2)) ∧ (w (v5 + 2)) < ln) ( zb2 (F_X11_element (scr (w (v5 + 1))) (scr (w (v5 + 2))) M431) fun r436 M437 => ( zb1 (F_X11_thrown M437) fun r439 => ( if r439 = r430 then (if r430 = 0 then (if (zcmp (M437 76 0) r436) = 0 then (F_L_law_J1776 ln scr v5 M437 S432) else (none)) else (F_L_law_J1776 ln scr v5 M437 S432)) else (none))))))))
def F_L_law_J1832 (ln : Int) (scr : Int → Int) (v5 : Int) (M : zM) (S : zS) : Option ((Int × zM × zS) ⊕ (zM × zS)) :=
  F_L_law_J1870 ln scr v5 M S
def F_L_law_J1779 (ln : Int) (scr : Int → Int) (v5 : Int) (M : zM) (S : zS) : Option ((Int × zM × zS) ⊕ (zM × zS)) :=
  zchk ((0 : Int) ≤ (w (v5 + 1)) ∧ (w (v5 + 1)) < ln) ( zb3 (F_L_compareSizes (scr (w (v5 + 1))) M S) fun r446 M447 S448 => ( zchk ((0 : Int) ≤ (w (v5 + 1)) ∧ (w (v5 + 1)) < ln) ( zb2 (F_X11_compareSizes (scr (w (v5 + 1))) M447) fun r451 M452 => ( zb1 (F_X11_thrown M452) fun r454 => ( if r454 = r446 then (if r446 = 0 then (if (zcmp (M452 76 0) r451) = 0 then (F_L_law_J1832 ln scr v5 M452 S448) else (none)) else (F_L_law_J1832 ln scr v5 M452 S448)) else (none))))))
def F_L_law_J1835 (ln : Int) (scr : Int → Int) (v5 : Int) (M : zM) (S : zS) : Option ((Int × zM × zS) ⊕ (zM × zS)) :=
  zb2 (F_X10_save M S) fun M460 S461 => ( zb1 (F_X11_save M460) fun M464 => ( F_L_law_J1870 ln scr v5 M464 S461))
def F_L_law_J1846 (ln : Int) (scr : Int → Int) (v5 : Int) (M : zM) (S : zS) : Option ((Int × zM × zS) ⊕ (zM × zS)) :=
  zb3 (F_L_restore M S) fun r466 M467 S468 => ( zb1 (F_X11_restore M467) fun M470 => ( zb1 (F_X11_thrown M470) fun r472 => ( if r472 = r466 then (F_L_law_J1870 ln scr v5 M470 S468) else (none))))
def F_L_law_B28 (ln : Int) (scr : Int → Int) (v5 : Int) (M : zM) (S : zS) : Option ((Int × zM × zS) ⊕ (zM × zS)) :=
  if (w (ln - 4)) < v5 then (some (.inr (M, S))) else (zchk ((0 : Int) ≤ v5 ∧ v5 < ln) ( if (zand (scr v5) 63) = 0 then (F_L_law_J212 ln scr v5 M S) else (if (zand (scr v5) 63) = 1 then (F_L_law_J250 ln scr v5 M S) else (if (zand (scr v5) 63) = 2 then (F_L_law_J294 ln scr v5 M S) else (if (zand (scr v5) 63) = 3 then (F_L_law_J307 ln scr v5 M S) else (if (zand (scr v5) 63) = 4 then (F_L_law_J343 ln scr v5 M S) else (if (zand (scr v5) 63) = 5 then (F_L_law_J379 ln scr v5 M S) else (if (zand (scr v5) 63) = 6 then (F_L_law_J435 ln scr v5 M S) else (if (zand (scr v5) 63) = 7 then (F_L_law_J479 ln scr v5 M S) else (if (zand (scr v5) 63) = 8 then (F_L_law_J535 ln scr v5 M S) else (if (zand (scr v5) 63) = 9 then (F_L_law_J612 ln scr v5 M S) else (if (zand (scr v5) 63) = 10 then (F_L_law_J675 ln scr v5 M S) else (if (zand (scr v5) 63) = 11 then (F_L_law_J738 ln scr v5 M S) else (if (zand (scr v5) 63) = 12 then (F_L_law_J782 ln scr v5 M S) else (if (zand (scr v5) 63) = 13 then (F_L_law_J857 ln scr v5 M S) else (if (zand (scr v5) 63) = 14 then (F_L_law_J913 ln scr v5 M S) else (if (zand (scr v5) 63) = 15 then (F_L_law_J964 ln scr v5 M S) else (if (zand (scr v5) 63) = 16 then (F_L_law_J975 ln scr v5 M S) else (if (zand (scr v5) 63) = 17 then (F_L_law_J1013 ln scr v5 M S) else (if (zand (scr v5) 63) = 18 then (F_L_law_J1049 ln scr v5 M S) else (if (zand (scr v5) 63) = 19 then (F_L_law_J1085 ln scr v5 M S) else (if (zand (scr v5) 63) = 20 then (F_L_law_J1098 ln scr v5 M S) else (if (zand (scr v5) 63) = 21 then (F_L_law_J1154 ln scr v5 M S) else (if (zand (scr v5) 63) = 22 then (F_L_law_J1205 ln scr v5 M S) else (if (zand (scr v5) 63) = 23 then (F_L_law_J1249 ln scr v5 M S) else (if (zand (scr v5) 63) = 24 then (F_L_law_J1293 ln scr v5 M S) else (if (zand (scr v5) 63) = 25 then (F_L_law_J1361 ln scr v5 M S) else (if (zand (scr v5) 63) = 26 then (F_L_law_J1404 ln scr v5 M S) else (if (zand (scr v5) 63) = 27 then (F_L_law_J1417 ln scr v5 M S) else (if (zand (scr v5) 63) = 28 then (F_L_law_J1473 ln scr v5 M S) else (if (zand (scr v5) 63) = 29 then (F_L_law_J1486 ln scr v5 M S) else (if (zand (scr v5) 63) = 30 then (F_L_law_J1542 ln scr v5 M S) else (if (zand (scr v5) 63) = 31 then (F_L_law_J1555 ln scr v5 M S) else (if (zand (scr v5) 63) = 32 then (F_L_law_J1591 ln scr v5 M S) else (if (zand (scr v5) 63) = 33 then (F_L_law_J1651 ln scr v5 M S) else (if (zand (scr v5) 63) = 34 then (F_L_law_J1711 ln scr v5 M S) else (if (zand (scr v5) 63) = 35 then (F_L_law_J1779 ln scr v5 M S) else (if (zand (scr v5) 63) = 36 then (F_L_law_J1835 ln scr v5 M S) else (if (zand (scr v5) 63) = 37 then (F_L_law_J1846 ln scr v5 M S) else (F_L_law_J1870 ln scr v5 M S))))))))))))))))))))))))))))))))))))))))
def F_L_law_L28 (ln : Int) (scr : Int → Int) (v5 : Int) (M : zM) (S : zS) : Option (Int × zM × zS) :=
  zb1 (zloop (fun (s : Int × zM × zS) => F_L_law_B28 ln scr s.1 s.2.1 s.2.2) zN (v5, M, S)) (fun (e : zM × zS) => F_L_law_J1876 ln scr e.1 e.2)
def F_L_law (ln : Int) (scr : Int → Int) (M : zM) (S : zS) : Option (Int × zM × zS) :=
  zchk (S.1 + 1 = 1) ( zlet (zn S (7, 12)) fun S516 => ( zb2 (F_X10_init 1 M S516) fun M517 S518 => ( zchk (S518.1 + 1 = 48) ( zlet (zn S518 (8, 44)) fun S521 => ( zb2 (F_X11_init 48 M517 S521) fun M522 S523 => ( zchk (S523.1 + 1 = 76) ( zlet (zn S523 (21, 1)) fun S526 => ( zchk (S526.1 + 1 = 77) ( zlet (zn S526 (24, 1)) fun S528 => ( zchkP (zFx S528) ( F_L_law_L28 ln scr 0 M522 S528)))))))))))
end
