noncomputable section
/-! THE METHODS AS PLAIN FUNCTIONS over whole numbers M, the shape S; a program has written them out of the decode rows (wip/whole/gen5.py) -/
def F_J0_coder_7d493 (v0 : Nat) (M : zM) (S : zS) : Option (Int) :=
  if (1 : Int) = 0 then (zchk ((-128 : Int) ≤ 1 ∧ (1 : Int) < 128) ( some 1)) else (zchk (zkd S v0 = 9) ( zchk ((-128 : Int) ≤ (M v0 1) ∧ ((M v0 1) : Int) < 128) ( some (M v0 1))))
def F_J0_codM (q : Nat) (M : zM) (S : zS) : Option Int := if 47 < q ∧ q < 69 then some 0 else zchk (zkd S q = 9) (F_J0_coder_7d493 q M S)
def F_J0_length_8abf5 (v0 : Nat) (M : zM) (S : zS) : Option (Int) :=
  zchk (zkd S v0 = 9) ( zchk (zkd S (zrf S v0 0) = 24) ( zchk (zkd S v0 = 9) ( zb1 (F_J0_coder_7d493 v0 M S) fun r5 => ( some (zshr (zlen S (zrf S v0 0)) r5)))))
def F_J0_lenM (q : Nat) (M : zM) (S : zS) : Option Int := if 47 < q ∧ q < 69 then some (zsl (q - 48)) else zchk (zkd S q = 9) (F_J0_length_8abf5 q M S)
def F_J0_getBytes_840e7 (v0 : Nat) (v1 : Nat) (v2 : Int) (v3 : Int) (M : zM) (S : zS) : Option (zM) :=
  zchk (zkd S v0 = 9) ( zb1 (F_J0_coder_7d493 v0 M S) fun r2 => ( if r2 = v3 then (zchk (zkd S v0 = 9) ( zchk (zkd S v0 = 9) ( zchk (zkd S (zrf S v0 0) = 24) ( zchk (zkd S (zrf S v0 0) = 24) ( zchk (zkd S v1 = 24) ( zchk ((0 : Int) ≤ 0 ∧ (0 : Int) ≤ (zshl v2 v3) ∧ (0 : Int) ≤ (zlen S (zrf S v0 0)) ∧ (0 + (zlen S (zrf S v0 0)) : Int) ≤ (zlen S (zrf S v0 0)) ∧ ((zshl v2 v3) + (zlen S (zrf S v0 0)) : Int) ≤ (zlen S v1)) ( zlet (zcpy M (zrf S v0 0) 0 v1 (zshl v2 v3) (zlen S (zrf S v0 0))) fun M12 => ( some M12)))))))) else (none)))
def F_J0_gbyM (q a : Nat) (j c : Int) (M : zM) (S : zS) : Option zM := if 47 < q ∧ q < 69 then zchk (c = 0 ∧ zkd S a = 24 ∧ 0 ≤ j ∧ j + zsl (q - 48) ≤ zlen S a) (some (zcpk M (q - 48) a j)) else zchk (zkd S q = 9) (F_J0_getBytes_840e7 q a j c M S)
def F_X9_length_J31 (v1 : Int) : Option (Int) :=
  some v1
def F_X9_length_B6 (v0 : Int) (v1 : Int) (v2 : Int) (v3 : Int) : Option ((Int × Int × Int) ⊕ (Int)) :=
  if 9 < v3 then (some (.inr v1)) else (if v0 < v2 then (some (.inr v1)) else (zlet (w ((3 * v2) + 1)) fun x3 => ( zlet (w (v3 + 1)) fun x4 => ( some (.inl (v3, x3, x4))))))
def F_X9_length_L6 (v0 : Int) (v1 : Int) (v2 : Int) (v3 : Int) : Option (Int) :=
  zb1 (zloop (fun (s : Int × Int × Int) => F_X9_length_B6 v0 s.1 s.2.1 s.2.2) zN (v1, v2, v3)) (fun (e : Int) => F_X9_length_J31 e)
def F_X9_length (v0 : Int) : Option (Int) :=
  F_X9_length_L6 v0 0 1 1
def F_X0_init (v0 : Nat) (v1 : Int) (v2 : Int) (v3 : Nat) (M : zM) (S : zS) : Option (zM × zS) :=
  zchk (¬ v0 = 0) ( zchk (zkd S v0 = 0) ( zlet (zs M v0 0 v1) fun M3 => ( zb1 (F_X9_length v1) fun r4 => ( zchk (zkd S v0 = 0) ( zlet (zs M3 v0 1 r4) fun M7 => ( zchk (zkd S v0 = 0) ( zlet (zs M7 v0 2 v2) fun M9 => ( zb1 (F_X9_length v2) fun r10 => ( zchk (zkd S v0 = 0) ( zlet (zs M9 v0 3 r10) fun M13 => ( zchk (zkd S v0 = 0) ( zlet (zq S v0 4 v3) fun S15 => ( some (M13, S15))))))))))))))
def F_X0_growth (v0 : Nat) (M : zM) (S : zS) : Option (Int) :=
  zchk (zkd S v0 = 0) ( zchk (zkd S v0 = 0) ( some (w ((M v0 1) + (M v0 3)))))
def F_X9_power_J12 : Option (Int) :=
  some 1
def F_X9_power (v0 : Int) : Option (Int) :=
  if v0 < 0 then (F_X9_power_J12) else (if v0 < 10 then (zchk ((0 : Int) ≤ v0 ∧ v0 < 10) ( some (zpow v0))) else (F_X9_power_J12))
def F_X9_factor (v0 : Int) (v1 : Int) (v2 : Int) (v3 : Int) : Option (Int) :=
  zb1 (F_X9_power (w (v1 - v3))) fun r1 => ( zb1 (F_X9_power (w (v3 - v2))) fun r3 => ( if r1 < 1 then (some 0) else (if r3 < 1 then (some 0) else (zchk (¬ r1 = 0) ( zlet (zdiv (v0 - (zdiv r1 2)) r1) fun x8 => ( zlet (zdiv r3 2) fun x9 => ( zchk (¬ r3 = 0) ( some (w ((zrem (x8 - x9) r3) + x9))))))))))
def F_X6_at__J10 (M : zM) (S : zS) : Option (Int) :=
  some 0
def F_X6_at_ (v0 : Nat) (v1 : Int) (M : zM) (S : zS) : Option (Int) :=
  if v1 < 0 then (F_X6_at__J10 M S) else (zchk (zkd S v0 = 21) ( if v1 < (zlen S v0) then (zchk (zkd S v0 = 21) ( zchk ((0 : Int) ≤ v1 ∧ v1 < (zlen S v0)) ( some (M v0 v1)))) else (F_X6_at__J10 M S)))
def F_X6_put_ (v0 : Nat) (v1 : Int) (v2 : Int) (M : zM) (S : zS) : Option (zM) :=
  if v1 < 0 then (some M) else (zchk (zkd S v0 = 21) ( if v1 < (zlen S v0) then (zchk (zkd S v0 = 21) ( zchk ((0 : Int) ≤ v1 ∧ v1 < (zlen S v0)) ( zlet (zs M v0 v1 v2) fun M7 => ( some M7)))) else (some M)))
def F_X7_compares_J70 (v4 : Int) (v5 : Int) (v6 : Int) : Option (Int) :=
  if v4 = 0 then (if v6 < v5 then (some 1) else (some 0)) else (if v4 = 1 then (if v6 = v5 then (some 1) else (some 0)) else (if v5 < v6 then (some 1) else (some 0)))
def F_X7_compares_J56 (v2 : Int) (v3 : Int) (v4 : Int) (v5 : Int) (v6 : Int) (v7 : Int) (v8 : Int) : Option ((Int × Int × Int) ⊕ (Int)) :=
  zlet (zdiv (v7 - 1) 3) fun x6 => ( zlet (w (v8 + 1)) fun x7 => ( some (.inl (v6, x6, x7))))
def F_X7_compares_B37 (v2 : Int) (v3 : Int) (v4 : Int) (v5 : Int) (v6 : Int) (v7 : Int) (v8 : Int) : Option ((Int × Int × Int) ⊕ (Int)) :=
  if v8 < v2 then (if (zrem (v7 - 1) 3) = v3 then (zlet (w (v6 + 1)) fun x10 => ( F_X7_compares_J56 v2 v3 v4 v5 x10 v7 v8)) else (F_X7_compares_J56 v2 v3 v4 v5 v6 v7 v8)) else (some (.inr v6))
def F_X7_compares_L37 (v2 : Int) (v3 : Int) (v4 : Int) (v5 : Int) (v6 : Int) (v7 : Int) (v8 : Int) : Option (Int) :=
  zb1 (zloop (fun (s : Int × Int × Int) => F_X7_compares_B37 v2 v3 v4 v5 s.1 s.2.1 s.2.2) zN (v6, v7, v8)) (fun (e : Int) => F_X7_compares_J70 v4 v5 e)
def F_X7_compares_J29 (v1 : Int) (v2 : Int) (v3 : Int) (v4 : Int) (v5 : Int) (t0 : Int) : Option (Int) :=
  F_X7_compares_L37 v2 v3 v4 v5 t0 v1 0
def F_X7_compares (v0 : Int) (v1 : Int) (v2 : Int) : Option (Int) :=
  zlet (zdiv v0 30) fun x11 => ( zlet (zrem (zdiv v0 10) 3) fun x12 => ( zlet (zrem v0 10) fun x13 => ( if x11 = 3 then (F_X7_compares_J29 v1 v2 x11 x12 x13 v2) else (F_X7_compares_J29 v1 v2 x11 x12 x13 0))))
def F_X7_matches_J140 : Option (Int) :=
  some 0
def F_X7_matches_J124 : Option (Int) :=
  some 1
def F_X7_matches_J126 (v1 : Int) (v5 : Int) (v6 : Int) (v7 : Int) (v8 : Int) (v9 : Int) : Option ((Int × Int) ⊕ ((Unit) ⊕ (Unit))) :=
  zlet (zdiv (v8 - 1) 3) fun x1 => ( zlet (w (v9 + 1)) fun x2 => ( some (.inl (x1, x2))))
def F_X7_matches_B91 (v1 : Int) (v5 : Int) (v6 : Int) (v7 : Int) (v8 : Int) (v9 : Int) : Option ((Int × Int) ⊕ ((Unit) ⊕ (Unit))) :=
  if v7 < v9 then (some (.inr (.inr ()))) else (if v9 < v6 then (F_X7_matches_J126 v1 v5 v6 v7 v8 v9) else (zchk (¬ v5 = 0) ( if (w ((zrem (v8 - (zdiv v5 2)) v5) + (zdiv v5 2))) = v1 then (some (.inr (.inl ()))) else (F_X7_matches_J126 v1 v5 v6 v7 v8 v9))))
def F_X7_matches_L91 (v1 : Int) (v5 : Int) (v6 : Int) (v7 : Int) (v8 : Int) (v9 : Int) : Option (Int) :=
  zb1 (zloop (fun (s : Int × Int) => F_X7_matches_B91 v1 v5 v6 v7 s.1 s.2) zN (v8, v9)) (Sum.elim (fun (e : Unit) => F_X7_matches_J124) (fun (e : Unit) => F_X7_matches_J140))
def F_X7_matches_J83 (v1 : Int) (v2 : Int) (v5 : Int) (v6 : Int) (t0 : Int) : Option (Int) :=
  F_X7_matches_L91 v1 v5 v6 t0 v2 0
def F_X7_matches_J60 (v0 : Int) (v1 : Int) (v2 : Int) (v3 : Int) (v4 : Int) (v5 : Int) (t0 : Int) : Option (Int) :=
  if v0 = 6 then (F_X7_matches_J83 v1 v2 v5 t0 (zmin 0 (w (v3 - v4)))) else (F_X7_matches_J83 v1 v2 v5 t0 (w (v3 - v4)))
def F_X7_matches_J45 (v0 : Int) (v1 : Int) (v2 : Int) (v3 : Int) (v4 : Int) (t0 : Int) : Option (Int) :=
  if v0 = 5 then (F_X7_matches_J60 v0 v1 v2 v3 v4 t0 (w (v3 - v4))) else (F_X7_matches_J60 v0 v1 v2 v3 v4 t0 0)
def F_X7_matches_J20 (v0 : Int) (v1 : Int) (v2 : Int) (v3 : Int) (t0 : Int) : Option (Int) :=
  if t0 = 1 then (F_X7_matches_J45 v0 v1 v2 v3 t0 3) else (if t0 = 2 then (F_X7_matches_J45 v0 v1 v2 v3 t0 9) else (F_X7_matches_J45 v0 v1 v2 v3 t0 27))
def F_X7_matches (v0 : Int) (v1 : Int) (v2 : Int) (v3 : Int) : Option (Int) :=
  if v1 < 4 then (F_X7_matches_J20 v0 v1 v2 v3 1) else (if v1 < 13 then (F_X7_matches_J20 v0 v1 v2 v3 2) else (F_X7_matches_J20 v0 v1 v2 v3 3))
def F_X7_evaluate_J173 (v3 : Int) (M : zM) (S : zS) : Option (Int) :=
  if (zcmp (zland v3 1) 0) = 0 then (some 0) else (some 1)
def F_X7_evaluate_J167 (v0 : Nat) (v1 : Int) (v2 : Int) (v3 : Int) (v5 : Int) (M : zM) (S : zS) : Option ((Int × Int) ⊕ (Int)) :=
  zlet (w (v5 + 1)) fun x2 => ( some (.inl (v3, x2)))
def F_X7_evaluate_J164 (v0 : Nat) (v1 : Int) (v2 : Int) (v5 : Int) (t0 : Int) (t1 : Int) (M : zM) (S : zS) : Option ((Int × Int) ⊕ (Int)) :=
  zlet (zlor t0 t1) fun x3 => ( F_X7_evaluate_J167 v0 v1 v2 x3 v5 M S)
def F_X7_evaluate_J138 (v0 : Nat) (v1 : Int) (v2 : Int) (v5 : Int) (t0 : Int) (t1 : Int) (M : zM) (S : zS) : Option ((Int × Int) ⊕ (Int)) :=
  zlet (zlor t0 t1) fun x4 => ( F_X7_evaluate_J167 v0 v1 v2 x4 v5 M S)
def F_X7_evaluate_B10 (v0 : Nat) (v1 : Int) (v2 : Int) (v3 : Int) (v5 : Int) (M : zM) (S : zS) : Option ((Int × Int) ⊕ (Int)) :=
  zchk (zkd S v0 = 5) ( zchk (zkd S (zrf S v0 0) = 20) ( if v5 < (zlen S (zrf S v0 0)) then (zchk (zkd S v0 = 5) ( zchk (zkd S (zrf S v0 0) = 20) ( zchk ((0 : Int) ≤ v5 ∧ v5 < (zlen S (zrf S v0 0))) ( zlet (zand (M (zrf S v0 0) v5) 7) fun x13 => ( zchk (zkd S v0 = 5) ( zchk (zkd S (zrf S v0 0) = 20) ( zchk ((0 : Int) ≤ v5 ∧ v5 < (zlen S (zrf S v0 0))) ( zlet (zshr (M (zrf S v0 0) v5) 3) fun x18 => ( if x13 = 0 then (zlet (zlor (zlshl v3 1) 1) fun x20 => ( F_X7_evaluate_J167 v0 v1 v2 x20 v5 M S)) else (if x13 = 1 then (zlet (zlxor v3 1) fun x22 => ( F_X7_evaluate_J167 v0 v1 v2 x22 v5 M S)) else (if x13 = 2 then (zlet (zland (zlshr v3 1) (zlor v3 (-2))) fun x24 => ( F_X7_evaluate_J167 v0 v1 v2 x24 v5 M S)) else (if x13 = 3 then (zlet (zlor (zlshr v3 1) (zland v3 1)) fun x26 => ( F_X7_evaluate_J167 v0 v1 v2 x26 v5 M S)) else (if x13 = 4 then (zb1 (F_X7_compares x18 v1 v2) fun r28 => ( if r28 = 0 then (F_X7_evaluate_J138 v0 v1 v2 v5 (zlshl v3 1) 0 M S) else (F_X7_evaluate_J138 v0 v1 v2 v5 (zlshl v3 1) 1 M S))) else (zb1 (F_X7_matches x13 x18 v1 v2) fun r31 => ( if r31 = 0 then (F_X7_evaluate_J164 v0 v1 v2 v5 (zlshl v3 1) 0 M S) else (F_X7_evaluate_J164 v0 v1 v2 v5 (zlshl v3 1) 1 M S)))))))))))))))) else (some (.inr v3))))
def F_X7_evaluate_L10 (v0 : Nat) (v1 : Int) (v2 : Int) (v3 : Int) (v5 : Int) (M : zM) (S : zS) : Option (Int) :=
  zb1 (zloop (fun (s : Int × Int) => F_X7_evaluate_B10 v0 v1 v2 s.1 s.2 M S) zN (v3, v5)) (fun (e : Int) => F_X7_evaluate_J173 e M S)
def F_X7_evaluate (v0 : Nat) (v1 : Int) (M : zM) (S : zS) : Option (Int) :=
  zb1 (F_X9_length v1) fun r34 => ( F_X7_evaluate_L10 v0 v1 r34 0 0 M S)
def F_X7_fulfils_J71 (v0 : Nat) (v2 : Int) (v3 : Int) (M : zM) (S : zS) : Option (Int × zM) :=
  zchk (zkd S v0 = 5) ( zb1 (F_X6_at_ (zrf S v0 2) v2 M S) fun r2 => ( if (zcmp (zland r2 v3) 0) = 0 then (some (0, M)) else (some (1, M))))
def F_X7_fulfils (v0 : Nat) (v1 : Int) (M : zM) (S : zS) : Option (Int × zM) :=
  zlet (zshr v1 6) fun x5 => ( zlet (zlshl 1 (zand v1 63)) fun x6 => ( zchk (zkd S v0 = 5) ( zb1 (F_X6_at_ (zrf S v0 1) x5 M S) fun r8 => ( if (zcmp (zland r8 x6) 0) = 0 then (zchk (zkd S v0 = 5) ( zchk (zkd S v0 = 5) ( zb1 (F_X6_at_ (zrf S v0 1) x5 M S) fun r13 => ( zb1 (F_X6_put_ (zrf S v0 1) x5 (zlor r13 x6) M S) fun M15 => ( zchk (zkd S v0 = 5) ( zb1 (F_X7_evaluate v0 v1 M15 S) fun r18 => ( if r18 = 0 then (F_X7_fulfils_J71 v0 x5 x6 M15 S) else (zchk (zkd S v0 = 5) ( zchk (zkd S v0 = 5) ( zb1 (F_X6_at_ (zrf S v0 2) x5 M15 S) fun r23 => ( zb1 (F_X6_put_ (zrf S v0 2) x5 (zlor r23 x6) M15 S) fun M25 => ( F_X7_fulfils_J71 v0 x5 x6 M25 S)))))))))))) else (F_X7_fulfils_J71 v0 x5 x6 M S)))))
def F_X0_selects_J176 (M : zM) (S : zS) : Option (Int × zM) :=
  some (1, M)
def F_X0_selects_J162 (M : zM) (S : zS) : Option (Int × zM) :=
  some (0, M)
def F_X0_selects_J170 (v0 : Nat) (v1 : Int) (v2 : Int) (v3 : Int) (v4 : Int) (v5 : Int) (v6 : Int) (v7 : Int) (v8 : Int) (M : zM) (S : zS) : Option ((Int × zM) ⊕ ((zM) ⊕ (zM))) :=
  zlet (w (v8 + 1)) fun x1 => ( some (.inl (x1, M)))
def F_X0_selects_J164 (v0 : Nat) (v1 : Int) (v2 : Int) (v3 : Int) (v4 : Int) (v5 : Int) (v6 : Int) (v7 : Int) (v8 : Int) (v9 : Int) (M : zM) (S : zS) : Option ((Int × zM) ⊕ ((zM) ⊕ (zM))) :=
  zlet (w (v9 + 1)) fun x2 => ( some (.inl (x2, M)))
def F_X0_selects_J143 (v0 : Nat) (v1 : Int) (v2 : Int) (v3 : Int) (v4 : Int) (v5 : Int) (v6 : Int) (v7 : Int) (v8 : Int) (v9 : Int) (M : zM) (S : zS) : Option ((Int × zM) ⊕ ((zM) ⊕ (zM))) :=
  zchk (zkd S v0 = 0) ( zb1 (F_X9_factor v2 v3 v8 v9) fun r4 => ( zchk (zkd S (zrf S v0 4) = 5) ( zb2 (F_X7_fulfils (zrf S v0 4) r4 M S) fun r7 M8 => ( if r7 = 0 then (F_X0_selects_J164 v0 v1 v2 v3 v4 v5 v6 v7 v8 v9 M8 S) else (some (.inr (.inl M8)))))))
def F_X0_selects_B122 (v0 : Nat) (v1 : Int) (v2 : Int) (v3 : Int) (v4 : Int) (v5 : Int) (v6 : Int) (v7 : Int) (v8 : Int) (v9 : Int) (M : zM) (S : zS) : Option ((Int × zM) ⊕ ((zM) ⊕ (zM))) :=
  if v7 < v9 then (some (.inr (.inr M))) else (if v8 = v4 then (if v9 = v5 then (F_X0_selects_J164 v0 v1 v2 v3 v4 v5 v6 v7 v8 v9 M S) else (F_X0_selects_J143 v0 v1 v2 v3 v4 v5 v6 v7 v8 v9 M S)) else (F_X0_selects_J143 v0 v1 v2 v3 v4 v5 v6 v7 v8 v9 M S))
def F_X0_selects_L122 (v0 : Nat) (v1 : Int) (v2 : Int) (v3 : Int) (v4 : Int) (v5 : Int) (v6 : Int) (v7 : Int) (v8 : Int) (v9 : Int) (M : zM) (S : zS) : Option ((Int × zM) ⊕ ((zM) ⊕ (zM))) :=
  zb1 (zloop (fun (s : Int × zM) => F_X0_selects_B122 v0 v1 v2 v3 v4 v5 v6 v7 v8 s.1 s.2 S) zN (v9, M)) (Sum.elim (fun (e : zM) => some (.inr (.inl e))) (fun (e : zM) => F_X0_selects_J170 v0 v1 v2 v3 v4 v5 v6 v7 v8 e S))
def F_X0_selects_J120 (v0 : Nat) (v1 : Int) (v2 : Int) (v3 : Int) (v4 : Int) (v5 : Int) (v6 : Int) (v7 : Int) (v8 : Int) (t0 : Int) (M : zM) (S : zS) : Option ((Int × zM) ⊕ ((zM) ⊕ (zM))) :=
  F_X0_selects_L122 v0 v1 v2 v3 v4 v5 v6 v7 v8 t0 M S
def F_X0_selects_B101 (v0 : Nat) (v1 : Int) (v2 : Int) (v3 : Int) (v4 : Int) (v5 : Int) (v6 : Int) (v7 : Int) (v8 : Int) (M : zM) (S : zS) : Option ((Int × zM) ⊕ ((zM) ⊕ (zM))) :=
  if v6 < v8 then (some (.inr (.inr M))) else (if v1 = 2 then (F_X0_selects_J120 v0 v1 v2 v3 v4 v5 v6 v7 v8 v5 M S) else (F_X0_selects_J120 v0 v1 v2 v3 v4 v5 v6 v7 v8 v8 M S))
def F_X0_selects_L101 (v0 : Nat) (v1 : Int) (v2 : Int) (v3 : Int) (v4 : Int) (v5 : Int) (v6 : Int) (v7 : Int) (v8 : Int) (M : zM) (S : zS) : Option (Int × zM) :=
  zb1 (zloop (fun (s : Int × zM) => F_X0_selects_B101 v0 v1 v2 v3 v4 v5 v6 v7 s.1 s.2 S) zN (v8, M)) (Sum.elim (fun (e : zM) => F_X0_selects_J162 e S) (fun (e : zM) => F_X0_selects_J176 e S))
def F_X0_selects_J99 (v0 : Nat) (v1 : Int) (v2 : Int) (v3 : Int) (v4 : Int) (v5 : Int) (v6 : Int) (v7 : Int) (t0 : Int) (M : zM) (S : zS) : Option (Int × zM) :=
  F_X0_selects_L101 v0 v1 v2 v3 v4 v5 v6 v7 t0 M S
def F_X0_selects_J86 (v0 : Nat) (v1 : Int) (v2 : Int) (v3 : Int) (v4 : Int) (v5 : Int) (v6 : Int) (t0 : Int) (M : zM) (S : zS) : Option (Int × zM) :=
  if v1 = 3 then (F_X0_selects_J99 v0 v1 v2 v3 v4 v5 v6 t0 v4 M S) else (F_X0_selects_J99 v0 v1 v2 v3 v4 v5 v6 t0 0 M S)
def F_X0_selects_J73 (v0 : Nat) (v1 : Int) (v2 : Int) (v3 : Int) (v4 : Int) (v5 : Int) (t0 : Int) (M : zM) (S : zS) : Option (Int × zM) :=
  if v1 = 3 then (F_X0_selects_J86 v0 v1 v2 v3 v4 v5 t0 v5 M S) else (F_X0_selects_J86 v0 v1 v2 v3 v4 v5 t0 v3 M S)
def F_X0_selects_J40 (M : zM) (S : zS) : Option (Int × zM) :=
  some (0, M)
def F_X0_selects (v0 : Nat) (v1 : Int) (v2 : Int) (v3 : Int) (v4 : Int) (v5 : Int) (M : zM) (S : zS) : Option (Int × zM) :=
  zchk (zkd S v0 = 0) ( zb1 (F_X9_factor v2 v3 v4 v5) fun r19 => ( zchk (zkd S (zrf S v0 4) = 5) ( zb2 (F_X7_fulfils (zrf S v0 4) r19 M S) fun r22 M23 => ( if r22 = 0 then (some (0, M23)) else (if v1 = 0 then (if v4 = 0 then (if v5 = v3 then (some (1, M23)) else (F_X0_selects_J40 M23 S)) else (F_X0_selects_J40 M23 S)) else (if v1 = 1 then (some (1, M23)) else (if v1 = 3 then (F_X0_selects_J73 v0 v1 v2 v3 v4 v5 v5 M23 S) else (if v1 = 2 then (F_X0_selects_J73 v0 v1 v2 v3 v4 v5 v4 M23 S) else (F_X0_selects_J73 v0 v1 v2 v3 v4 v5 (w (v4 - 1)) M23 S)))))))))
def F_X9_join (v0 : Int) (v1 : Int) (v2 : Int) : Option (Int) :=
  zb1 (F_X9_power v2) fun r1 => ( some (w ((v0 * r1) + v1)))
def F_X0_putAround (v0 : Nat) (v1 : Int) (v2 : Int) (v3 : Int) (v4 : Int) (M : zM) (S : zS) : Option (Int) :=
  zb1 (F_X9_factor v1 v2 0 v3) fun r1 => ( zchk (zkd S v0 = 0) ( zchk (zkd S v0 = 0) ( zb1 (F_X9_join r1 (M v0 0) (M v0 1)) fun r7 => ( zb1 (F_X9_factor v1 v2 v3 v4) fun r9 => ( zb1 (F_X9_join r7 r9 (w (v4 - v3))) fun r11 => ( zchk (zkd S v0 = 0) ( zchk (zkd S v0 = 0) ( zb1 (F_X9_join r11 (M v0 2) (M v0 3)) fun r17 => ( zb1 (F_X9_factor v1 v2 v4 v2) fun r19 => ( zb1 (F_X9_join r17 r19 (w (v2 - v4))) fun r21 => ( some r21)))))))))))
def F_X0_leftStandsAt (v0 : Nat) (v1 : Int) (v2 : Int) (v3 : Int) (M : zM) (S : zS) : Option (Int) :=
  zchk (zkd S v0 = 0) ( zb1 (F_X9_factor v1 v2 v3 (w (v3 + (M v0 1)))) fun r3 => ( zchk (zkd S v0 = 0) ( if r3 = (M v0 0) then (some 1) else (some 0))))
def F_X0_takeAway (v0 : Nat) (v1 : Int) (v2 : Int) (v3 : Int) (v4 : Int) (M : zM) (S : zS) : Option (Int) :=
  zchk (zkd S v0 = 0) ( zb1 (F_X0_growth v0 M S) fun r2 => ( zlet (w (v4 + r2)) fun x4 => ( zchk (zkd S v0 = 0) ( zb1 (F_X9_factor v1 v2 (w (x4 - (M v0 3))) x4) fun r7 => ( zchk (zkd S v0 = 0) ( if r7 = (M v0 2) then (zb1 (F_X9_factor v1 v2 0 v3) fun r12 => ( zchk (zkd S v0 = 0) ( zchk (zkd S v0 = 0) ( zb1 (F_X9_factor v1 v2 (w (v3 + (M v0 1))) (w (v4 + (M v0 1)))) fun r18 => ( zb1 (F_X9_join r12 r18 (w (v4 - v3))) fun r20 => ( zb1 (F_X9_factor v1 v2 x4 v2) fun r22 => ( zb1 (F_X9_join r20 r22 (w (v2 - x4))) fun r24 => ( some r24)))))))) else (some (-1))))))))
def F_X1_init (v0 : Nat) (S : zS) : Option (zS) :=
  zchk (¬ v0 = 0) ( zlet (S.1 + 1) fun q2 => ( zchk (S.1 < 47) ( zlet (zn S (23, 60)) fun S4 => ( zchk (zkd S4 v0 = 1) ( zlet (zq S4 v0 0 q2) fun S6 => ( zlet (S6.1 + 1) fun q7 => ( zchk (S6.1 < 47) ( zlet (zn S6 (20, 60)) fun S9 => ( zchk (zkd S9 v0 = 1) ( zlet (zq S9 v0 1 q7) fun S11 => ( some S11)))))))))))
def F_X1_accept (v1 : Int) (M : zM) : Option (Int × zM) :=
  if (M 2 3) < 0 then (some (0, M)) else (if (M 2 3) < 60 then (zchk ((0 : Int) ≤ (M 2 3) ∧ (M 2 3) < 60) ( zchk ((0 : Int) ≤ v1 ∧ (v1 : Int) < 65536) ( zlet (zs M 3 (M 2 3) v1) fun M8 => ( zlet (zs M8 2 3 (w ((M8 2 3) + 1))) fun M10 => ( some (1, M10)))))) else (some (0, M)))
def F_X1_empty (M : zM) : Option (zM) :=
  zlet (zs M 2 3 0) fun M1 => ( some M1)
def F_J7_copyOf_59c91 (v0 : Nat) (v1 : Int) (M : zM) (S : zS) : Option (Nat × zM × zS) :=
  zchk (zkd S v0 = 20) ( if v1 = (zlen S v0) then (zchk (zkd S v0 = 20) ( zchk ((zlen S v0) ≤ 60) ( zlet (S.1 + 1) fun q16 => ( zlet (zn S (20, (zlen S v0).toNat)) fun S17 => ( zlet (up M q16 (M v0)) fun M18 => ( zchk (zkd S17 q16 = 20) ( some (q16, M18, S17)))))))) else (zchk ((0 : Int) ≤ v1 ∧ v1 ≤ 60) ( zlet (S.1 + 1) fun q5 => ( zlet (zn S (20, v1.toNat)) fun S6 => ( zchk (zkd S6 v0 = 20) ( zchk (zkd S6 v0 = 20) ( zchk (zkd S6 q5 = 20) ( zchk ((0 : Int) ≤ 0 ∧ (0 : Int) ≤ 0 ∧ (0 : Int) ≤ (zmin (zlen S6 v0) v1) ∧ (0 + (zmin (zlen S6 v0) v1) : Int) ≤ (zlen S6 v0) ∧ (0 + (zmin (zlen S6 v0) v1) : Int) ≤ (zlen S6 q5)) ( zlet (zcpy M v0 0 q5 0 (zmin (zlen S6 v0) v1)) fun M13 => ( some (q5, M13, S6)))))))))))
def F_X1_selectorProgram_J19 (t1 : Int) (M : zM) (S : zS) : Option (Nat × zM × zS) :=
  zb3 (F_J7_copyOf_59c91 4 t1 M S) fun r1 M2 S3 => ( some (r1, M2, S3))
def F_X1_selectorProgram (M : zM) (S : zS) : Option (Nat × zM × zS) :=
  if (M 2 2) < 0 then (F_X1_selectorProgram_J19 0 M S) else (F_X1_selectorProgram_J19 (M 2 2) M S)
def F_X1_kindName (v0 : Int) : Option (Nat) :=
  if v0 = 0 then (some 0) else (if v0 = 1 then (some 1) else (if v0 = 2 then (some 2) else (some 3)))
def F_X1_characterAt_J21 (M : zM) : Option (Int) :=
  zchk ((0 : Int) ≤ 0 ∧ (0 : Int) < 65536) ( some 0)
def F_X1_characterAt (v1 : Int) (M : zM) : Option (Int) :=
  if v1 < 0 then (F_X1_characterAt_J21 M) else (if v1 < (M 2 3) then (if v1 < 60 then (zchk ((0 : Int) ≤ v1 ∧ v1 < 60) ( zchk ((0 : Int) ≤ (M 3 v1) ∧ ((M 3 v1) : Int) < 65536) ( some (M 3 v1)))) else (F_X1_characterAt_J21 M)) else (F_X1_characterAt_J21 M))
def F_X1_sameCharacters_J39 (v2 : Int) (M : zM) : Option (Int) :=
  some v2
def F_X1_sameCharacters_B4 (v1 : Nat) (v2 : Int) (v3 : Int) (M : zM) : Option ((Int × Int) ⊕ (Int)) :=
  zchk (v1 < 9) ( if v3 < (zsl v1) then (zb1 (F_X1_characterAt (w ((M 2 4) + v3)) M) fun r4 => ( zchk (v1 < 9) ( zchk ((0 : Int) ≤ v3 ∧ v3 < zsl v1) ( if r4 = (zsc v1 v3) then (zlet (w (v2 + 1)) fun x9 => ( zlet (w (v3 + 1)) fun x10 => ( some (.inl (x9, x10))))) else (some (.inr v2)))))) else (some (.inr v2)))
def F_X1_sameCharacters_L4 (v1 : Nat) (v2 : Int) (v3 : Int) (M : zM) : Option (Int) :=
  zb1 (zloop (fun (s : Int × Int) => F_X1_sameCharacters_B4 v1 s.1 s.2 M) zN (v2, v3)) (fun (e : Int) => F_X1_sameCharacters_J39 e M)
def F_X1_sameCharacters (v1 : Nat) (M : zM) : Option (Int) :=
  F_X1_sameCharacters_L4 v1 0 0 M
def F_X1_readKind_J51 (v1 : Int) (M : zM) : Option (Int × zM) :=
  zlet (zs M 2 4 v1) fun M1 => ( some ((-1), M1))
def F_X1_readKind_J37 (v2 : Int) (v4 : Int) (M : zM) : Option (Int × zM) :=
  zlet (zs M 2 4 v4) fun M2 => ( some (v2, M2))
def F_X1_readKind_B4 (v1 : Int) (v2 : Int) (M : zM) : Option ((Int × Int) ⊕ ((Int × Int) ⊕ (Int))) :=
  if v2 < 4 then (zb1 (F_X1_kindName v2) fun r4 => ( zb1 (F_X1_sameCharacters r4 M) fun r6 => ( zlet (zmax v1 r6) fun x8 => ( zchk (r4 < 9) ( if r6 = (zsl r4) then (some (.inr (.inl (v2, r6)))) else (zlet (w (v2 + 1)) fun x11 => ( some (.inl (x8, x11))))))))) else (some (.inr (.inr v1)))
def F_X1_readKind_L4 (v1 : Int) (v2 : Int) (M : zM) : Option (Int × zM) :=
  zb1 (zloop (fun (s : Int × Int) => F_X1_readKind_B4 s.1 s.2 M) zN (v1, v2)) (Sum.elim (fun (e : Int × Int) => F_X1_readKind_J37 e.1 e.2 M) (fun (e : Int) => F_X1_readKind_J51 e M))
def F_X1_readKind (M : zM) : Option (Int × zM) :=
  F_X1_readKind_L4 0 0 M
def F_X9_extend (v0 : Int) (v1 : Int) : Option (Int) :=
  some (w (((3 * v0) + 1) + v1))
def F_X1_readLetters_J61 (v2 : Int) (M : zM) : Option (Int × zM) :=
  some (v2, M)
def F_X1_readLetters_J33 (v2 : Int) (M : zM) : Option (Int × zM) :=
  some (v2, M)
def F_X1_readLetters_B4 (v1 : Int) (v2 : Int) (v3 : Int) (M : zM) : Option ((Int × Int × zM) ⊕ ((Int × zM) ⊕ (Int × zM))) :=
  if v3 < v1 then (zb1 (F_X1_characterAt (M 2 4) M) fun r3 => ( if r3 < 97 then (some (.inr (.inl (v2, M)))) else (if 99 < r3 then (some (.inr (.inl (v2, M)))) else (zb1 (F_X9_extend v2 (w (r3 - 97))) fun r7 => ( zlet (zs M 2 4 (w ((M 2 4) + 1))) fun M10 => ( zlet (w (v3 + 1)) fun x11 => ( some (.inl (r7, x11, M10))))))))) else (some (.inr (.inr (v2, M))))
def F_X1_readLetters_L4 (v1 : Int) (v2 : Int) (v3 : Int) (M : zM) : Option (Int × zM) :=
  zb1 (zloop (fun (s : Int × Int × zM) => F_X1_readLetters_B4 v1 s.1 s.2.1 s.2.2) zN (v2, v3, M)) (Sum.elim (fun (e : Int × zM) => F_X1_readLetters_J33 e.1 e.2) (fun (e : Int × zM) => F_X1_readLetters_J61 e.1 e.2))
def F_X1_readLetters (v1 : Int) (M : zM) : Option (Int × zM) :=
  F_X1_readLetters_L4 v1 0 0 M
def F_X1_readAxiom (M : zM) : Option (Int × zM) :=
  zb2 (F_X1_readLetters 8 M) fun r1 M2 => ( zlet (zs M2 2 5 r1) fun M4 => ( if (M4 2 5) = 0 then (some (0, M4)) else (some (1, M4))))
def F_X1_skip (v1 : Int) (M : zM) : Option (Int × zM) :=
  zb1 (F_X1_characterAt (M 2 4) M) fun r2 => ( if r2 = v1 then (zlet (zs M 2 4 (w ((M 2 4) + 1))) fun M6 => ( some (1, M6))) else (some (0, M)))
def F_X1_addStep (v1 : Int) (v2 : Int) (M : zM) : Option (Int × zM) :=
  if (M 2 2) < 0 then (some (0, M)) else (if (M 2 2) < 60 then (zchk ((0 : Int) ≤ (M 2 2) ∧ (M 2 2) < 60) ( zlet (zs M 4 (M 2 2) (zor (zshl v2 3) v1)) fun M7 => ( zlet (zs M7 2 2 (w ((M7 2 2) + 1))) fun M9 => ( some (1, M9))))) else (some (0, M)))
def F_X1_addPattern_J17 (M : zM) : Option (Int × zM) :=
  some (0, M)
def F_X1_addPattern (v1 : Int) (v2 : Int) (M : zM) : Option (Int × zM) :=
  if v2 = 0 then (F_X1_addPattern_J17 M) else (zb2 (F_X1_addStep v1 v2 M) fun r2 M3 => ( if r2 = 0 then (F_X1_addPattern_J17 M3) else (some (1, M3))))
def F_X1_readComparison_J119 (v2 : Int) (v3 : Int) (t0 : Int) (M : zM) : Option (Int × zM) :=
  zb2 (F_X1_addStep 4 (w ((((t0 * 3) + (v2 - 60)) * 10) + (v3 - 48))) M) fun r1 M2 => ( zchk ((0 : Int) ≤ r1 ∧ (r1 : Int) ≤ 1) ( some (r1, M2)))
def F_X1_readComparison_J29 (v1 : Int) (M : zM) : Option (Int × zM) :=
  zlet (zs M 2 4 (w ((M 2 4) + 1))) fun M6 => ( zb1 (F_X1_characterAt (M6 2 4) M6) fun r8 => ( if r8 < 60 then (some (0, M6)) else (if 62 < r8 then (some (0, M6)) else (zlet (zs M6 2 4 (w ((M6 2 4) + 1))) fun M13 => ( zb1 (F_X1_characterAt (M13 2 4) M13) fun r15 => ( if r15 < 48 then (some (0, M13)) else (if 57 < r15 then (some (0, M13)) else (zlet (zs M13 2 4 (w ((M13 2 4) + 1))) fun M20 => ( if v1 = 35 then (F_X1_readComparison_J119 r8 r15 3 M20) else (F_X1_readComparison_J119 r8 r15 (w (v1 - 97)) M20))))))))))
def F_X1_readComparison (M : zM) : Option (Int × zM) :=
  zb1 (F_X1_characterAt (M 2 4) M) fun r23 => ( if r23 = 35 then (F_X1_readComparison_J29 r23 M) else (if r23 < 97 then (some (0, M)) else (if 99 < r23 then (some (0, M)) else (F_X1_readComparison_J29 r23 M))))
def F_X1_readCondition_J106 (rc : Nat → Int → zM → Option (Int × zM)) (M : zM) : Option (Int × zM) :=
  some (0, M)
def F_X1_readCondition_J227 (rc : Nat → Int → zM → Option (Int × zM)) (M : zM) : Option (Int × zM) :=
  some (0, M)
def F_X1_readCondition_J146 (rc : Nat → Int → zM → Option (Int × zM)) (M : zM) : Option (Int × zM) :=
  some (0, M)
def F_X1_readCondition_J170 (rc : Nat → Int → zM → Option (Int × zM)) (M : zM) : Option (Int × zM) :=
  some (0, M)
def F_X1_readCondition_J198 (rc : Nat → Int → zM → Option (Int × zM)) (M : zM) : Option (Int × zM) :=
  some (0, M)
def F_X1_readCondition_J256 (rc : Nat → Int → zM → Option (Int × zM)) (M : zM) : Option (Int × zM) :=
  some (0, M)
def F_X1_readCondition (rc : Nat → Int → zM → Option (Int × zM)) (v1 : Int) (M : zM) : Option (Int × zM) :=
  zb1 (F_X1_characterAt (M 2 4) M) fun r2 => ( if r2 = 33 then (if v1 < 6 then (zb2 (F_X1_skip 33 M) fun r6 M7 => ( if r6 = 0 then (F_X1_readCondition_J106 rc M7) else (zb2 (rc 2 (w (v1 + 1)) M7) fun r10 M11 => ( if r10 = 0 then (F_X1_readCondition_J106 rc M11) else (zb2 (F_X1_addStep 1 0 M11) fun r14 M15 => ( if r14 = 0 then (F_X1_readCondition_J106 rc M15) else (some (1, M15)))))))) else (F_X1_readCondition_J106 rc M)) else (if r2 = 36 then (zb2 (F_X1_skip 36 M) fun r19 M20 => ( if r19 = 0 then (F_X1_readCondition_J227 rc M20) else (zb2 (F_X1_readLetters 3 M20) fun r23 M24 => ( zb2 (F_X1_addPattern 6 r23 M24) fun r26 M27 => ( if r26 = 0 then (F_X1_readCondition_J227 rc M27) else (some (1, M27))))))) else (if r2 = 40 then (if v1 < 6 then (zb2 (F_X1_skip 40 M) fun r32 M33 => ( if r32 = 0 then (F_X1_readCondition_J146 rc M33) else (zb2 (rc 0 (w (v1 + 1)) M33) fun r36 M37 => ( if r36 = 0 then (F_X1_readCondition_J146 rc M37) else (zb2 (F_X1_skip 41 M37) fun r40 M41 => ( if r40 = 0 then (F_X1_readCondition_J146 rc M41) else (some (1, M41)))))))) else (F_X1_readCondition_J146 rc M)) else (if r2 = 42 then (zb2 (F_X1_skip 42 M) fun r45 M46 => ( if r45 = 0 then (F_X1_readCondition_J170 rc M46) else (zb2 (F_X1_addStep 0 0 M46) fun r49 M50 => ( if r49 = 0 then (F_X1_readCondition_J170 rc M50) else (some (1, M50)))))) else (if r2 = 94 then (zb2 (F_X1_skip 94 M) fun r54 M55 => ( if r54 = 0 then (F_X1_readCondition_J198 rc M55) else (zb2 (F_X1_readLetters 3 M55) fun r58 M59 => ( zb2 (F_X1_addPattern 5 r58 M59) fun r61 M62 => ( if r61 = 0 then (F_X1_readCondition_J198 rc M62) else (some (1, M62))))))) else (if r2 = 126 then (zb2 (F_X1_skip 126 M) fun r66 M67 => ( if r66 = 0 then (F_X1_readCondition_J256 rc M67) else (zb2 (F_X1_readLetters 3 M67) fun r70 M71 => ( zb2 (F_X1_addPattern 7 r70 M71) fun r73 M74 => ( if r73 = 0 then (F_X1_readCondition_J256 rc M74) else (some (1, M74))))))) else (zb2 (F_X1_readComparison M) fun r77 M78 => ( zchk ((0 : Int) ≤ r77 ∧ (r77 : Int) ≤ 1) ( some (r77, M78))))))))))
def F_X1_readConjunction_J56 (rc : Nat → Int → zM → Option (Int × zM)) (v2 : Int) (M : zM) : Option (Int × zM) :=
  zchk ((0 : Int) ≤ v2 ∧ (v2 : Int) ≤ 1) ( some (v2, M))
def F_X1_readConjunction_J49 (rc : Nat → Int → zM → Option (Int × zM)) (v1 : Int) (v3 : Int) (t0 : Int) (M : zM) : Option ((Int × Int × zM) ⊕ (Int × zM)) :=
  zlet (w (v3 + 1)) fun x2 => ( some (.inl (t0, x2, M)))
def F_X1_readConjunction_J48 (rc : Nat → Int → zM → Option (Int × zM)) (v1 : Int) (v3 : Int) (M : zM) : Option ((Int × Int × zM) ⊕ (Int × zM)) :=
  F_X1_readConjunction_J49 rc v1 v3 0 M
def F_X1_readConjunction_B8 (rc : Nat → Int → zM → Option (Int × zM)) (v1 : Int) (v2 : Int) (v3 : Int) (M : zM) : Option ((Int × Int × zM) ⊕ (Int × zM)) :=
  if v3 < 60 then (if v2 = 0 then (some (.inr (v2, M))) else (zb2 (F_X1_skip 38 M) fun r5 M6 => ( if r5 = 0 then (some (.inr (v2, M6))) else (zb2 (rc 2 v1 M6) fun r9 M10 => ( if r9 = 0 then (F_X1_readConjunction_J48 rc v1 v3 M10) else (zb2 (F_X1_addStep 2 0 M10) fun r13 M14 => ( if r13 = 0 then (F_X1_readConjunction_J48 rc v1 v3 M14) else (F_X1_readConjunction_J49 rc v1 v3 1 M14)))))))) else (some (.inr (v2, M)))
def F_X1_readConjunction_L8 (rc : Nat → Int → zM → Option (Int × zM)) (v1 : Int) (v2 : Int) (v3 : Int) (M : zM) : Option (Int × zM) :=
  zb1 (zloop (fun (s : Int × Int × zM) => F_X1_readConjunction_B8 rc v1 s.1 s.2.1 s.2.2) zN (v2, v3, M)) (fun (e : Int × zM) => F_X1_readConjunction_J56 rc e.1 e.2)
def F_X1_readConjunction (rc : Nat → Int → zM → Option (Int × zM)) (v1 : Int) (M : zM) : Option (Int × zM) :=
  zb2 (rc 2 v1 M) fun r17 M18 => ( F_X1_readConjunction_L8 rc v1 r17 0 M18)
def F_X1_readAlternatives_J56 (rc : Nat → Int → zM → Option (Int × zM)) (v2 : Int) (M : zM) : Option (Int × zM) :=
  zchk ((0 : Int) ≤ v2 ∧ (v2 : Int) ≤ 1) ( some (v2, M))
def F_X1_readAlternatives_J49 (rc : Nat → Int → zM → Option (Int × zM)) (v1 : Int) (v3 : Int) (t0 : Int) (M : zM) : Option ((Int × Int × zM) ⊕ (Int × zM)) :=
  zlet (w (v3 + 1)) fun x2 => ( some (.inl (t0, x2, M)))
def F_X1_readAlternatives_J48 (rc : Nat → Int → zM → Option (Int × zM)) (v1 : Int) (v3 : Int) (M : zM) : Option ((Int × Int × zM) ⊕ (Int × zM)) :=
  F_X1_readAlternatives_J49 rc v1 v3 0 M
def F_X1_readAlternatives_B8 (rc : Nat → Int → zM → Option (Int × zM)) (v1 : Int) (v2 : Int) (v3 : Int) (M : zM) : Option ((Int × Int × zM) ⊕ (Int × zM)) :=
  if v3 < 60 then (if v2 = 0 then (some (.inr (v2, M))) else (zb2 (F_X1_skip 124 M) fun r5 M6 => ( if r5 = 0 then (some (.inr (v2, M6))) else (zb2 (rc 1 v1 M6) fun r9 M10 => ( if r9 = 0 then (F_X1_readAlternatives_J48 rc v1 v3 M10) else (zb2 (F_X1_addStep 3 0 M10) fun r13 M14 => ( if r13 = 0 then (F_X1_readAlternatives_J48 rc v1 v3 M14) else (F_X1_readAlternatives_J49 rc v1 v3 1 M14)))))))) else (some (.inr (v2, M)))
def F_X1_readAlternatives_L8 (rc : Nat → Int → zM → Option (Int × zM)) (v1 : Int) (v2 : Int) (v3 : Int) (M : zM) : Option (Int × zM) :=
  zb1 (zloop (fun (s : Int × Int × zM) => F_X1_readAlternatives_B8 rc v1 s.1 s.2.1 s.2.2) zN (v2, v3, M)) (fun (e : Int × zM) => F_X1_readAlternatives_J56 rc e.1 e.2)
def F_X1_readAlternatives (rc : Nat → Int → zM → Option (Int × zM)) (v1 : Int) (M : zM) : Option (Int × zM) :=
  zb2 (rc 1 v1 M) fun r17 M18 => ( F_X1_readAlternatives_L8 rc v1 r17 0 M18)
def F_GP (n : Nat) (k : Nat) (v1 : Int) (M : zM) : Option (Int × zM) := match n with
  | 0 => none
  | n + 1 => if k = 0 then F_X1_readAlternatives (F_GP n) v1 M else if k = 1 then F_X1_readConjunction (F_GP n) v1 M else F_X1_readCondition (F_GP n) v1 M
def F_X1_readContext_J57 (M : zM) : Option (Int × zM) :=
  some (0, M)
def F_X1_readContext (M : zM) : Option (Int × zM) :=
  zb2 (F_X1_readLetters 3 M) fun r1 M2 => ( zlet (zs M2 2 6 r1) fun M4 => ( if (M4 2 6) = 0 then (some (0, M4)) else (zb2 (F_X1_skip 44 M4) fun r7 M8 => ( if r7 = 0 then (some (0, M8)) else (zb2 (F_X1_readLetters 3 M8) fun r11 M12 => ( zlet (zs M12 2 7 r11) fun M14 => ( zb2 (F_X1_skip 32 M14) fun r15 M16 => ( if r15 = 0 then (F_X1_readContext_J57 M16) else (zb2 (F_GP 40 0 0 M16) fun r19 M20 => ( if r19 = 0 then (F_X1_readContext_J57 M20) else (some (1, M20))))))))))))
def F_X1_modeName (v0 : Int) : Option (Nat) :=
  if v0 = 0 then (some 4) else (if v0 = 1 then (some 5) else (if v0 = 2 then (some 6) else (if v0 = 3 then (some 7) else (some 8))))
def F_X1_readMode_J59 (v1 : Int) (v2 : Int) (M : zM) : Option (Int × zM) :=
  zlet (zs M 2 4 (w ((M 2 4) + v1))) fun M2 => ( zchk ((0 : Int) ≤ v2 ∧ (v2 : Int) ≤ 1) ( some (v2, M2)))
def F_X1_readMode_J53 (v1 : Int) (v2 : Int) (v3 : Int) (M : zM) : Option ((Int × Int × Int × zM) ⊕ (Int × Int × zM)) :=
  zlet (w (v3 + 1)) fun x4 => ( some (.inl (v1, v2, x4, M)))
def F_X1_readMode_B6 (v1 : Int) (v2 : Int) (v3 : Int) (M : zM) : Option ((Int × Int × Int × zM) ⊕ (Int × Int × zM)) :=
  if v3 < 5 then (if v2 = 0 then (zb1 (F_X1_modeName v3) fun r7 => ( zb1 (F_X1_sameCharacters r7 M) fun r9 => ( zlet (zmax v1 r9) fun x11 => ( zchk (r7 < 9) ( if r9 = (zsl r7) then (zlet (zs M 2 8 v3) fun M14 => ( F_X1_readMode_J53 x11 1 v3 M14)) else (F_X1_readMode_J53 x11 v2 v3 M)))))) else (some (.inr (v1, v2, M)))) else (some (.inr (v1, v2, M)))
def F_X1_readMode_L6 (v1 : Int) (v2 : Int) (v3 : Int) (M : zM) : Option (Int × zM) :=
  zb1 (zloop (fun (s : Int × Int × Int × zM) => F_X1_readMode_B6 s.1 s.2.1 s.2.2.1 s.2.2.2) zN (v1, v2, v3, M)) (fun (e : Int × Int × zM) => F_X1_readMode_J59 e.1 e.2.1 e.2.2)
def F_X1_readMode (M : zM) : Option (Int × zM) :=
  F_X1_readMode_L6 0 0 0 M
def F_X1_readLimit (M : zM) : Option (Int × zM) :=
  zb1 (F_X1_characterAt (M 2 4) M) fun r2 => ( if r2 < 49 then (some (0, M)) else (if 57 < r2 then (some (0, M)) else (zlet (zs M 2 8 (w (r2 - 48))) fun M6 => ( zlet (zs M6 2 4 (w ((M6 2 4) + 1))) fun M8 => ( some (1, M8))))))
def F_X1_read_J101 (M : zM) : Option (Int × zM) :=
  some ((-1), M)
def F_X1_read_J82 (v1 : Int) (v2 : Int) (M : zM) : Option (Int × zM) :=
  if v2 = 0 then (F_X1_read_J101 M) else (if (M 2 4) = (M 2 3) then (some (v1, M)) else (F_X1_read_J101 M))
def F_X1_read (M : zM) : Option (Int × zM) :=
  zlet (zs M 2 4 0) fun M5 => ( zlet (zs M5 2 2 0) fun M6 => ( zb2 (F_X1_readKind M6) fun r7 M8 => ( if r7 = 0 then (zb2 (F_X1_readAxiom M8) fun r11 M12 => ( F_X1_read_J82 r7 r11 M12)) else (if r7 = 1 then (zb2 (F_X1_readContext M8) fun r15 M16 => ( F_X1_read_J82 r7 r15 M16)) else (if r7 = 2 then (zb2 (F_X1_readMode M8) fun r19 M20 => ( F_X1_read_J82 r7 r19 M20)) else (if r7 = 3 then (zb2 (F_X1_readLimit M8) fun r23 M24 => ( F_X1_read_J82 r7 r23 M24)) else (F_X1_read_J82 r7 0 M8)))))))
def F_X2_init (v0 : Nat) (M : zM) (S : zS) : Option (zM × zS) :=
  zchk (¬ v0 = 0) ( zlet (S.1 + 1) fun q2 => ( zchk (S.1 < 47) ( zlet (zn S (20, 6)) fun S4 => ( zchk (zkd S4 v0 = 2) ( zlet (zq S4 v0 0 q2) fun S6 => ( zlet (S6.1 + 1) fun q7 => ( zchk (S6.1 < 47) ( zlet (zn S6 (25, 5)) fun S9 => ( zchk (zkd S9 v0 = 2) ( zlet (zq S9 v0 1 q7) fun S11 => ( zchk (zkd S11 v0 = 2) ( zlet (zs M v0 4 1) fun M13 => ( zchk (zkd S11 v0 = 2) ( zlet (zs M13 v0 5 6) fun M15 => ( some (M15, S11))))))))))))))))
def F_X2_copyFrom_a_J53 (M : zM) (S : zS) : Option (zM × zS) :=
  zlet (zs M 5 2 (M 8 2)) fun M2 => ( zlet (zs M2 5 3 (M2 8 3)) fun M4 => ( zlet (zs M4 5 4 (M4 8 4)) fun M6 => ( zlet (zs M6 5 5 (M6 8 5)) fun M8 => ( some (M8, S)))))
def F_X2_copyFrom_a_B17 (v2 : Int) (M : zM) (S : zS) : Option ((Int × zS) ⊕ (zS)) :=
  if v2 < 5 then (if v2 < 5 then (zchk ((0 : Int) ≤ v2 ∧ v2 < 5) ( zchk ((0 : Int) ≤ v2 ∧ v2 < 5) ( zchk ((zrf S 10 v2) = 0 ∨ zkd S (zrf S 10 v2) = 0) ( zlet (zq S 7 v2 (zrf S 10 v2)) fun S14 => ( zlet (w (v2 + 1)) fun x16 => ( some (.inl (x16, S14)))))))) else (some (.inr S))) else (some (.inr S))
def F_X2_copyFrom_a_L17 (v2 : Int) (M : zM) (S : zS) : Option (zM × zS) :=
  zb1 (zloop (fun (s : Int × zS) => F_X2_copyFrom_a_B17 s.1 M s.2) zN (v2, S)) (fun (e : zS) => F_X2_copyFrom_a_J53 M e)
def F_X2_copyFrom_a (M : zM) (S : zS) : Option (zM × zS) :=
  zchk ((0 : Int) ≤ 0 ∧ (0 : Int) ≤ 0 ∧ (0 : Int) ≤ 6 ∧ (0 + 6 : Int) ≤ 6 ∧ (0 + 6 : Int) ≤ 6) ( zlet (zcpy M 9 0 6 0 6) fun M18 => ( F_X2_copyFrom_a_L17 0 M18 S))
def F_X2_copyFrom_b_J53 (M : zM) (S : zS) : Option (zM × zS) :=
  zlet (zs M 8 2 (M 5 2)) fun M2 => ( zlet (zs M2 8 3 (M2 5 3)) fun M4 => ( zlet (zs M4 8 4 (M4 5 4)) fun M6 => ( zlet (zs M6 8 5 (M6 5 5)) fun M8 => ( some (M8, S)))))
def F_X2_copyFrom_b_B17 (v2 : Int) (M : zM) (S : zS) : Option ((Int × zS) ⊕ (zS)) :=
  if v2 < 5 then (if v2 < 5 then (zchk ((0 : Int) ≤ v2 ∧ v2 < 5) ( zchk ((0 : Int) ≤ v2 ∧ v2 < 5) ( zchk ((zrf S 7 v2) = 0 ∨ zkd S (zrf S 7 v2) = 0) ( zlet (zq S 10 v2 (zrf S 7 v2)) fun S14 => ( zlet (w (v2 + 1)) fun x16 => ( some (.inl (x16, S14)))))))) else (some (.inr S))) else (some (.inr S))
def F_X2_copyFrom_b_L17 (v2 : Int) (M : zM) (S : zS) : Option (zM × zS) :=
  zb1 (zloop (fun (s : Int × zS) => F_X2_copyFrom_b_B17 s.1 M s.2) zN (v2, S)) (fun (e : zS) => F_X2_copyFrom_b_J53 M e)
def F_X2_copyFrom_b (M : zM) (S : zS) : Option (zM × zS) :=
  zchk ((0 : Int) ≤ 0 ∧ (0 : Int) ≤ 0 ∧ (0 : Int) ≤ 6 ∧ (0 + 6 : Int) ≤ 6 ∧ (0 + 6 : Int) ≤ 6) ( zlet (zcpy M 6 0 9 0 6) fun M18 => ( F_X2_copyFrom_b_L17 0 M18 S))
def F_X6_at_J10 (M : zM) (S : zS) : Option (Int) :=
  some 0
def F_X6_at (v0 : Nat) (v1 : Int) (M : zM) (S : zS) : Option (Int) :=
  if v1 < 0 then (F_X6_at_J10 M S) else (zchk (zkd S v0 = 20) ( if v1 < (zlen S v0) then (zchk (zkd S v0 = 20) ( zchk ((0 : Int) ≤ v1 ∧ v1 < (zlen S v0)) ( some (M v0 v1)))) else (F_X6_at_J10 M S)))
def F_X2_axiom (v1 : Int) (M : zM) (S : zS) : Option (Int) :=
  zb1 (F_X6_at 6 v1 M S) fun r1 => ( some r1)
def F_X2_hasAxiom_J27 (M : zM) (S : zS) : Option (Int) :=
  some 0
def F_X2_hasAxiom_J19 (M : zM) (S : zS) : Option (Int) :=
  some 1
def F_X2_hasAxiom_B2 (v1 : Int) (v2 : Int) (M : zM) (S : zS) : Option ((Int) ⊕ ((Unit) ⊕ (Unit))) :=
  if v2 < (M 5 2) then (zb1 (F_X2_axiom v2 M S) fun r3 => ( if r3 = v1 then (some (.inr (.inl ()))) else (zlet (w (v2 + 1)) fun x6 => ( some (.inl x6))))) else (some (.inr (.inr ())))
def F_X2_hasAxiom_L2 (v1 : Int) (v2 : Int) (M : zM) (S : zS) : Option (Int) :=
  zb1 (zloop (fun (s : Int) => F_X2_hasAxiom_B2 v1 s M S) zN v2) (Sum.elim (fun (e : Unit) => F_X2_hasAxiom_J19 M S) (fun (e : Unit) => F_X2_hasAxiom_J27 M S))
def F_X2_hasAxiom (v1 : Int) (M : zM) (S : zS) : Option (Int) :=
  F_X2_hasAxiom_L2 v1 0 M S
def F_X6_put (v0 : Nat) (v1 : Int) (v2 : Int) (M : zM) (S : zS) : Option (zM) :=
  if v1 < 0 then (some M) else (zchk (zkd S v0 = 20) ( if v1 < (zlen S v0) then (zchk (zkd S v0 = 20) ( zchk ((0 : Int) ≤ v1 ∧ v1 < (zlen S v0)) ( zlet (zs M v0 v1 v2) fun M7 => ( some M7)))) else (some M)))
def F_X2_putAxiom (v1 : Int) (M : zM) (S : zS) : Option (zM) :=
  zb1 (F_X6_put 6 (M 5 2) v1 M S) fun M2 => ( zlet (zs M2 5 2 (w ((M2 5 2) + 1))) fun M5 => ( some M5))
def F_X2_dropAxiom_J33 (M : zM) (S : zS) : Option (zM) :=
  zlet (zs M 5 2 (w ((M 5 2) - 1))) fun M2 => ( some M2)
def F_X2_dropAxiom_B4 (v2 : Int) (M : zM) (S : zS) : Option ((Int × zM) ⊕ (zM)) :=
  if v2 < (M 5 2) then (zb1 (F_X2_axiom v2 M S) fun r5 => ( zb1 (F_X6_put 6 (w (v2 - 1)) r5 M S) fun M7 => ( zlet (w (v2 + 1)) fun x9 => ( some (.inl (x9, M7)))))) else (some (.inr M))
def F_X2_dropAxiom_L4 (v2 : Int) (M : zM) (S : zS) : Option (zM) :=
  zb1 (zloop (fun (s : Int × zM) => F_X2_dropAxiom_B4 s.1 s.2 S) zN (v2, M)) (fun (e : zM) => F_X2_dropAxiom_J33 e S)
def F_X2_dropAxiom (v1 : Int) (M : zM) (S : zS) : Option (zM) :=
  zlet (w (v1 + 1)) fun x10 => ( F_X2_dropAxiom_L4 x10 M S)
def F_X2_context_J13 (S : zS) : Option (Nat) :=
  some 0
def F_X2_context (v1 : Int) (S : zS) : Option (Nat) :=
  if v1 < 0 then (F_X2_context_J13 S) else (if v1 < 5 then (zchk ((0 : Int) ≤ v1 ∧ v1 < 5) ( some (zrf S 7 v1))) else (F_X2_context_J13 S))
def F_X2_allContexts (M : zM) : Option (Int) :=
  some (w ((zshl 1 (M 5 3)) - 1))
def F_X2_putContext (v1 : Nat) (M : zM) (S : zS) : Option (zM × zS) :=
  if (M 5 3) < 0 then (some (M, S)) else (if (M 5 3) < 5 then (zchk ((0 : Int) ≤ (M 5 3) ∧ (M 5 3) < 5) ( zchk (v1 = 0 ∨ zkd S v1 = 0) ( zlet (zq S 7 (M 5 3) v1) fun S8 => ( zlet (zs M 5 3 (w ((M 5 3) + 1))) fun M11 => ( some (M11, S8)))))) else (some (M, S)))
def F_X2_dropContext_J34 (M : zM) (S : zS) : Option (zM × zS) :=
  zlet (zs M 5 3 (w ((M 5 3) - 1))) fun M2 => ( some (M2, S))
def F_X2_dropContext_B2 (v2 : Int) (M : zM) (S : zS) : Option ((Int × zS) ⊕ (zS)) :=
  if v2 < 0 then (some (.inr S)) else (if v2 < 5 then (zb1 (F_X2_context (w (v2 + 1)) S) fun r5 => ( zchk ((0 : Int) ≤ v2 ∧ v2 < 5) ( zchk (r5 = 0 ∨ zkd S r5 = 0) ( zlet (zq S 7 v2 r5) fun S9 => ( zlet (w (v2 + 1)) fun x11 => ( some (.inl (x11, S9)))))))) else (some (.inr S)))
def F_X2_dropContext_L2 (v2 : Int) (M : zM) (S : zS) : Option (zM × zS) :=
  zb1 (zloop (fun (s : Int × zS) => F_X2_dropContext_B2 s.1 M s.2) zN (v2, S)) (fun (e : zS) => F_X2_dropContext_J34 M e)
def F_X2_dropContext (v1 : Int) (M : zM) (S : zS) : Option (zM × zS) :=
  F_X2_dropContext_L2 v1 M S
def F_X4_of (v0 : Int) (v1 : Int) (v2 : Int) (v3 : Int) : Option (Int) :=
  some (zor (zor (zor (zshl v0 11) (zshl v1 8)) (zshl v2 4)) v3)
def F_X2_findInsertions_J134 (v4 : Int) (M : zM) (S : zS) : Option (Int × zM) :=
  some (v4, M)
def F_X2_findInsertions_J128 (v1 : Int) (v2 : Nat) (v3 : Int) (v4 : Int) (v5 : Int) (M : zM) (S : zS) : Option ((Int × Int × zM) ⊕ (Int × zM)) :=
  zlet (w (v5 + 1)) fun x1 => ( some (.inl (v4, x1, M)))
def F_X2_findInsertions_J122 (v1 : Int) (v2 : Nat) (v3 : Int) (v4 : Int) (v5 : Int) (v6 : Nat) (v7 : Int) (M : zM) (S : zS) : Option ((Int × Int × zM) ⊕ (Int × zM)) :=
  zlet (w (v7 + 1)) fun x2 => ( some (.inl (v4, x2, M)))
def F_X2_findInsertions_J116 (v1 : Int) (v2 : Nat) (v3 : Int) (v4 : Int) (v5 : Int) (v6 : Nat) (v7 : Int) (v8 : Int) (M : zM) (S : zS) : Option ((Int × Int × zM) ⊕ (Int × zM)) :=
  zlet (w (v8 + 1)) fun x3 => ( some (.inl (v4, x3, M)))
def F_X2_findInsertions_B63 (v1 : Int) (v2 : Nat) (v3 : Int) (v4 : Int) (v5 : Int) (v6 : Nat) (v7 : Int) (v8 : Int) (M : zM) (S : zS) : Option ((Int × Int × zM) ⊕ (Int × zM)) :=
  if v3 < v8 then (some (.inr (v4, M))) else (zchk (zkd S v6 = 0) ( zb2 (F_X0_selects v6 (M 5 4) v1 v3 v7 v8 M S) fun r7 M8 => ( if r7 = 0 then (F_X2_findInsertions_J116 v1 v2 v3 v4 v5 v6 v7 v8 M8 S) else (zchk (zkd S v6 = 0) ( zb1 (F_X0_putAround v6 v1 v3 v7 v8 M8 S) fun r12 => ( zb1 (F_X4_of r12 v5 v7 v8) fun r14 => ( zb1 (F_X6_put v2 v4 r14 M8 S) fun M16 => ( zlet (w (v4 + 1)) fun x18 => ( F_X2_findInsertions_J116 v1 v2 v3 x18 v5 v6 v7 v8 M16 S)))))))))
def F_X2_findInsertions_L63 (v1 : Int) (v2 : Nat) (v3 : Int) (v4 : Int) (v5 : Int) (v6 : Nat) (v7 : Int) (v8 : Int) (M : zM) (S : zS) : Option ((Int × Int × zM) ⊕ (Int × zM)) :=
  zb1 (zloop (fun (s : Int × Int × zM) => F_X2_findInsertions_B63 v1 v2 v3 s.1 v5 v6 v7 s.2.1 s.2.2 S) zN (v4, v8, M)) (fun (e : Int × zM) => F_X2_findInsertions_J122 v1 v2 v3 e.1 v5 v6 v7 e.2 S)
def F_X2_findInsertions_B53 (v1 : Int) (v2 : Nat) (v3 : Int) (v4 : Int) (v5 : Int) (v6 : Nat) (v7 : Int) (M : zM) (S : zS) : Option ((Int × Int × zM) ⊕ (Int × zM)) :=
  if v3 < v7 then (some (.inr (v4, M))) else (F_X2_findInsertions_L63 v1 v2 v3 v4 v5 v6 v7 v7 M S)
def F_X2_findInsertions_L53 (v1 : Int) (v2 : Nat) (v3 : Int) (v4 : Int) (v5 : Int) (v6 : Nat) (v7 : Int) (M : zM) (S : zS) : Option ((Int × Int × zM) ⊕ (Int × zM)) :=
  zb1 (zloop (fun (s : Int × Int × zM) => F_X2_findInsertions_B53 v1 v2 v3 s.1 v5 v6 s.2.1 s.2.2 S) zN (v4, v7, M)) (fun (e : Int × zM) => F_X2_findInsertions_J128 v1 v2 v3 e.1 v5 e.2 S)
def F_X2_findInsertions_B11 (v1 : Int) (v2 : Nat) (v3 : Int) (v4 : Int) (v5 : Int) (M : zM) (S : zS) : Option ((Int × Int × zM) ⊕ (Int × zM)) :=
  if v5 < (M 5 3) then (zb1 (F_X2_context v5 S) fun r22 => ( if r22 = 0 then (F_X2_findInsertions_J128 v1 v2 v3 v4 v5 M S) else (zchk (zkd S r22 = 0) ( zb1 (F_X0_growth r22 M S) fun r26 => ( if (M 5 5) < (w (v3 + r26)) then (F_X2_findInsertions_J128 v1 v2 v3 v4 v5 M S) else (F_X2_findInsertions_L53 v1 v2 v3 v4 v5 r22 0 M S)))))) else (some (.inr (v4, M)))
def F_X2_findInsertions_L11 (v1 : Int) (v2 : Nat) (v3 : Int) (v4 : Int) (v5 : Int) (M : zM) (S : zS) : Option (Int × zM) :=
  zb1 (zloop (fun (s : Int × Int × zM) => F_X2_findInsertions_B11 v1 v2 v3 s.1 s.2.1 s.2.2 S) zN (v4, v5, M)) (fun (e : Int × zM) => F_X2_findInsertions_J134 e.1 e.2 S)
def F_X2_findInsertions (v1 : Int) (v2 : Nat) (M : zM) (S : zS) : Option (Int × zM) :=
  zb1 (F_X9_length v1) fun r30 => ( F_X2_findInsertions_L11 v1 v2 r30 0 0 M S)
def F_X2_findReductions_J165 (v4 : Int) (M : zM) (S : zS) : Option (Int × zM) :=
  some (v4, M)
def F_X2_findReductions_J159 (v1 : Int) (v2 : Nat) (v3 : Int) (v4 : Int) (v5 : Int) (M : zM) (S : zS) : Option ((Int × Int × zM) ⊕ (Int × zM)) :=
  zlet (w (v5 + 1)) fun x1 => ( some (.inl (v4, x1, M)))
def F_X2_findReductions_J153 (v1 : Int) (v2 : Nat) (v3 : Int) (v4 : Int) (v5 : Int) (v6 : Nat) (v7 : Int) (v8 : Int) (M : zM) (S : zS) : Option ((Int × Int × zM) ⊕ (Int × zM)) :=
  zlet (w (v8 + 1)) fun x2 => ( some (.inl (v4, x2, M)))
def F_X2_findReductions_J147 (v1 : Int) (v2 : Nat) (v3 : Int) (v4 : Int) (v5 : Int) (v6 : Nat) (v7 : Int) (v8 : Int) (v9 : Int) (M : zM) (S : zS) : Option ((Int × Int × zM) ⊕ (Int × zM)) :=
  zlet (w (v9 + 1)) fun x3 => ( some (.inl (v4, x3, M)))
def F_X2_findReductions_B82 (v1 : Int) (v2 : Nat) (v3 : Int) (v4 : Int) (v5 : Int) (v6 : Nat) (v7 : Int) (v8 : Int) (v9 : Int) (M : zM) (S : zS) : Option ((Int × Int × zM) ⊕ (Int × zM)) :=
  if v7 < v9 then (some (.inr (v4, M))) else (zchk (zkd S v6 = 0) ( zb1 (F_X0_takeAway v6 v1 v3 v8 v9 M S) fun r6 => ( if r6 < 0 then (F_X2_findReductions_J147 v1 v2 v3 v4 v5 v6 v7 v8 v9 M S) else (zchk (zkd S v6 = 0) ( zb2 (F_X0_selects v6 (M 5 4) r6 v7 v8 v9 M S) fun r11 M12 => ( if r11 = 0 then (F_X2_findReductions_J147 v1 v2 v3 v4 v5 v6 v7 v8 v9 M12 S) else (zb1 (F_X4_of r6 v5 v8 v9) fun r15 => ( zb1 (F_X6_put v2 v4 r15 M12 S) fun M17 => ( zlet (w (v4 + 1)) fun x19 => ( F_X2_findReductions_J147 v1 v2 v3 x19 v5 v6 v7 v8 v9 M17 S))))))))))
def F_X2_findReductions_L82 (v1 : Int) (v2 : Nat) (v3 : Int) (v4 : Int) (v5 : Int) (v6 : Nat) (v7 : Int) (v8 : Int) (v9 : Int) (M : zM) (S : zS) : Option ((Int × Int × zM) ⊕ (Int × zM)) :=
  zb1 (zloop (fun (s : Int × Int × zM) => F_X2_findReductions_B82 v1 v2 v3 s.1 v5 v6 v7 v8 s.2.1 s.2.2 S) zN (v4, v9, M)) (fun (e : Int × zM) => F_X2_findReductions_J153 v1 v2 v3 e.1 v5 v6 v7 v8 e.2 S)
def F_X2_findReductions_B56 (v1 : Int) (v2 : Nat) (v3 : Int) (v4 : Int) (v5 : Int) (v6 : Nat) (v7 : Int) (v8 : Int) (M : zM) (S : zS) : Option ((Int × Int × zM) ⊕ (Int × zM)) :=
  if v7 < v8 then (some (.inr (v4, M))) else (zchk (zkd S v6 = 0) ( zb1 (F_X0_leftStandsAt v6 v1 v3 v8 M S) fun r22 => ( if r22 = 0 then (F_X2_findReductions_J153 v1 v2 v3 v4 v5 v6 v7 v8 M S) else (F_X2_findReductions_L82 v1 v2 v3 v4 v5 v6 v7 v8 v8 M S))))
def F_X2_findReductions_L56 (v1 : Int) (v2 : Nat) (v3 : Int) (v4 : Int) (v5 : Int) (v6 : Nat) (v7 : Int) (v8 : Int) (M : zM) (S : zS) : Option ((Int × Int × zM) ⊕ (Int × zM)) :=
  zb1 (zloop (fun (s : Int × Int × zM) => F_X2_findReductions_B56 v1 v2 v3 s.1 v5 v6 v7 s.2.1 s.2.2 S) zN (v4, v8, M)) (fun (e : Int × zM) => F_X2_findReductions_J159 v1 v2 v3 e.1 v5 e.2 S)
def F_X2_findReductions_B11 (v1 : Int) (v2 : Nat) (v3 : Int) (v4 : Int) (v5 : Int) (M : zM) (S : zS) : Option ((Int × Int × zM) ⊕ (Int × zM)) :=
  if v5 < (M 5 3) then (if (M 5 5) < v3 then (some (.inr (v4, M))) else (zb1 (F_X2_context v5 S) fun r29 => ( if r29 = 0 then (F_X2_findReductions_J159 v1 v2 v3 v4 v5 M S) else (zchk (zkd S r29 = 0) ( zb1 (F_X0_growth r29 M S) fun r33 => ( zlet (w (v3 - r33)) fun x35 => ( F_X2_findReductions_L56 v1 v2 v3 v4 v5 r29 x35 0 M S))))))) else (some (.inr (v4, M)))
def F_X2_findReductions_L11 (v1 : Int) (v2 : Nat) (v3 : Int) (v4 : Int) (v5 : Int) (M : zM) (S : zS) : Option (Int × zM) :=
  zb1 (zloop (fun (s : Int × Int × zM) => F_X2_findReductions_B11 v1 v2 v3 s.1 s.2.1 s.2.2 S) zN (v4, v5, M)) (fun (e : Int × zM) => F_X2_findReductions_J165 e.1 e.2 S)
def F_X2_findReductions (v1 : Int) (v2 : Nat) (M : zM) (S : zS) : Option (Int × zM) :=
  zb1 (F_X9_length v1) fun r36 => ( F_X2_findReductions_L11 v1 v2 r36 0 0 M S)
def F_X3_init (v0 : Nat) (S : zS) : Option (zS) :=
  zchk (¬ v0 = 0) ( zlet (S.1 + 1) fun q2 => ( zchk (S.1 < 47) ( zlet (zn S (20, 300)) fun S4 => ( zchk (zkd S4 v0 = 3) ( zlet (zq S4 v0 0 q2) fun S6 => ( zlet (S6.1 + 1) fun q7 => ( zchk (S6.1 < 47) ( zlet (zn S6 (20, 29524)) fun S9 => ( zchk (zkd S9 v0 = 3) ( zlet (zq S9 v0 1 q7) fun S11 => ( zlet (S11.1 + 1) fun q12 => ( zchk (S11.1 < 47) ( zlet (zn S11 (20, 67500)) fun S14 => ( zchk (zkd S14 v0 = 3) ( zlet (zq S14 v0 2 q12) fun S16 => ( zlet (S16.1 + 1) fun q17 => ( zchk (S16.1 < 47) ( zlet (zn S16 (20, 301)) fun S19 => ( zchk (zkd S19 v0 = 3) ( zlet (zq S19 v0 3 q17) fun S21 => ( zlet (S21.1 + 1) fun q22 => ( zchk (S21.1 < 47) ( zlet (zn S21 (20, 225)) fun S24 => ( zchk (zkd S24 v0 = 3) ( zlet (zq S24 v0 4 q22) fun S26 => ( zlet (S26.1 + 1) fun q27 => ( zchk (S26.1 < 47) ( zlet (zn S26 (20, 300)) fun S29 => ( zchk (zkd S29 v0 = 3) ( zlet (zq S29 v0 5 q27) fun S31 => ( zlet (S31.1 + 1) fun q32 => ( zchk (S31.1 < 47) ( zlet (zn S31 (20, 300)) fun S34 => ( zchk (zkd S34 v0 = 3) ( zlet (zq S34 v0 6 q32) fun S36 => ( zlet (S36.1 + 1) fun q37 => ( zchk (S36.1 < 47) ( zlet (zn S36 (20, 300)) fun S39 => ( zchk (zkd S39 v0 = 3) ( zlet (zq S39 v0 7 q37) fun S41 => ( zlet (S41.1 + 1) fun q42 => ( zchk (S41.1 < 47) ( zlet (zn S41 (20, 300)) fun S44 => ( zchk (zkd S44 v0 = 3) ( zlet (zq S44 v0 8 q42) fun S46 => ( zlet (S46.1 + 1) fun q47 => ( zchk (S46.1 < 47) ( zlet (zn S46 (20, 300)) fun S49 => ( zchk (zkd S49 v0 = 3) ( zlet (zq S49 v0 9 q47) fun S51 => ( zlet (S51.1 + 1) fun q52 => ( zchk (S51.1 < 47) ( zlet (zn S51 (20, 300)) fun S54 => ( zchk (zkd S54 v0 = 3) ( zlet (zq S54 v0 10 q52) fun S56 => ( zlet (S56.1 + 1) fun q57 => ( zchk (S56.1 < 47) ( zlet (zn S56 (21, 300)) fun S59 => ( zchk (zkd S59 v0 = 3) ( zlet (zq S59 v0 11 q57) fun S61 => ( zlet (S61.1 + 1) fun q62 => ( zchk (S61.1 < 47) ( zlet (zn S61 (20, 5)) fun S64 => ( zchk (zkd S64 v0 = 3) ( zlet (zq S64 v0 12 q62) fun S66 => ( some S66))))))))))))))))))))))))))))))))))))))))))))))))))))))))))))))))))
def F_X3_wordAt (v1 : Int) (M : zM) (S : zS) : Option (Int) :=
  zb1 (F_X6_at 12 v1 M S) fun r1 => ( some r1)
def F_J7_fill_53178_J20 (M : zM) (S : zS) : Option (zM) :=
  some M
def F_J7_fill_53178_B5 (v0 : Nat) (v1 : Int) (v2 : Int) (v3 : Int) (M : zM) (S : zS) : Option ((Int × zM) ⊕ (zM)) :=
  if v2 < v3 then (zchk (zkd S v0 = 20) ( zchk ((0 : Int) ≤ v2 ∧ v2 < (zlen S v0)) ( zlet (zs M v0 v2 v1) fun M4 => ( zlet (w (v2 + 1)) fun x5 => ( some (.inl (x5, M4))))))) else (some (.inr M))
def F_J7_fill_53178_L5 (v0 : Nat) (v1 : Int) (v2 : Int) (v3 : Int) (M : zM) (S : zS) : Option (zM) :=
  zb1 (zloop (fun (s : Int × zM) => F_J7_fill_53178_B5 v0 v1 s.1 v3 s.2 S) zN (v2, M)) (fun (e : zM) => F_J7_fill_53178_J20 e S)
def F_J7_fill_53178 (v0 : Nat) (v1 : Int) (M : zM) (S : zS) : Option (zM) :=
  zchk (zkd S v0 = 20) ( zlet (zlen S v0) fun x8 => ( F_J7_fill_53178_L5 v0 v1 0 x8 M S))
def F_X3_forget_J29 (M : zM) (S : zS) : Option (zM) :=
  zb1 (F_J7_fill_53178 17 0 M S) fun M1 => ( zb1 (F_J7_fill_53178 24 0 M1 S) fun M3 => ( zlet (zs M3 11 13 0) fun M5 => ( zlet (zs M5 11 14 0) fun M6 => ( zlet (zs M6 11 15 0) fun M7 => ( zlet (zs M7 11 16 0) fun M8 => ( zlet (zs M8 11 17 (-1)) fun M9 => ( some M9)))))))
def F_X3_forget_B2 (v1 : Int) (M : zM) (S : zS) : Option ((Int × zM) ⊕ (zM)) :=
  if v1 < (M 11 13) then (zb1 (F_X3_wordAt v1 M S) fun r12 => ( zb1 (F_X6_put 13 r12 0 M S) fun M14 => ( zlet (w (v1 + 1)) fun x16 => ( some (.inl (x16, M14)))))) else (some (.inr M))
def F_X3_forget_L2 (v1 : Int) (M : zM) (S : zS) : Option (zM) :=
  zb1 (zloop (fun (s : Int × zM) => F_X3_forget_B2 s.1 s.2 S) zN (v1, M)) (fun (e : zM) => F_X3_forget_J29 e S)
def F_X3_forget (M : zM) (S : zS) : Option (zM) :=
  F_X3_forget_L2 0 M S
def F_X6_putInOrder_J45 (v0 : Nat) (v2 : Int) (v3 : Int) (M : zM) (S : zS) : Option (zM) :=
  zb1 (F_X6_put v0 v3 v2 M S) fun M1 => ( some M1)
def F_X6_putInOrder_B7 (v0 : Nat) (v2 : Int) (v3 : Int) (v4 : Int) (M : zM) (S : zS) : Option ((Int × Int × zM) ⊕ (Int × zM)) :=
  if v4 < 0 then (some (.inr (v3, M))) else (zb1 (F_X6_at v0 v4 M S) fun r4 => ( if v2 < r4 then (zb1 (F_X6_at v0 v4 M S) fun r7 => ( zb1 (F_X6_put v0 (w (v4 + 1)) r7 M S) fun M9 => ( zlet (w (v4 + (-1))) fun x11 => ( some (.inl (v4, x11, M9)))))) else (some (.inr (v3, M)))))
def F_X6_putInOrder_L7 (v0 : Nat) (v2 : Int) (v3 : Int) (v4 : Int) (M : zM) (S : zS) : Option (zM) :=
  zb1 (zloop (fun (s : Int × Int × zM) => F_X6_putInOrder_B7 v0 v2 s.1 s.2.1 s.2.2 S) zN (v3, v4, M)) (fun (e : Int × zM) => F_X6_putInOrder_J45 v0 v2 e.1 e.2 S)
def F_X6_putInOrder (v0 : Nat) (v1 : Int) (v2 : Int) (M : zM) (S : zS) : Option (zM) :=
  zlet (w (v1 - 1)) fun x12 => ( F_X6_putInOrder_L7 v0 v2 v1 x12 M S)
def F_X3_addWord (v1 : Int) (M : zM) (S : zS) : Option (zM) :=
  zb1 (F_X6_at 13 v1 M S) fun r1 => ( if r1 = 0 then (if (M 11 13) < 300 then (zb1 (F_X6_put 13 v1 1 M S) fun M6 => ( zb1 (F_X6_putInOrder 12 (M6 11 13) v1 M6 S) fun M9 => ( zlet (zs M9 11 13 (w ((M9 11 13) + 1))) fun M12 => ( some M12)))) else (zlet (zs M 11 15 1) fun M13 => ( some M13))) else (some M))
def F_X4_word (v0 : Int) : Option (Int) :=
  some (zshr v0 11)
def F_X3_addResults_J52 (M : zM) (S : zS) : Option (zM) :=
  some M
def F_X3_addResults_B2 (v1 : Int) (v2 : Int) (M : zM) (S : zS) : Option ((Int × zM) ⊕ (zM)) :=
  if v2 < v1 then (zb1 (F_X6_at 16 v2 M S) fun r2 => ( zb1 (F_X4_word r2) fun r4 => ( zb1 (F_X3_addWord r4 M S) fun M6 => ( zb1 (F_X6_put 14 (M6 11 14) r2 M6 S) fun M9 => ( zlet (zs M9 11 14 (w ((M9 11 14) + 1))) fun M12 => ( zlet (w (v2 + 1)) fun x13 => ( some (.inl (x13, M12))))))))) else (some (.inr M))
def F_X3_addResults_L2 (v1 : Int) (v2 : Int) (M : zM) (S : zS) : Option (zM) :=
  zb1 (zloop (fun (s : Int × zM) => F_X3_addResults_B2 v1 s.1 s.2 S) zN (v2, M)) (fun (e : zM) => F_X3_addResults_J52 e S)
def F_X3_addResults (v1 : Int) (M : zM) (S : zS) : Option (zM) :=
  F_X3_addResults_L2 v1 0 M S
def F_X3_placeOf (v1 : Int) (M : zM) (S : zS) : Option (Int) :=
  zb1 (F_X6_at 13 v1 M S) fun r1 => ( some (w (r1 - 1)))
def F_X4_withWord (v0 : Int) (v1 : Int) : Option (Int) :=
  some (zor (zshl v1 11) (zand v0 2047))
def F_X3_numberWords_J109 (M : zM) (S : zS) : Option (zM) :=
  some M
def F_X3_numberWords_B78 (v2 : Int) (M : zM) (S : zS) : Option ((Int × zM) ⊕ (zM)) :=
  if v2 < (M 5 2) then (zb1 (F_X2_axiom v2 M S) fun r3 => ( zb1 (F_X3_placeOf r3 M S) fun r5 => ( zb1 (F_X6_put 17 r5 1 M S) fun M7 => ( zlet (w (v2 + 1)) fun x9 => ( some (.inl (x9, M7))))))) else (some (.inr M))
def F_X3_numberWords_L78 (v2 : Int) (M : zM) (S : zS) : Option (zM) :=
  zb1 (zloop (fun (s : Int × zM) => F_X3_numberWords_B78 s.1 s.2 S) zN (v2, M)) (fun (e : zM) => F_X3_numberWords_J109 e S)
def F_X3_numberWords_J76 (M : zM) (S : zS) : Option (zM) :=
  F_X3_numberWords_L78 0 M S
def F_X3_numberWords_B33 (v2 : Int) (M : zM) (S : zS) : Option ((Int × zM) ⊕ (zM)) :=
  if v2 < (M 11 14) then (zb1 (F_X6_at 14 v2 M S) fun r12 => ( zb1 (F_X4_word r12) fun r14 => ( zb1 (F_X3_placeOf r14 M S) fun r16 => ( zb1 (F_X4_withWord r12 r16) fun r18 => ( zb1 (F_X6_put 14 v2 r18 M S) fun M20 => ( zlet (w (v2 + 1)) fun x22 => ( some (.inl (x22, M20))))))))) else (some (.inr M))
def F_X3_numberWords_L33 (v2 : Int) (M : zM) (S : zS) : Option (zM) :=
  zb1 (zloop (fun (s : Int × zM) => F_X3_numberWords_B33 s.1 s.2 S) zN (v2, M)) (fun (e : zM) => F_X3_numberWords_J76 e S)
def F_X3_numberWords_J31 (M : zM) (S : zS) : Option (zM) :=
  F_X3_numberWords_L33 0 M S
def F_X3_numberWords_B2 (v2 : Int) (M : zM) (S : zS) : Option ((Int × zM) ⊕ (zM)) :=
  if v2 < (M 11 13) then (zb1 (F_X3_wordAt v2 M S) fun r25 => ( zb1 (F_X6_put 13 r25 (w (v2 + 1)) M S) fun M27 => ( zlet (w (v2 + 1)) fun x29 => ( some (.inl (x29, M27)))))) else (some (.inr M))
def F_X3_numberWords_L2 (v2 : Int) (M : zM) (S : zS) : Option (zM) :=
  zb1 (zloop (fun (s : Int × zM) => F_X3_numberWords_B2 s.1 s.2 S) zN (v2, M)) (fun (e : zM) => F_X3_numberWords_J31 e S)
def F_X3_numberWords (M : zM) (S : zS) : Option (zM) :=
  F_X3_numberWords_L2 0 M S
def F_X3_countPaths_J115 (M : zM) (S : zS) : Option (zM) :=
  some M
def F_X3_countPaths_J109 (v1 : Int) (M : zM) (S : zS) : Option ((Int × zM) ⊕ (zM)) :=
  zlet (w (v1 + 1)) fun x1 => ( some (.inl (x1, M)))
def F_X3_countPaths_B52 (v1 : Int) (v2 : Int) (M : zM) (S : zS) : Option ((Int × zM) ⊕ (zM)) :=
  zb1 (F_X6_at 15 (w (v1 + 1)) M S) fun r2 => ( if v2 < r2 then (zb1 (F_X6_at 14 v2 M S) fun r5 => ( zb1 (F_X4_word r5) fun r7 => ( zb1 (F_X6_at_ 23 r7 M S) fun r9 => ( zb1 (F_X6_at_ 23 v1 M S) fun r11 => ( zb1 (F_X6_put_ 23 r7 (zladd r9 r11) M S) fun M13 => ( zlet (w (v2 + 1)) fun x15 => ( some (.inl (x15, M13))))))))) else (some (.inr M)))
def F_X3_countPaths_L52 (v1 : Int) (v2 : Int) (M : zM) (S : zS) : Option ((Int × zM) ⊕ (zM)) :=
  zb1 (zloop (fun (s : Int × zM) => F_X3_countPaths_B52 v1 s.1 s.2 S) zN (v2, M)) (fun (e : zM) => F_X3_countPaths_J109 v1 e S)
def F_X3_countPaths_B35 (v1 : Int) (M : zM) (S : zS) : Option ((Int × zM) ⊕ (zM)) :=
  if v1 < (M 11 13) then (zb1 (F_X6_at 15 v1 M S) fun r18 => ( F_X3_countPaths_L52 v1 r18 M S)) else (some (.inr M))
def F_X3_countPaths_L35 (v1 : Int) (M : zM) (S : zS) : Option (zM) :=
  zb1 (zloop (fun (s : Int × zM) => F_X3_countPaths_B35 s.1 s.2 S) zN (v1, M)) (fun (e : zM) => F_X3_countPaths_J115 e S)
def F_X3_countPaths_J33 (M : zM) (S : zS) : Option (zM) :=
  F_X3_countPaths_L35 0 M S
def F_X3_countPaths_B2 (v1 : Int) (M : zM) (S : zS) : Option ((Int × zM) ⊕ (zM)) :=
  if v1 < (M 11 13) then (zb1 (F_X6_at 17 v1 M S) fun r22 => ( zb1 (F_X6_put_ 23 v1 r22 M S) fun M24 => ( zlet (w (v1 + 1)) fun x26 => ( some (.inl (x26, M24)))))) else (some (.inr M))
def F_X3_countPaths_L2 (v1 : Int) (M : zM) (S : zS) : Option (zM) :=
  zb1 (zloop (fun (s : Int × zM) => F_X3_countPaths_B2 s.1 s.2 S) zN (v1, M)) (fun (e : zM) => F_X3_countPaths_J33 e S)
def F_X3_countPaths (M : zM) (S : zS) : Option (zM) :=
  F_X3_countPaths_L2 0 M S
def F_X4_context (v0 : Int) : Option (Int) :=
  some (zand (zshr v0 8) 7)
def F_X3_findFollowers_J158 (M : zM) (S : zS) : Option (zM) :=
  some M
def F_X3_findFollowers_J152 (v1 : Int) (M : zM) (S : zS) : Option ((Int × zM) ⊕ (zM)) :=
  zlet (w (v1 + 1)) fun x1 => ( some (.inl (x1, M)))
def F_X3_findFollowers_J146 (v1 : Int) (v2 : Int) (v3 : Int) (M : zM) (S : zS) : Option ((Int × zM) ⊕ (zM)) :=
  zlet (w (v3 + 1)) fun x2 => ( some (.inl (x2, M)))
def F_X3_findFollowers_B112 (v1 : Int) (v2 : Int) (v3 : Int) (M : zM) (S : zS) : Option ((Int × zM) ⊕ (zM)) :=
  if v3 < 5 then (zb1 (F_X6_at 18 v1 M S) fun r4 => ( if (zand r4 (zshl 1 v3)) = 0 then (F_X3_findFollowers_J146 v1 v2 v3 M S) else (zchk ((0 : Int) ≤ v3 ∧ v3 < 5) ( zchk ((0 : Int) ≤ v3 ∧ v3 < 5) ( zlet (zs M 24 v3 (zor (M 24 v3) v2)) fun M10 => ( F_X3_findFollowers_J146 v1 v2 v3 M10 S)))))) else (some (.inr M))
def F_X3_findFollowers_L112 (v1 : Int) (v2 : Int) (v3 : Int) (M : zM) (S : zS) : Option ((Int × zM) ⊕ (zM)) :=
  zb1 (zloop (fun (s : Int × zM) => F_X3_findFollowers_B112 v1 v2 s.1 s.2 S) zN (v3, M)) (fun (e : zM) => F_X3_findFollowers_J152 v1 e S)
def F_X3_findFollowers_J100 (v1 : Int) (v2 : Int) (M : zM) (S : zS) : Option ((Int × zM) ⊕ (zM)) :=
  zlet (zs M 11 16 (zor (M 11 16) v2)) fun M12 => ( F_X3_findFollowers_L112 v1 v2 0 M12 S)
def F_X3_findFollowers_B29 (v1 : Int) (v2 : Int) (v3 : Int) (M : zM) (S : zS) : Option ((Int × Int × zM) ⊕ (Int × zM)) :=
  zb1 (F_X6_at 15 (w (v1 + 1)) M S) fun r13 => ( if v3 < r13 then (zb1 (F_X6_at 14 v3 M S) fun r16 => ( zb1 (F_X4_context r16) fun r18 => ( zlet (zshl 1 r18) fun x20 => ( zlet (zor v2 x20) fun x21 => ( zb1 (F_X4_word r16) fun r22 => ( zb1 (F_X4_word r16) fun r24 => ( zb1 (F_X6_at 18 r24 M S) fun r26 => ( zb1 (F_X6_put 18 r22 (zor r26 x20) M S) fun M28 => ( zlet (w (v3 + 1)) fun x30 => ( some (.inl (x21, x30, M28)))))))))))) else (some (.inr (v2, M))))
def F_X3_findFollowers_L29 (v1 : Int) (v2 : Int) (v3 : Int) (M : zM) (S : zS) : Option ((Int × zM) ⊕ (zM)) :=
  zb1 (zloop (fun (s : Int × Int × zM) => F_X3_findFollowers_B29 v1 s.1 s.2.1 s.2.2 S) zN (v2, v3, M)) (fun (e : Int × zM) => F_X3_findFollowers_J100 v1 e.1 e.2 S)
def F_X3_findFollowers_B10 (v1 : Int) (M : zM) (S : zS) : Option ((Int × zM) ⊕ (zM)) :=
  if v1 < (M 11 13) then (zb1 (F_X6_at 15 v1 M S) fun r33 => ( F_X3_findFollowers_L29 v1 0 r33 M S)) else (some (.inr M))
def F_X3_findFollowers_L10 (v1 : Int) (M : zM) (S : zS) : Option (zM) :=
  zb1 (zloop (fun (s : Int × zM) => F_X3_findFollowers_B10 s.1 s.2 S) zN (v1, M)) (fun (e : zM) => F_X3_findFollowers_J158 e S)
def F_X3_findFollowers (M : zM) (S : zS) : Option (zM) :=
  zb1 (F_J7_fill_53178 18 0 M S) fun M35 => ( F_X3_findFollowers_L10 0 M35 S)
def F_X3_findBestDerivations_J203 (M : zM) (S : zS) : Option (zM) :=
  some M
def F_X3_findBestDerivations_J197 (v1 : Int) (v2 : Int) (M : zM) (S : zS) : Option ((Int × Int × zM) ⊕ (zM)) :=
  zlet (w (v2 + 1)) fun x1 => ( some (.inl (v1, x1, M)))
def F_X3_findBestDerivations_J191 (v1 : Int) (v2 : Int) (v3 : Int) (v4 : Int) (M : zM) (S : zS) : Option ((Int × Int × zM) ⊕ (Int × zM)) :=
  zlet (w (v4 + 1)) fun x2 => ( some (.inl (v1, x2, M)))
def F_X3_findBestDerivations_B93 (v1 : Int) (v2 : Int) (v3 : Int) (v4 : Int) (M : zM) (S : zS) : Option ((Int × Int × zM) ⊕ (Int × zM)) :=
  zb1 (F_X6_at 15 (w (v3 + 1)) M S) fun r3 => ( if v4 < r3 then (zb1 (F_X6_at 14 v4 M S) fun r6 => ( zb1 (F_X4_word r6) fun r8 => ( zb1 (F_X6_at 20 r8 M S) fun r10 => ( if r10 < 0 then (zb1 (F_X6_at 20 v3 M S) fun r13 => ( zb1 (F_X6_put 20 r8 (w (r13 + 1)) M S) fun M15 => ( zb1 (F_X6_put 21 r8 r6 M15 S) fun M17 => ( zb1 (F_X6_put 22 r8 v3 M17 S) fun M19 => ( zb1 (F_X6_put 19 v1 r8 M19 S) fun M21 => ( zlet (w (v1 + 1)) fun x23 => ( F_X3_findBestDerivations_J191 x23 v2 v3 v4 M21 S))))))) else (F_X3_findBestDerivations_J191 v1 v2 v3 v4 M S))))) else (some (.inr (v1, M))))
def F_X3_findBestDerivations_L93 (v1 : Int) (v2 : Int) (v3 : Int) (v4 : Int) (M : zM) (S : zS) : Option ((Int × Int × zM) ⊕ (zM)) :=
  zb1 (zloop (fun (s : Int × Int × zM) => F_X3_findBestDerivations_B93 s.1 v2 v3 s.2.1 s.2.2 S) zN (v1, v4, M)) (fun (e : Int × zM) => F_X3_findBestDerivations_J197 e.1 v2 e.2 S)
def F_X3_findBestDerivations_B62 (v1 : Int) (v2 : Int) (M : zM) (S : zS) : Option ((Int × Int × zM) ⊕ (zM)) :=
  if v2 < v1 then (if v2 < 300 then (zb1 (F_X6_at 19 v2 M S) fun r26 => ( zb1 (F_X6_at 15 r26 M S) fun r28 => ( F_X3_findBestDerivations_L93 v1 v2 r26 r28 M S))) else (some (.inr M))) else (some (.inr M))
def F_X3_findBestDerivations_L62 (v1 : Int) (v2 : Int) (M : zM) (S : zS) : Option (zM) :=
  zb1 (zloop (fun (s : Int × Int × zM) => F_X3_findBestDerivations_B62 s.1 s.2.1 s.2.2 S) zN (v1, v2, M)) (fun (e : zM) => F_X3_findBestDerivations_J203 e S)
def F_X3_findBestDerivations_J60 (v1 : Int) (M : zM) (S : zS) : Option (zM) :=
  F_X3_findBestDerivations_L62 v1 0 M S
def F_X3_findBestDerivations_J54 (v1 : Int) (v2 : Int) (M : zM) (S : zS) : Option ((Int × Int × zM) ⊕ (Int × zM)) :=
  zlet (w (v2 + 1)) fun x30 => ( some (.inl (v1, x30, M)))
def F_X3_findBestDerivations_B4 (v1 : Int) (v2 : Int) (M : zM) (S : zS) : Option ((Int × Int × zM) ⊕ (Int × zM)) :=
  if v2 < (M 11 13) then (zb1 (F_X6_at 17 v2 M S) fun r33 => ( zb1 (F_X6_put 20 v2 (w (r33 - 1)) M S) fun M35 => ( zb1 (F_X6_at 17 v2 M35 S) fun r37 => ( if r37 = 1 then (zb1 (F_X6_put 19 v1 v2 M35 S) fun M40 => ( zlet (w (v1 + 1)) fun x42 => ( F_X3_findBestDerivations_J54 x42 v2 M40 S))) else (F_X3_findBestDerivations_J54 v1 v2 M35 S))))) else (some (.inr (v1, M)))
def F_X3_findBestDerivations_L4 (v1 : Int) (v2 : Int) (M : zM) (S : zS) : Option (zM) :=
  zb1 (zloop (fun (s : Int × Int × zM) => F_X3_findBestDerivations_B4 s.1 s.2.1 s.2.2 S) zN (v1, v2, M)) (fun (e : Int × zM) => F_X3_findBestDerivations_J60 e.1 e.2 S)
def F_X3_findBestDerivations (M : zM) (S : zS) : Option (zM) :=
  F_X3_findBestDerivations_L4 0 0 M S
def F_X3_build_J105 (M : zM) (S : zS) : Option (zM) :=
  if (M 11 15) = 0 then (zb1 (F_X3_numberWords M S) fun M3 => ( zb1 (F_X3_countPaths M3 S) fun M5 => ( zb1 (F_X3_findFollowers M5 S) fun M7 => ( zb1 (F_X3_findBestDerivations M7 S) fun M9 => ( some M9))))) else (some M)
def F_X3_build_B46 (v2 : Int) (M : zM) (S : zS) : Option ((Int × zM) ⊕ (zM)) :=
  if v2 < (M 11 13) then (if v2 < 300 then (if (M 11 15) = 0 then (zb1 (F_X3_wordAt v2 M S) fun r16 => ( zb2 (F_X2_findInsertions r16 16 M S) fun r18 M19 => ( zb1 (F_X3_addResults r18 M19 S) fun M21 => ( zb1 (F_X6_put 15 (w (v2 + 1)) (M21 11 14) M21 S) fun M24 => ( zlet (w (v2 + 1)) fun x26 => ( some (.inl (x26, M24)))))))) else (some (.inr M))) else (some (.inr M))) else (some (.inr M))
def F_X3_build_L46 (v2 : Int) (M : zM) (S : zS) : Option (zM) :=
  zb1 (zloop (fun (s : Int × zM) => F_X3_build_B46 s.1 s.2 S) zN (v2, M)) (fun (e : zM) => F_X3_build_J105 e S)
def F_X3_build_J44 (M : zM) (S : zS) : Option (zM) :=
  F_X3_build_L46 0 M S
def F_X3_build_J38 (v2 : Int) (M : zM) (S : zS) : Option ((Int × zM) ⊕ (zM)) :=
  zlet (w (v2 + 1)) fun x27 => ( some (.inl (x27, M)))
def F_X3_build_B6 (v2 : Int) (M : zM) (S : zS) : Option ((Int × zM) ⊕ (zM)) :=
  if v2 < (M 5 2) then (zb1 (F_X2_axiom v2 M S) fun r30 => ( zb1 (F_X9_length r30) fun r32 => ( if (M 5 5) < r32 then (F_X3_build_J38 v2 M S) else (zb1 (F_X2_axiom v2 M S) fun r36 => ( zb1 (F_X3_addWord r36 M S) fun M38 => ( F_X3_build_J38 v2 M38 S)))))) else (some (.inr M))
def F_X3_build_L6 (v2 : Int) (M : zM) (S : zS) : Option (zM) :=
  zb1 (zloop (fun (s : Int × zM) => F_X3_build_B6 s.1 s.2 S) zN (v2, M)) (fun (e : zM) => F_X3_build_J44 e S)
def F_X3_build (M : zM) (S : zS) : Option (zM) :=
  zb1 (F_X3_forget M S) fun M40 => ( F_X3_build_L6 0 M40 S)
def F_X3_wordsOfLength_J33 (v2 : Int) (M : zM) (S : zS) : Option (Int) :=
  some v2
def F_X3_wordsOfLength_J27 (v1 : Int) (v2 : Int) (v3 : Int) (M : zM) (S : zS) : Option ((Int × Int) ⊕ (Int)) :=
  zlet (w (v3 + 1)) fun x1 => ( some (.inl (v2, x1)))
def F_X3_wordsOfLength_B4 (v1 : Int) (v2 : Int) (v3 : Int) (M : zM) (S : zS) : Option ((Int × Int) ⊕ (Int)) :=
  if v3 < (M 11 13) then (zb1 (F_X3_wordAt v3 M S) fun r4 => ( zb1 (F_X9_length r4) fun r6 => ( if r6 = v1 then (zlet (w (v2 + 1)) fun x9 => ( F_X3_wordsOfLength_J27 v1 x9 v3 M S)) else (F_X3_wordsOfLength_J27 v1 v2 v3 M S)))) else (some (.inr v2))
def F_X3_wordsOfLength_L4 (v1 : Int) (v2 : Int) (v3 : Int) (M : zM) (S : zS) : Option (Int) :=
  zb1 (zloop (fun (s : Int × Int) => F_X3_wordsOfLength_B4 v1 s.1 s.2 M S) zN (v2, v3)) (fun (e : Int) => F_X3_wordsOfLength_J33 e M S)
def F_X3_wordsOfLength (v1 : Int) (M : zM) (S : zS) : Option (Int) :=
  F_X3_wordsOfLength_L4 v1 0 0 M S
def F_X3_isGeneratedBy_J109 (M : zM) (S : zS) : Option (Int × zM) :=
  some (1, M)
def F_X3_isGeneratedBy_J37 (M : zM) (S : zS) : Option (Int × zM) :=
  some (0, M)
def F_X3_isGeneratedBy_J103 (v1 : Int) (v2 : Int) (M : zM) (S : zS) : Option ((Int × zM) ⊕ ((zM) ⊕ (zM))) :=
  zlet (w (v2 + 1)) fun x1 => ( some (.inl (x1, M)))
def F_X3_isGeneratedBy_J97 (v1 : Int) (v2 : Int) (v3 : Int) (M : zM) (S : zS) : Option ((Int × zM) ⊕ (zM)) :=
  zlet (w (v3 + 1)) fun x2 => ( some (.inl (x2, M)))
def F_X3_isGeneratedBy_B48 (v1 : Int) (v2 : Int) (v3 : Int) (M : zM) (S : zS) : Option ((Int × zM) ⊕ (zM)) :=
  zb1 (F_X6_at 15 (w (v2 + 1)) M S) fun r3 => ( if v3 < r3 then (zb1 (F_X6_at 14 v3 M S) fun r6 => ( zb1 (F_X4_context r6) fun r8 => ( if (zand v1 (zshl 1 r8)) = 0 then (F_X3_isGeneratedBy_J97 v1 v2 v3 M S) else (zb1 (F_X4_word r6) fun r11 => ( zb1 (F_X6_put 18 r11 1 M S) fun M13 => ( F_X3_isGeneratedBy_J97 v1 v2 v3 M13 S)))))) else (some (.inr M)))
def F_X3_isGeneratedBy_L48 (v1 : Int) (v2 : Int) (v3 : Int) (M : zM) (S : zS) : Option ((Int × zM) ⊕ ((zM) ⊕ (zM))) :=
  zb1 (zloop (fun (s : Int × zM) => F_X3_isGeneratedBy_B48 v1 v2 s.1 s.2 S) zN (v3, M)) (fun (e : zM) => F_X3_isGeneratedBy_J103 v1 v2 e S)
def F_X3_isGeneratedBy_B18 (v1 : Int) (v2 : Int) (M : zM) (S : zS) : Option ((Int × zM) ⊕ ((zM) ⊕ (zM))) :=
  if v2 < (M 11 13) then (zb1 (F_X6_at 18 v2 M S) fun r17 => ( if r17 = 0 then (some (.inr (.inl M))) else (zb1 (F_X6_at 15 v2 M S) fun r20 => ( F_X3_isGeneratedBy_L48 v1 v2 r20 M S)))) else (some (.inr (.inr M)))
def F_X3_isGeneratedBy_L18 (v1 : Int) (v2 : Int) (M : zM) (S : zS) : Option (Int × zM) :=
  zb1 (zloop (fun (s : Int × zM) => F_X3_isGeneratedBy_B18 v1 s.1 s.2 S) zN (v2, M)) (Sum.elim (fun (e : zM) => F_X3_isGeneratedBy_J37 e S) (fun (e : zM) => F_X3_isGeneratedBy_J109 e S))
def F_X3_isGeneratedBy (v1 : Int) (M : zM) (S : zS) : Option (Int × zM) :=
  zchk ((0 : Int) ≤ 0 ∧ (0 : Int) ≤ 0 ∧ (0 : Int) ≤ 300 ∧ (0 + 300 : Int) ≤ 300 ∧ (0 + 300 : Int) ≤ 300) ( zlet (zcpy M 17 0 18 0 300) fun M23 => ( F_X3_isGeneratedBy_L18 v1 0 M23 S))
def F_J6_bitCount_0f7a4 (v0 : Int) : Option (Int) :=
  zlet (w (v0 - (zand (zushr v0 1) 1431655765))) fun x1 => ( zlet (w ((zand x1 858993459) + (zand (zushr x1 2) 858993459))) fun x2 => ( zlet (zand (x2 + (zushr x2 4)) 252645135) fun x3 => ( zlet (w (x3 + (zushr x3 8))) fun x4 => ( zlet (w (x4 + (zushr x4 16))) fun x5 => ( some (zand x5 63))))))
def F_X3_smallestContextSet_J57 (M : zM) (S : zS) : Option (Int × zM) :=
  some ((M 11 17), M)
def F_X3_smallestContextSet_J51 (v1 : Int) (v2 : Int) (M : zM) (S : zS) : Option ((Int × zM) ⊕ (zM)) :=
  zlet (w (v2 + 1)) fun x2 => ( some (.inl (x2, M)))
def F_X3_smallestContextSet_B19 (v1 : Int) (v2 : Int) (M : zM) (S : zS) : Option ((Int × zM) ⊕ (zM)) :=
  if v2 < v1 then (zb1 (F_J6_bitCount_0f7a4 v2) fun r4 => ( zb1 (F_J6_bitCount_0f7a4 (M 11 17)) fun r7 => ( if r4 < r7 then (zb2 (F_X3_isGeneratedBy v2 M S) fun r10 M11 => ( if r10 = 0 then (F_X3_smallestContextSet_J51 v1 v2 M11 S) else (zlet (zs M11 11 17 v2) fun M14 => ( F_X3_smallestContextSet_J51 v1 v2 M14 S)))) else (F_X3_smallestContextSet_J51 v1 v2 M S)))) else (some (.inr M))
def F_X3_smallestContextSet_L19 (v1 : Int) (v2 : Int) (M : zM) (S : zS) : Option (Int × zM) :=
  zb1 (zloop (fun (s : Int × zM) => F_X3_smallestContextSet_B19 v1 s.1 s.2 S) zN (v2, M)) (fun (e : zM) => F_X3_smallestContextSet_J57 e S)
def F_X3_smallestContextSet (v1 : Int) (M : zM) (S : zS) : Option (Int × zM) :=
  if (M 11 17) < 0 then (zlet (zs M 11 17 v1) fun M17 => ( F_X3_smallestContextSet_L19 v1 0 M17 S)) else (some ((M 11 17), M))
def F_X3_followersOf (v1 : Int) (M : zM) (S : zS) : Option (Int) :=
  zb1 (F_X6_at 24 v1 M S) fun r1 => ( some r1)
def F_X5_init (v0 : Nat) (M : zM) (S : zS) : Option (zM × zS) :=
  zchk (¬ v0 = 0) ( zlet (S.1 + 1) fun q2 => ( zchk (S.1 < 47) ( zlet (zn S (20, 512)) fun S4 => ( zchk (zkd S4 v0 = 4) ( zlet (zq S4 v0 0 q2) fun S6 => ( zchk (zkd S6 v0 = 4) ( zlet (zs M v0 2 (-1)) fun M8 => ( zlet (S6.1 + 1) fun q9 => ( zchk (S6.1 < 47) ( zlet (zn S6 (20, 29524)) fun S11 => ( zchk (zkd S11 v0 = 4) ( zlet (zq S11 v0 3 q9) fun S13 => ( zlet (S13.1 + 1) fun q14 => ( zchk (S13.1 < 47) ( zlet (zn S13 (20, 29524)) fun S16 => ( zchk (zkd S16 v0 = 4) ( zlet (zq S16 v0 5 q14) fun S18 => ( zchk (zkd S18 v0 = 4) ( zlet (zs M8 v0 6 0) fun M20 => ( zlet (S18.1 + 1) fun q21 => ( zchk (S18.1 + 11 ≤ 47) ( zlet (zmulti S18 10 225) fun S23 => ( zchk (zkd S23 v0 = 4) ( zlet (zq S23 v0 7 q21) fun S25 => ( some (M20, S25))))))))))))))))))))))))))
def F_X5_forget (M : zM) : Option (zM) :=
  zlet (zs M 25 2 (-1)) fun M1 => ( zlet (zs M1 25 6 0) fun M2 => ( some M2))
def F_X5_onlyForm_J124 (rc : Nat → Int → Int → zM → zS → Option (Int × zM)) (v2 : Int) (v7 : Int) (M : zM) (S : zS) : Option (Int × zM) :=
  zb1 (F_X6_put 28 v2 v7 M S) fun M1 => ( some (v7, M1))
def F_X5_onlyForm_J116 (rc : Nat → Int → Int → zM → zS → Option (Int × zM)) (v2 : Int) (v3 : Int) (v5 : Nat) (v6 : Int) (v8 : Int) (t0 : Int) (M : zM) (S : zS) : Option ((Int × Int × zM) ⊕ (Int × zM)) :=
  zlet (w (v8 + 1)) fun x3 => ( some (.inl (t0, x3, M)))
def F_X5_onlyForm_J110 (rc : Nat → Int → Int → zM → zS → Option (Int × zM)) (v2 : Int) (v3 : Int) (v5 : Nat) (v6 : Int) (v8 : Int) (v9 : Int) (M : zM) (S : zS) : Option ((Int × Int × zM) ⊕ (Int × zM)) :=
  F_X5_onlyForm_J116 rc v2 v3 v5 v6 v8 v9 M S
def F_X5_onlyForm_B65 (rc : Nat → Int → Int → zM → zS → Option (Int × zM)) (v2 : Int) (v3 : Int) (v5 : Nat) (v6 : Int) (v7 : Int) (v8 : Int) (M : zM) (S : zS) : Option ((Int × Int × zM) ⊕ (Int × zM)) :=
  if v8 < v6 then (if v7 = (-1) then (some (.inr (v7, M))) else (zb1 (F_X6_at v5 v8 M S) fun r6 => ( zb1 (F_X4_word r6) fun r8 => ( zb2 (rc 0 r8 (w (v3 + 1)) M S) fun r10 M11 => ( if v7 = 0 then (F_X5_onlyForm_J110 rc v2 v3 v5 v6 v8 r10 M11 S) else (if v7 = r10 then (F_X5_onlyForm_J110 rc v2 v3 v5 v6 v8 r10 M11 S) else (F_X5_onlyForm_J116 rc v2 v3 v5 v6 v8 (-1) M11 S))))))) else (some (.inr (v7, M)))
def F_X5_onlyForm_L65 (rc : Nat → Int → Int → zM → zS → Option (Int × zM)) (v2 : Int) (v3 : Int) (v5 : Nat) (v6 : Int) (v7 : Int) (v8 : Int) (M : zM) (S : zS) : Option (Int × zM) :=
  zb1 (zloop (fun (s : Int × Int × zM) => F_X5_onlyForm_B65 rc v2 v3 v5 v6 s.1 s.2.1 s.2.2 S) zN (v7, v8, M)) (fun (e : Int × zM) => F_X5_onlyForm_J124 rc v2 e.1 e.2 S)
def F_X5_onlyForm_J60 (rc : Nat → Int → Int → zM → zS → Option (Int × zM)) (v2 : Int) (v3 : Int) (v5 : Nat) (v6 : Int) (t0 : Int) (M : zM) (S : zS) : Option (Int × zM) :=
  F_X5_onlyForm_L65 rc v2 v3 v5 v6 t0 0 M S
def F_X5_onlyForm (rc : Nat → Int → Int → zM → zS → Option (Int × zM)) (v2 : Int) (v3 : Int) (M : zM) (S : zS) : Option (Int × zM) :=
  zb1 (F_X6_at 28 v2 M S) fun r15 => ( if r15 = 0 then (if v3 < 0 then (some (r15, M)) else (if v3 < 10 then (zchk ((0 : Int) ≤ v3 ∧ v3 < 10) ( zlet ((zrf S 29 v3)) fun q21 => ( zb2 (F_X2_findReductions v2 q21 M S) fun r22 M23 => ( if r22 = 0 then (F_X5_onlyForm_J60 rc v2 v3 q21 r22 (w (v2 + 1)) M23 S) else (F_X5_onlyForm_J60 rc v2 v3 q21 r22 0 M23 S))))) else (some (r15, M)))) else (some (r15, M)))
def F_GO (n : Nat) (k : Nat) (v2 : Int) (v3 : Int) (M : zM) (S : zS) : Option (Int × zM) := match n with
  | 0 => none
  | n + 1 => F_X5_onlyForm (F_GO n) v2 v3 M S
def F_X5_areSingle_J64 (M : zM) (S : zS) : Option (Int × zM) :=
  if (M 25 6) = 1 then (some (1, M)) else (some (0, M))
def F_X5_areSingle_J58 (v3 : Int) (M : zM) (S : zS) : Option ((Int × zM) ⊕ (zM)) :=
  zlet (w (v3 + 1)) fun x3 => ( some (.inl (x3, M)))
def F_X5_areSingle_B22 (v3 : Int) (M : zM) (S : zS) : Option ((Int × zM) ⊕ (zM)) :=
  if v3 < (M 11 13) then (if (M 25 6) = 1 then (zb1 (F_X3_wordAt v3 M S) fun r8 => ( zb2 (F_GO 40 0 r8 0 M S) fun r10 M11 => ( if r10 = (-1) then (zlet (zs M11 25 6 2) fun M14 => ( F_X5_areSingle_J58 v3 M14 S)) else (F_X5_areSingle_J58 v3 M11 S)))) else (some (.inr M))) else (some (.inr M))
def F_X5_areSingle_L22 (v3 : Int) (M : zM) (S : zS) : Option (Int × zM) :=
  zb1 (zloop (fun (s : Int × zM) => F_X5_areSingle_B22 s.1 s.2 S) zN (v3, M)) (fun (e : zM) => F_X5_areSingle_J64 e S)
def F_X5_areSingle (M : zM) (S : zS) : Option (Int × zM) :=
  if (M 25 6) = 0 then (zb1 (F_J7_fill_53178 28 0 M S) fun M17 => ( zlet (zs M17 25 6 1) fun M19 => ( F_X5_areSingle_L22 0 M19 S))) else (F_X5_areSingle_J64 M S)
def F_X7_init (v0 : Nat) (v1 : Nat) (S : zS) : Option (zS) :=
  zchk (¬ v0 = 0) ( zlet (S.1 + 1) fun q2 => ( zchk (89 ≤ S.1) ( zlet (zn S (21, 462)) fun S4 => ( zchk (zkd S4 v0 = 5) ( zlet (zq S4 v0 1 q2) fun S6 => ( zlet (S6.1 + 1) fun q7 => ( zchk (89 ≤ S6.1) ( zlet (zn S6 (21, 462)) fun S9 => ( zchk (zkd S9 v0 = 5) ( zlet (zq S9 v0 2 q7) fun S11 => ( zchk (zkd S11 v0 = 5) ( zlet (zq S11 v0 0 v1) fun S13 => ( some S13)))))))))))))
def F_X8_init (v0 : Nat) (M : zM) (S : zS) : Option (zM × zS) :=
  zchk (¬ v0 = 0) ( zlet (S.1 + 1) fun q2 => ( zchk (S.1 < 47) ( zlet (zn S (20, 20)) fun S4 => ( zchk (zkd S4 v0 = 6) ( zlet (zq S4 v0 0 q2) fun S6 => ( zchk (zkd S6 v0 = 6) ( zlet (zs M v0 1 (-1)) fun M8 => ( some (M8, S6)))))))))
def F_X8_renew (v0 : Nat) (v1 : Int) (v2 : Int) (M : zM) (S : zS) : Option (zM) :=
  zchk (zkd S v0 = 6) ( zlet (zs M v0 1 v1) fun M2 => ( zchk (zkd S v0 = 6) ( zlet (zs M2 v0 2 v2) fun M4 => ( zchk (zkd S v0 = 6) ( zb1 (F_J7_fill_53178 (zrf S v0 0) 0 M4 S) fun M6 => ( some M6))))))
def F_X8_setNarrowed_J26 (v0 : Nat) (v1 : Int) (v3 : Int) (M : zM) (S : zS) : Option (zM) :=
  zchk (zkd S v0 = 6) ( zb1 (F_X6_put (zrf S v0 0) v1 v3 M S) fun M2 => ( some M2))
def F_X8_setNarrowed (v0 : Nat) (v1 : Int) (v2 : Int) (M : zM) (S : zS) : Option (zM) :=
  zchk (zkd S v0 = 6) ( if (M v0 1) = 0 then (zlet (zi2b v2) fun x11 => ( F_X8_setNarrowed_J26 v0 v1 x11 M S)) else (zchk (zkd S v0 = 6) ( if (M v0 1) = 2 then (F_X8_setNarrowed_J26 v0 v1 v2 M S) else (zlet (zi2s v2) fun x10 => ( F_X8_setNarrowed_J26 v0 v1 x10 M S)))))
def F_X10_init (v0 : Nat) (M : zM) (S : zS) : Option (zM × zS) :=
  zchk (¬ v0 = 0) ( zlet (S.1 + 1) fun q2 => ( zchk (S.1 < 47) ( zlet (zn S (1, 9)) fun S4 => ( zb1 (F_X1_init q2 S4) fun S5 => ( zchk (zkd S5 v0 = 7) ( zlet (zq S5 v0 0 q2) fun S8 => ( zlet (S8.1 + 1) fun q9 => ( zchk (S8.1 < 47) ( zlet (zn S8 (2, 6)) fun S11 => ( zb2 (F_X2_init q9 M S11) fun M12 S13 => ( zchk (zkd S13 v0 = 7) ( zlet (zq S13 v0 1 q9) fun S16 => ( zlet (S16.1 + 1) fun q17 => ( zchk (S16.1 < 47) ( zlet (zn S16 (2, 6)) fun S19 => ( zb2 (F_X2_init q17 M12 S19) fun M20 S21 => ( zchk (zkd S21 v0 = 7) ( zlet (zq S21 v0 2 q17) fun S24 => ( zlet (S24.1 + 1) fun q25 => ( zchk (S24.1 < 47) ( zlet (zn S24 (3, 18)) fun S27 => ( zb1 (F_X3_init q25 S27) fun S28 => ( zchk (zkd S28 v0 = 7) ( zlet (zq S28 v0 3 q25) fun S31 => ( zlet (S31.1 + 1) fun q32 => ( zchk (S31.1 < 47) ( zlet (zn S31 (4, 8)) fun S34 => ( zb2 (F_X5_init q32 M20 S34) fun M35 S36 => ( zchk (zkd S36 v0 = 7) ( zlet (zq S36 v0 4 q32) fun S39 => ( zlet (S39.1 + 1) fun q40 => ( zchk (S39.1 < 47) ( zlet (zn S39 (20, 225)) fun S42 => ( zchk (zkd S42 v0 = 7) ( zlet (zq S42 v0 5 q40) fun S44 => ( zlet (S44.1 + 1) fun q45 => ( zchk (S44.1 < 47) ( zlet (zn S44 (26, 3)) fun S47 => ( zlet (S47.1 + 1) fun q48 => ( zchk (S47.1 < 47) ( zlet (zn S47 (6, 3)) fun S50 => ( zb2 (F_X8_init q48 M35 S50) fun M51 S52 => ( zchk (zkd S52 q45 = 26) ( zchk ((0 : Int) ≤ 0 ∧ 0 < (zlen S52 q45)) ( zchk (q48 = 0 ∨ zkd S52 q48 = 6) ( zlet (zq S52 q45 0 q48) fun S57 => ( zlet (S57.1 + 1) fun q58 => ( zchk (S57.1 < 47) ( zlet (zn S57 (6, 3)) fun S60 => ( zb2 (F_X8_init q58 M51 S60) fun M61 S62 => ( zchk (zkd S62 q45 = 26) ( zchk ((0 : Int) ≤ 1 ∧ 1 < (zlen S62 q45)) ( zchk (q58 = 0 ∨ zkd S62 q58 = 6) ( zlet (zq S62 q45 1 q58) fun S67 => ( zlet (S67.1 + 1) fun q68 => ( zchk (S67.1 < 47) ( zlet (zn S67 (6, 3)) fun S70 => ( zb2 (F_X8_init q68 M61 S70) fun M71 S72 => ( zchk (zkd S72 q45 = 26) ( zchk ((0 : Int) ≤ 2 ∧ 2 < (zlen S72 q45)) ( zchk (q68 = 0 ∨ zkd S72 q68 = 6) ( zlet (zq S72 q45 2 q68) fun S77 => ( zchk (zkd S77 v0 = 7) ( zlet (zq S77 v0 6 q45) fun S79 => ( zchk (zkd S79 v0 = 7) ( zlet (zs M71 v0 7 (-1)) fun M81 => ( zchk (zkd S79 v0 = 7) ( zlet (zs M81 v0 11 1) fun M83 => ( some (M83, S79))))))))))))))))))))))))))))))))))))))))))))))))))))))))))))))))))))))
def F_X10_append (v1 : Int) (M : zM) (S : zS) : Option ((Nat ⊕ Unit) × zM × zS) :=
  zb2 (F_X1_accept v1 M) fun r1 M2 => ( if r1 = 0 then (some (.inl 0, M2, zn S (99, 0))) else (some (.inr (), M2, S)))
def F_X10_grammarChanged (M : zM) : Option (zM) :=
  zlet (zs M 1 11 1) fun M1 => ( zb1 (F_X5_forget M1) fun M2 => ( some M2))
def F_X10_defineAxiom_J23 (M : zM) (S : zS) : Option ((Nat ⊕ Int) × zM × zS) :=
  some (.inl 0, M, zn S (99, 0))
def F_X10_defineAxiom (v1 : Int) (M : zM) (S : zS) : Option ((Nat ⊕ Int) × zM × zS) :=
  if (M 5 2) < 6 then (zb1 (F_X2_hasAxiom v1 M S) fun r3 => ( if r3 = 0 then (zb1 (F_X2_putAxiom v1 M S) fun M6 => ( zb1 (F_X10_grammarChanged M6) fun M8 => ( some (.inr (w ((M8 5 2) - 1)), M8, S)))) else (F_X10_defineAxiom_J23 M S))) else (F_X10_defineAxiom_J23 M S)
def F_X10_defineContext (M : zM) (S : zS) : Option ((Nat ⊕ Int) × zM × zS) :=
  if (M 5 3) < 5 then (zlet (S.1 + 1) fun q3 => ( zlet (zn S (0, 5)) fun S4 => ( zlet (S4.1 + 1) fun q8 => ( zlet (zn S4 (5, 3)) fun S9 => ( zb3 (F_X1_selectorProgram M S9) fun r11 M12 S13 => ( zlet (up (up M12 (S13.1 + 1) (fun _ => 0)) (S13.1 + 2) (fun _ => 0)) fun M14 => ( zb1 (F_X7_init q8 r11 S13) fun S16 => ( zb2 (F_X0_init q3 (M 2 6) (M 2 7) q8 M14 S16) fun M19 S20 => ( zb2 (F_X2_putContext q3 M19 S20) fun M23 S24 => ( zb1 (F_X10_grammarChanged M23) fun M27 => ( some (.inr (w ((M27 5 3) - 1)), M27, S24)))))))))))) else (some (.inl 0, M, zn S (99, 0)))
def F_X10_replaceNumber_J40 (v3 : Int) (M : zM) : Option (Int × zM) :=
  zb1 (F_X10_grammarChanged M) fun M1 => ( some (v3, M1))
def F_X10_replaceNumber (v1 : Int) (v2 : Int) (M : zM) : Option (Int × zM) :=
  if v1 = 2 then (zlet (M 5 4) fun x8 => ( zlet (zs M 5 4 v2) fun M9 => ( F_X10_replaceNumber_J40 x8 M9))) else (zlet (M 5 5) fun x5 => ( zlet (zs M 5 5 v2) fun M6 => ( F_X10_replaceNumber_J40 x5 M6)))
def F_X10_define_J25 (v1 : Int) (t1 : Int) (M : zM) (S : zS) : Option ((Nat ⊕ Int) × zM × zS) :=
  zlet (zs M 1 7 t1) fun M1 => ( zb1 (F_X1_empty M1) fun M2 => ( if v1 = (-1) then (some (.inl 1, M2, zn S (99, 0))) else (if v1 = 0 then (zbx (F_X10_defineAxiom (M2 2 5) M2 S) (fun e M S => some (.inl e, M, S)) fun r20 M21 S22 => ( some (.inr r20, M21, S22))) else (if v1 = 1 then (zbx (F_X10_defineContext M2 S) (fun e M S => some (.inl e, M, S)) fun r11 M12 S13 => ( some (.inr r11, M12, S13))) else (zb2 (F_X10_replaceNumber v1 (M2 2 8) M2) fun r8 M9 => ( some (.inr r8, M9, S)))))))
def F_X10_define (M : zM) (S : zS) : Option ((Nat ⊕ Int) × zM × zS) :=
  zb2 (F_X1_read M) fun r28 M29 => ( if r28 = (-1) then (F_X10_define_J25 r28 (M29 2 4) M29 S) else (F_X10_define_J25 r28 (-1) M29 S))
def F_X10_requireIndex_J9 (M : zM) (S : zS) : Option ((Nat ⊕ Unit) × zM × zS) :=
  some (.inl 2, M, zn S (99, 0))
def F_X10_requireIndex (v1 : Int) (v2 : Int) (M : zM) (S : zS) : Option ((Nat ⊕ Unit) × zM × zS) :=
  if v1 < 0 then (F_X10_requireIndex_J9 M S) else (if v1 < v2 then (some (.inr (), M, S)) else (F_X10_requireIndex_J9 M S))
def F_X10_requireAxiom (v1 : Int) (M : zM) (S : zS) : Option ((Nat ⊕ Unit) × zM × zS) :=
  zbx (F_X10_requireIndex v1 (M 5 2) M S) (fun e M S => some (.inl e, M, S)) fun u5 M2 S3 => ( some (.inr (), M2, S3))
def F_X10_removeAxiom (v1 : Int) (M : zM) (S : zS) : Option ((Nat ⊕ Unit) × zM × zS) :=
  zbx (F_X10_requireAxiom v1 M S) (fun e M S => some (.inl e, M, S)) fun u4 M1 S2 => ( zb1 (F_X2_dropAxiom v1 M1 S2) fun M9 => ( zb1 (F_X10_grammarChanged M9) fun M11 => ( some (.inr (), M11, S2))))
def F_X10_requireContext (v1 : Int) (M : zM) (S : zS) : Option ((Nat ⊕ Unit) × zM × zS) :=
  zbx (F_X10_requireIndex v1 (M 5 3) M S) (fun e M S => some (.inl e, M, S)) fun u5 M2 S3 => ( some (.inr (), M2, S3))
def F_X10_removeContext (v1 : Int) (M : zM) (S : zS) : Option ((Nat ⊕ Unit) × zM × zS) :=
  zbx (F_X10_requireContext v1 M S) (fun e M S => some (.inl e, M, S)) fun u4 M1 S2 => ( zb2 (F_X2_dropContext v1 M1 S2) fun M9 S10 => ( zb1 (F_X10_grammarChanged M9) fun M13 => ( some (.inr (), M13, S10))))
def F_X10_count (v1 : Int) (M : zM) (S : zS) : Option ((Nat ⊕ Int) × zM × zS) :=
  if v1 = 0 then (some (.inr (M 5 2), M, S)) else (if v1 = 1 then (some (.inr (M 5 3), M, S)) else (if v1 = 2 then (some (.inr (M 5 4), M, S)) else (if v1 = 3 then (some (.inr (M 5 5), M, S)) else (if v1 = 4 then (some (.inr (M 2 3), M, S)) else (some (.inl 1, M, zn S (99, 0)))))))
def F_X10_requireLanguage_J23 (M : zM) (S : zS) : Option ((Nat ⊕ Unit) × zM × zS) :=
  if (M 11 15) = 0 then (some (.inr (), M, S)) else (some (.inl 3, M, zn S (99, 0)))
def F_X10_requireLanguage (M : zM) (S : zS) : Option ((Nat ⊕ Unit) × zM × zS) :=
  if (M 1 11) = 0 then (F_X10_requireLanguage_J23 M S) else (zb1 (F_X3_build M S) fun M5 => ( zlet (zs M5 1 11 0) fun M7 => ( F_X10_requireLanguage_J23 M7 S)))
def F_X10_size (M : zM) (S : zS) : Option ((Nat ⊕ Int) × zM × zS) :=
  zbx (F_X10_requireLanguage M S) (fun e M S => some (.inl e, M, S)) fun u4 M1 S2 => ( some (.inr (M1 11 13), M1, S2))
def F_X10_requireLength_J15 (M : zM) (S : zS) : Option ((Nat ⊕ Unit) × zM × zS) :=
  some (.inl 1, M, zn S (99, 0))
def F_X10_requireLength (v1 : Int) (M : zM) (S : zS) : Option ((Nat ⊕ Unit) × zM × zS) :=
  if v1 < 0 then (F_X10_requireLength_J15 M S) else (if (M 5 5) < v1 then (F_X10_requireLength_J15 M S) else (some (.inr (), M, S)))
def F_X10_sizeOf (v1 : Int) (M : zM) (S : zS) : Option ((Nat ⊕ Int) × zM × zS) :=
  zbx (F_X10_requireLength v1 M S) (fun e M S => some (.inl e, M, S)) fun u4 M1 S2 => ( zbx (F_X10_requireLanguage M1 S2) (fun e M S => some (.inl e, M, S)) fun u12 M9 S10 => ( zb1 (F_X3_wordsOfLength v1 M9 S10) fun r17 => ( some (.inr r17, M9, S10))))
def F_X10_density (v1 : Int) (M : zM) (S : zS) : Option ((Nat ⊕ UInt64) × zM × zS) :=
  zbx (F_X10_requireLength v1 M S) (fun e M S => some (.inl e, M, S)) fun u4 M1 S2 => ( zbx (F_X10_requireLanguage M1 S2) (fun e M S => some (.inl e, M, S)) fun u12 M9 S10 => ( zb1 (F_X3_wordsOfLength v1 M9 S10) fun r17 => ( zb1 (F_X9_power v1) fun r19 => ( zchkP (vf_n64 (FP.ddiv (FP.i2d (zi r17)) (FP.i2d (zi r19)))) ( some (.inr (FP.ddiv (FP.i2d (zi r17)) (FP.i2d (zi r19))), M9, S10))))))
def F_X10_isUsed (v1 : Int) (M : zM) (S : zS) : Option ((Nat ⊕ Int) × zM × zS) :=
  zbx (F_X10_requireContext v1 M S) (fun e M S => some (.inl e, M, S)) fun u4 M1 S2 => ( zbx (F_X10_requireLanguage M1 S2) (fun e M S => some (.inl e, M, S)) fun u12 M9 S10 => ( if (zand (M9 11 16) (zshl 1 v1)) = 0 then (some (.inr 0, M9, S10)) else (some (.inr 1, M9, S10))))
def F_X10_isRedundant (v1 : Int) (M : zM) (S : zS) : Option ((Nat ⊕ Int) × zM × zS) :=
  zbx (F_X10_requireContext v1 M S) (fun e M S => some (.inl e, M, S)) fun u4 M1 S2 => ( zbx (F_X10_requireLanguage M1 S2) (fun e M S => some (.inl e, M, S)) fun u12 M9 S10 => ( zb1 (F_X2_allContexts M9) fun r17 => ( zb2 (F_X3_isGeneratedBy (zand r17 (zxor (zshl 1 v1) (-1))) M9 S10) fun r19 M20 => ( zchk ((0 : Int) ≤ r19 ∧ (r19 : Int) ≤ 1) ( some (.inr r19, M20, S10))))))
def F_X10_minimalContexts (M : zM) (S : zS) : Option ((Nat ⊕ Int) × zM × zS) :=
  zbx (F_X10_requireLanguage M S) (fun e M S => some (.inl e, M, S)) fun u4 M1 S2 => ( zb1 (F_X2_allContexts M1) fun r9 => ( zb2 (F_X3_smallestContextSet r9 M1 S2) fun r11 M12 => ( some (.inr r11, M12, S2))))
def F_X10_canFollow (v1 : Int) (v2 : Int) (M : zM) (S : zS) : Option ((Nat ⊕ Int) × zM × zS) :=
  zbx (F_X10_requireContext v1 M S) (fun e M S => some (.inl e, M, S)) fun u4 M1 S2 => ( zbx (F_X10_requireContext v2 M1 S2) (fun e M S => some (.inl e, M, S)) fun u12 M9 S10 => ( zbx (F_X10_requireLanguage M9 S10) (fun e M S => some (.inl e, M, S)) fun u20 M17 S18 => ( zb1 (F_X3_followersOf v1 M17 S18) fun r25 => ( if (zand r25 (zshl 1 v2)) = 0 then (some (.inr 0, M17, S18)) else (some (.inr 1, M17, S18))))))
def F_X10_isConfluent (M : zM) (S : zS) : Option ((Nat ⊕ Int) × zM × zS) :=
  zbx (F_X10_requireLanguage M S) (fun e M S => some (.inl e, M, S)) fun u4 M1 S2 => ( zb2 (F_X5_areSingle M1 S2) fun r9 M10 => ( zchk ((0 : Int) ≤ r9 ∧ (r9 : Int) ≤ 1) ( some (.inr r9, M10, S2))))
def F_X10_takeWord (v1 : Int) (M : zM) (S : zS) : Option ((Nat ⊕ Unit) × zM × zS) :=
  zbx (F_X10_requireLanguage M S) (fun e M S => some (.inl e, M, S)) fun u4 M1 S2 => ( zbx (F_X10_requireIndex v1 (M1 11 13) M1 S2) (fun e M S => some (.inl e, M, S)) fun u13 M10 S11 => ( zb1 (F_X3_wordAt v1 M10 S11) fun r18 => ( zlet (zs M10 1 8 r18) fun M20 => ( some (.inr (), M20, S11)))))
def F_X10_wordLength (M : zM) : Option (Int) :=
  zb1 (F_X9_length (M 1 8)) fun r2 => ( some r2)
def F_X10_letterAt (v1 : Int) (M : zM) (S : zS) : Option ((Nat ⊕ Int) × zM × zS) :=
  zb1 (F_X9_length (M 1 8)) fun r2 => ( zbx (F_X10_requireIndex v1 r2 M S) (fun e M S => some (.inl e, M, S)) fun u7 M4 S5 => ( zb1 (F_X9_factor (M4 1 8) r2 v1 (w (v1 + 1))) fun r13 => ( zchk ((0 : Int) ≤ (zi2c ((97 + r13) - 1)) ∧ ((zi2c ((97 + r13) - 1)) : Int) < 65536) ( some (.inr (zi2c ((97 + r13) - 1)), M4, S5)))))
def F_X10_isGenerated (M : zM) (S : zS) : Option ((Nat ⊕ Int) × zM × zS) :=
  zbx (F_X10_requireLanguage M S) (fun e M S => some (.inl e, M, S)) fun u4 M1 S2 => ( zb1 (F_X3_placeOf (M1 1 8) M1 S2) fun r10 => ( if r10 < 0 then (some (.inr 0, M1, S2)) else (some (.inr 1, M1, S2))))
def F_X10_requirePlace (M : zM) (S : zS) : Option ((Nat ⊕ Int) × zM × zS) :=
  zb1 (F_X3_placeOf (M 1 8) M S) fun r2 => ( if r2 < 0 then (some (.inl 4, M, zn S (99, 0))) else (some (.inr r2, M, S)))
def F_X10_rank (M : zM) (S : zS) : Option ((Nat ⊕ Int) × zM × zS) :=
  zbx (F_X10_requireLanguage M S) (fun e M S => some (.inl e, M, S)) fun u4 M1 S2 => ( zbx (F_X10_requirePlace M1 S2) (fun e M S => some (.inl e, M, S)) fun r9 M10 S11 => ( some (.inr r9, M10, S11)))
def F_X10_insertions (M : zM) (S : zS) : Option (Int × zM) :=
  zb2 (F_X2_findInsertions (M 1 8) 40 M S) fun r2 M3 => ( some (r2, M3))
def F_X10_makeMove (v1 : Int) (M : zM) : Option (Int × zM) :=
  zb1 (F_X4_word v1) fun r1 => ( zlet (zs M 1 8 r1) fun M3 => ( zb1 (F_X4_context v1) fun r4 => ( some (r4, M3))))
def F_X10_insert (v1 : Int) (M : zM) (S : zS) : Option ((Nat ⊕ Int) × zM × zS) :=
  zb2 (F_X2_findInsertions (M 1 8) 40 M S) fun r2 M3 => ( zbx (F_X10_requireIndex v1 r2 M3 S) (fun e M S => some (.inl e, M, S)) fun u8 M5 S6 => ( zb1 (F_X6_at 40 v1 M5 S6) fun r13 => ( zb2 (F_X10_makeMove r13 M5) fun r15 M16 => ( some (.inr r15, M16, S6)))))
def F_X10_requireSlot_J13 (M : zM) (S : zS) : Option ((Nat ⊕ Nat) × zM × zS) :=
  some (.inl 2, M, zn S (99, 0))
def F_X10_requireSlot (v1 : Int) (M : zM) (S : zS) : Option ((Nat ⊕ Nat) × zM × zS) :=
  if v1 < 0 then (F_X10_requireSlot_J13 M S) else (if v1 < 3 then (zchk ((0 : Int) ≤ v1 ∧ v1 < 3) ( some (.inr (zrf S 41 v1), M, S))) else (F_X10_requireSlot_J13 M S))
def F_X10_allocate_J26 (M : zM) (S : zS) : Option ((Nat ⊕ Unit) × zM × zS) :=
  some (.inl 1, M, zn S (99, 0))
def F_X10_allocate (v1 : Int) (v2 : Int) (v3 : Int) (M : zM) (S : zS) : Option ((Nat ⊕ Unit) × zM × zS) :=
  zbx (F_X10_requireSlot v1 M S) (fun e M S => some (.inl e, M, S)) fun r1 M2 S3 => ( if v2 < 0 then (F_X10_allocate_J26 M2 S3) else (if 2 < v2 then (F_X10_allocate_J26 M2 S3) else (if v3 < 0 then (F_X10_allocate_J26 M2 S3) else (if 20 < v3 then (F_X10_allocate_J26 M2 S3) else (zchk (zkd S3 r1 = 6) ( zb1 (F_X8_renew r1 v2 v3 M2 S3) fun M14 => ( some (.inr (), M14, S3))))))))
def F_X10_requireFilled (v1 : Nat) (M : zM) (S : zS) : Option ((Nat ⊕ Unit) × zM × zS) :=
  zchk (zkd S v1 = 6) ( if (M v1 1) = (-1) then (some (.inl 0, M, zn S (99, 0))) else (some (.inr (), M, S)))
def F_X10_store (v1 : Int) (v2 : Int) (v3 : Int) (M : zM) (S : zS) : Option ((Nat ⊕ Unit) × zM × zS) :=
  zbx (F_X10_requireSlot v1 M S) (fun e M S => some (.inl e, M, S)) fun r1 M2 S3 => ( zbx (F_X10_requireFilled r1 M2 S3) (fun e M S => some (.inl e, M, S)) fun u12 M9 S10 => ( zchk (zkd S10 r1 = 6) ( zbx (F_X10_requireIndex v2 (M9 r1 2) M9 S10) (fun e M S => some (.inl e, M, S)) fun u22 M19 S20 => ( zchk (zkd S20 r1 = 6) ( zb1 (F_X8_setNarrowed r1 v2 v3 M19 S20) fun M28 => ( some (.inr (), M28, S20)))))))
def F_X10_compareSizes_J83 (M : zM) (S : zS) : Option ((Nat ⊕ Int) × zM × zS) :=
  some (.inr (-1), M, S)
def F_X10_compareSizes_J75 (v3 : Int) (M : zM) (S : zS) : Option ((Nat ⊕ Int) × zM × zS) :=
  some (.inr v3, M, S)
def F_X10_compareSizes_B36 (v2 : Nat) (v3 : Int) (M : zM) (S : zS) : Option ((Int × zM × zS) ⊕ ((Int × zM × zS) ⊕ ((zM × zS) ⊕ (Nat × zM × zS)))) :=
  if (M 5 5) < v3 then (some (.inr (.inr (.inl (M, S))))) else (zchk (zkd S v2 = 6) ( zbx (F_X10_requireIndex v3 (M v2 2) M S) (fun e M S => some (.inr (.inr (.inr (e, M, S))))) fun u8 M5 S6 => ( zchk (zkd S6 v2 = 6) ( zb1 (F_X6_at (zrf S6 v2 0) v3 M5 S6) fun r14 => ( zb1 (F_X3_wordsOfLength v3 M5 S6) fun r16 => ( if r14 = r16 then (zlet (w (v3 + 1)) fun x19 => ( some (.inl (x19, M5, S6)))) else (some (.inr (.inl (v3, M5, S6))))))))))
def F_X10_compareSizes_L36 (v2 : Nat) (v3 : Int) (M : zM) (S : zS) : Option ((Nat ⊕ Int) × zM × zS) :=
  zb1 (zloop (fun (s : Int × zM × zS) => F_X10_compareSizes_B36 v2 s.1 s.2.1 s.2.2) zN (v3, M, S)) (Sum.elim (fun (e : Int × zM × zS) => F_X10_compareSizes_J75 e.1 e.2.1 e.2.2) (Sum.elim (fun (e : zM × zS) => F_X10_compareSizes_J83 e.1 e.2) (fun (e : Nat × zM × zS) => some (.inl e.1, e.2.1, e.2.2))))
def F_X10_compareSizes (v1 : Int) (M : zM) (S : zS) : Option ((Nat ⊕ Int) × zM × zS) :=
  zbx (F_X10_requireSlot v1 M S) (fun e M S => some (.inl e, M, S)) fun r20 M21 S22 => ( zbx (F_X10_requireLanguage M21 S22) (fun e M S => some (.inl e, M, S)) fun u31 M28 S29 => ( zbx (F_X10_requireFilled r20 M28 S29) (fun e M S => some (.inl e, M, S)) fun u39 M36 S37 => ( zchk (zkd S37 r20 = 6) ( if (M36 r20 1) = 2 then (F_X10_compareSizes_L36 r20 0 M36 S37) else (some (.inl 1, M36, zn S37 (99, 0)))))))
def F_X10_save (M : zM) (S : zS) : Option (zM × zS) :=
  zb2 (F_X2_copyFrom_b M S) fun M1 S2 => ( zlet (zs M1 1 9 (M1 1 8)) fun M6 => ( zlet (zs M6 1 10 1) fun M7 => ( some (M7, S2))))
def F_X10_restore (M : zM) (S : zS) : Option ((Nat ⊕ Unit) × zM × zS) :=
  if (M 1 10) = 0 then (some (.inl 0, M, zn S (99, 0))) else (zb2 (F_X2_copyFrom_a M S) fun M3 S4 => ( zlet (zs M3 1 8 (M3 1 9)) fun M8 => ( zb1 (F_X10_grammarChanged M8) fun M9 => ( some (.inr (), M9, S4)))))
def F_J5_init_d00df (v0 : Nat) (v1 : Int) (M : zM) (S : zS) : Option (zM × zS) :=
  zchk (¬ v0 = 0) ( if (1 : Int) = 0 then (none) else (zchk ((0 : Int) ≤ v1 ∧ v1 ≤ 100) ( zlet (S.1 + 1) fun q4 => ( zlet (zn S (24, v1.toNat)) fun S5 => ( zchk (zkd S5 v0 = 8) ( zchk (89 < v0) ( zlet (zq S5 v0 0 q4) fun S9 => ( zchk (zkd S9 v0 = 8) ( zchk ((-128 : Int) ≤ 0 ∧ (0 : Int) < 128) ( zlet (zs M v0 1 0) fun M13 => ( some (M13, S9))))))))))))
def F_J5_length_8abf5 (v0 : Nat) (M : zM) (S : zS) : Option (Int) :=
  zchk (zkd S v0 = 8) ( some (M v0 3))
def F_J8_newLength_cabcc (v0 : Int) (v1 : Int) (v2 : Int) : Option (Int) :=
  zlet (w (v0 + (zmax v1 v2))) fun x1 => ( if 0 < x1 then (if 2147483639 < x1 then (none) else (some x1)) else (none))
def F_J5_newCapacity_0f7a4 (v0 : Nat) (v1 : Int) (M : zM) (S : zS) : Option (Int) :=
  zchk (zkd S v0 = 8) ( zchk (zkd S (zrf S v0 0) = 24) ( zlet (zlen S (zrf S v0 0)) fun x4 => ( zchk (zkd S v0 = 8) ( zlet (zshl v1 (M v0 1)) fun x7 => ( zlet (w (x7 - x4)) fun x8 => ( zchk (zkd S v0 = 8) ( zb1 (F_J8_newLength_cabcc x4 x8 (w (x4 + (zshl 2 (M v0 1))))) fun r11 => ( if r11 = 2147483647 then (none) else (zchk (zkd S v0 = 8) ( some (zshr r11 (M v0 1))))))))))))
def F_J7_copyOf_9075b (v0 : Nat) (v1 : Int) (M : zM) (S : zS) : Option (Nat × zM × zS) :=
  zchk (zkd S v0 = 24) ( if v1 = (zlen S v0) then (zchk (zkd S v0 = 24) ( zchk ((zlen S v0) ≤ 100) ( zlet (S.1 + 1) fun q16 => ( zlet (zn S (24, (zlen S v0).toNat)) fun S17 => ( zlet (up M q16 (M v0)) fun M18 => ( zchk (zkd S17 q16 = 24) ( some (q16, M18, S17)))))))) else (zchk ((0 : Int) ≤ v1 ∧ v1 ≤ 100) ( zlet (S.1 + 1) fun q5 => ( zlet (zn S (24, v1.toNat)) fun S6 => ( zchk (zkd S6 v0 = 24) ( zchk (zkd S6 v0 = 24) ( zchk (zkd S6 q5 = 24) ( zchk ((0 : Int) ≤ 0 ∧ (0 : Int) ≤ 0 ∧ (0 : Int) ≤ (zmin (zlen S6 v0) v1) ∧ (0 + (zmin (zlen S6 v0) v1) : Int) ≤ (zlen S6 v0) ∧ (0 + (zmin (zlen S6 v0) v1) : Int) ≤ (zlen S6 q5)) ( zlet (zcpy M v0 0 q5 0 (zmin (zlen S6 v0) v1)) fun M13 => ( some (q5, M13, S6)))))))))))
def F_J5_ensureCapacityInternal_d00df (v0 : Nat) (v1 : Int) (M : zM) (S : zS) : Option (zM × zS) :=
  zchk (zkd S v0 = 8) ( zchk (zkd S (zrf S v0 0) = 24) ( zchk (zkd S v0 = 8) ( zlet (zshr (zlen S (zrf S v0 0)) (M v0 1)) fun x6 => ( if 0 < (w (v1 - x6)) then (zchk (zkd S v0 = 8) ( zchk (zkd S v0 = 8) ( zb1 (F_J5_newCapacity_0f7a4 v0 v1 M S) fun r10 => ( zchk (zkd S v0 = 8) ( zb3 (F_J7_copyOf_9075b (zrf S v0 0) (zshl r10 (M v0 1)) M S) fun r14 M15 S16 => ( zchk (zkd S16 v0 = 8) ( zchk (89 < v0) ( zlet (zq S16 v0 0 r14) fun S21 => ( some (M15, S21)))))))))) else (some (M, S))))))
def F_J5_inflateIfNeededFor_a7421 (v0 : Nat) (v1 : Nat) (M : zM) (S : zS) : Option (Unit) :=
  if (1 : Int) = 0 then (some ()) else (zchk (zkd S v0 = 8) ( zb1 (F_J0_codM v1 M S) fun r4 => ( if (M v0 1) = r4 then (some ()) else (none))))
def F_J5_putStringAt_47b60 (v0 : Nat) (v1 : Int) (v2 : Nat) (M : zM) (S : zS) : Option (zM) :=
  zchk (zkd S v0 = 8) ( zb1 (F_J5_inflateIfNeededFor_a7421 v0 v2 M S) fun _ => ( zchk (zkd S v0 = 8) ( zchk (zkd S v0 = 8) ( zb1 (F_J0_gbyM v2 (zrf S v0 0) v1 (M v0 1) M S) fun M6 => ( some M6)))))
def F_J5_append_cf1ce (v0 : Nat) (v1 : Nat) (M : zM) (S : zS) : Option (Nat × zM × zS) :=
  if v1 = 0 then (none) else (zb1 (F_J0_lenM v1 M S) fun r2 => ( zchk (zkd S v0 = 8) ( zchk (zkd S v0 = 8) ( zb2 (F_J5_ensureCapacityInternal_d00df v0 (w ((M v0 3) + r2)) M S) fun M6 S7 => ( zchk (zkd S7 v0 = 8) ( zchk (zkd S7 v0 = 8) ( zb1 (F_J5_putStringAt_47b60 v0 (M6 v0 3) v1 M6 S7) fun M13 => ( zchk (zkd S7 v0 = 8) ( zchk (zkd S7 v0 = 8) ( zlet (zs M13 v0 3 (w ((M13 v0 3) + r2))) fun M18 => ( some (v0, M18, S7))))))))))))
def F_J5_isLatin1_aae02_J17 (M : zM) (S : zS) : Option (Int) :=
  some 0
def F_J5_isLatin1_aae02 (v0 : Nat) (M : zM) (S : zS) : Option (Int) :=
  if (1 : Int) = 0 then (F_J5_isLatin1_aae02_J17 M S) else (zchk (zkd S v0 = 8) ( if (M v0 1) = 0 then (some 1) else (F_J5_isLatin1_aae02_J17 M S)))
def F_J1_canEncode_fc78d (v0 : Int) : Option (Int) :=
  if 255 < v0 then (some 0) else (some 1)
def F_J5_append_3fe6f (v0 : Nat) (v1 : Int) (M : zM) (S : zS) : Option (Nat × zM × zS) :=
  zchk (zkd S v0 = 8) ( zchk (zkd S v0 = 8) ( zb2 (F_J5_ensureCapacityInternal_d00df v0 (w ((M v0 3) + 1)) M S) fun M4 S5 => ( zchk (zkd S5 v0 = 8) ( zb1 (F_J5_isLatin1_aae02 v0 M4 S5) fun r9 => ( if r9 = 0 then (none) else (zb1 (F_J1_canEncode_fc78d v1) fun r12 => ( if r12 = 0 then (none) else (zchk (zkd S5 v0 = 8) ( zchk (zkd S5 v0 = 8) ( zchk (zkd S5 v0 = 8) ( zlet (zs M4 v0 3 (w ((M4 v0 3) + 1))) fun M19 => ( zchk (zkd S5 (zrf S5 v0 0) = 24) ( zchk ((0 : Int) ≤ (M4 v0 3) ∧ (M4 v0 3) < (zlen S5 (zrf S5 v0 0))) ( zlet (zs M19 (zrf S5 v0 0) (M4 v0 3) (zi2b (zi2b v1))) fun M22 => ( some (v0, M22, S5))))))))))))))))
def F_J6_stringSize_0f7a4_J42 (v1 : Int) : Option (Int) :=
  some (w (10 + v1))
def F_J6_stringSize_0f7a4_J27 (v1 : Int) (v3 : Int) : Option (Int) :=
  some (w (v3 + v1))
def F_J6_stringSize_0f7a4_B16 (v0 : Int) (v1 : Int) (v2 : Int) (v3 : Int) : Option ((Int × Int) ⊕ ((Int) ⊕ (Unit))) :=
  if v3 < 10 then (if v2 < v0 then (some (.inr (.inl v3))) else (zlet (w (10 * v2)) fun x3 => ( zlet (w (v3 + 1)) fun x4 => ( some (.inl (x3, x4)))))) else (some (.inr (.inr ())))
def F_J6_stringSize_0f7a4_L16 (v0 : Int) (v1 : Int) (v2 : Int) (v3 : Int) : Option (Int) :=
  zb1 (zloop (fun (s : Int × Int) => F_J6_stringSize_0f7a4_B16 v0 v1 s.1 s.2) zN (v2, v3)) (Sum.elim (fun (e : Int) => F_J6_stringSize_0f7a4_J27 v1 e) (fun (e : Unit) => F_J6_stringSize_0f7a4_J42 v1))
def F_J6_stringSize_0f7a4_J11 (v0 : Int) (v1 : Int) : Option (Int) :=
  F_J6_stringSize_0f7a4_L16 v0 v1 (-10) 1
def F_J6_stringSize_0f7a4 (v0 : Int) : Option (Int) :=
  if v0 < 0 then (F_J6_stringSize_0f7a4_J11 v0 1) else (zlet (w (-v0)) fun x6 => ( F_J6_stringSize_0f7a4_J11 x6 0))
def F_J6_getChars_ba4f3_J22 (v0 : Int) (v2 : Nat) (v5 : Int) (v6 : Int) (M : zM) (S : zS) : Option (Int × zM) :=
  if (-100) < v0 then (zlet (w (v5 + (-1))) fun x2 => ( zchk ((0 : Int) ≤ (w (-v0)) ∧ (w (-v0)) < 10) ( zchk (zkd S v2 = 24) ( zchk ((0 : Int) ≤ x2 ∧ x2 < (zlen S v2)) ( zlet (zs M v2 x2 (zi2b (48 + (w (-v0))))) fun M6 => ( if v0 < (-9) then (none) else (if v6 = 0 then (some (x2, M6)) else (none)))))))) else (none)
def F_J6_getChars_ba4f3 (v0 : Int) (v1 : Int) (v2 : Nat) (M : zM) (S : zS) : Option (Int × zM) :=
  if v0 < 0 then (none) else (if (0 : Int) = 0 then (zlet (w (-v0)) fun x11 => ( F_J6_getChars_ba4f3_J22 x11 v2 v1 0 M S)) else (F_J6_getChars_ba4f3_J22 v0 v2 v1 0 M S))
def F_J5_append_c97b9 (v0 : Nat) (v1 : Int) (M : zM) (S : zS) : Option (Nat × zM × zS) :=
  zchk (zkd S v0 = 8) ( zlet (M v0 3) fun x3 => ( zb1 (F_J6_stringSize_0f7a4 v1) fun r4 => ( zlet (w (x3 + r4)) fun x6 => ( zchk (zkd S v0 = 8) ( zb2 (F_J5_ensureCapacityInternal_d00df v0 x6 M S) fun M8 S9 => ( zchk (zkd S9 v0 = 8) ( zb1 (F_J5_isLatin1_aae02 v0 M8 S9) fun r13 => ( if r13 = 0 then (none) else (zchk (zkd S9 v0 = 8) ( zb2 (F_J6_getChars_ba4f3 v1 x6 (zrf S9 v0 0) M8 S9) fun r17 M18 => ( zchk (zkd S9 v0 = 8) ( zlet (zs M18 v0 3 x6) fun M21 => ( some (v0, M21, S9))))))))))))))
def F_J5_getValue_6d5f1 (v0 : Nat) (S : zS) : Option (Nat) :=
  zchk (zkd S v0 = 8) ( some (zrf S v0 0))
def F_J4_length_8abf5 (v0 : Nat) (M : zM) (S : zS) : Option (Int) :=
  zchk (zkd S v0 = 8) ( zb1 (F_J5_length_8abf5 v0 M S) fun r2 => ( some r2))
def F_J7_checkLength_df160 (v0 : Int) (v1 : Int) : Option (Unit) :=
  if v1 < v0 then (none) else (some ())
def F_J7_copyOfRangeByte_39247 (v0 : Nat) (v1 : Int) (v2 : Int) (M : zM) (S : zS) : Option (Nat × zM × zS) :=
  zb1 (F_J7_checkLength_df160 v1 v2) fun _ => ( zlet (w (v2 - v1)) fun x2 => ( zchk ((0 : Int) ≤ x2 ∧ x2 ≤ 100) ( zlet (S.1 + 1) fun q4 => ( zlet (zn S (24, x2.toNat)) fun S5 => ( zchk (zkd S5 v0 = 24) ( zchk (zkd S5 v0 = 24) ( zchk (zkd S5 q4 = 24) ( zchk ((0 : Int) ≤ v1 ∧ (0 : Int) ≤ 0 ∧ (0 : Int) ≤ (zmin (w ((zlen S5 v0) - v1)) x2) ∧ (v1 + (zmin (w ((zlen S5 v0) - v1)) x2) : Int) ≤ (zlen S5 v0) ∧ (0 + (zmin (w ((zlen S5 v0) - v1)) x2) : Int) ≤ (zlen S5 q4)) ( zlet (zcpy M v0 v1 q4 0 (zmin (w ((zlen S5 v0) - v1)) x2)) fun M12 => ( some (q4, M12, S5)))))))))))
def F_J7_copyOfRange_39247_J10 (v0 : Nat) (v1 : Int) (v2 : Int) (M : zM) (S : zS) : Option (Nat × zM × zS) :=
  zb3 (F_J7_copyOfRangeByte_39247 v0 v1 v2 M S) fun r1 M2 S3 => ( some (r1, M2, S3))
def F_J7_copyOfRange_39247 (v0 : Nat) (v1 : Int) (v2 : Int) (M : zM) (S : zS) : Option (Nat × zM × zS) :=
  if v1 = 0 then (zchk (zkd S v0 = 24) ( if v2 = (zlen S v0) then (zchk (zkd S v0 = 24) ( zchk ((zlen S v0) ≤ 100) ( zlet (S.1 + 1) fun q12 => ( zlet (zn S (24, (zlen S v0).toNat)) fun S13 => ( zlet (up M q12 (M v0)) fun M14 => ( zchk (zkd S13 q12 = 24) ( some (q12, M14, S13)))))))) else (F_J7_copyOfRange_39247_J10 v0 v1 v2 M S))) else (F_J7_copyOfRange_39247_J10 v0 v1 v2 M S)
def F_J0_init_db425 (v0 : Nat) (v1 : Nat) (v2 : Nat) (M : zM) (S : zS) : Option (zM × zS) :=
  zchk (¬ v0 = 0) ( zchk (zkd S v1 = 8) ( zb1 (F_J5_getValue_6d5f1 v1 S) fun r3 => ( zchk (zkd S v1 = 8) ( zb1 (F_J4_length_8abf5 v1 M S) fun r6 => ( zchk (zkd S v1 = 8) ( zb1 (F_J5_isLatin1_aae02 v1 M S) fun r9 => ( if r9 = 0 then (none) else (zchk (zkd S v0 = 9) ( zchk ((-128 : Int) ≤ 0 ∧ (0 : Int) < 128) ( zlet (zs M v0 1 0) fun M14 => ( zb3 (F_J7_copyOfRange_39247 r3 0 r6 M14 S) fun r15 M16 S17 => ( zchk (zkd S17 v0 = 9) ( zchk (89 < v0) ( zlet (zq S17 v0 0 r15) fun S22 => ( some (M16, S22))))))))))))))))
def F_J0_init_81219 (v0 : Nat) (v1 : Nat) (M : zM) (S : zS) : Option (zM × zS) :=
  zchk (¬ v0 = 0) ( zb2 (F_J0_init_db425 v0 v1 0 M S) fun M2 S3 => ( some (M2, S3)))
def F_J0_isLatin1_aae02_J17 (M : zM) (S : zS) : Option (Int) :=
  some 0
def F_J0_isLatin1_aae02 (v0 : Nat) (M : zM) (S : zS) : Option (Int) :=
  if (1 : Int) = 0 then (F_J0_isLatin1_aae02_J17 M S) else (zchk (zkd S v0 = 9) ( if (M v0 1) = 0 then (some 1) else (F_J0_isLatin1_aae02_J17 M S)))
def F_J1_charAt_3b067 (v0 : Nat) (v1 : Int) (M : zM) (S : zS) : Option (Int) :=
  zchk (zkd S v0 = 24) ( zchk ((0 : Int) ≤ v1 ∧ v1 < (zlen S v0)) ( zchk (zkd S v0 = 24) ( zchk ((0 : Int) ≤ v1 ∧ v1 < (zlen S v0)) ( zchk ((0 : Int) ≤ (zi2c (zand (M v0 v1) 255)) ∧ ((zi2c (zand (M v0 v1) 255)) : Int) < 65536) ( some (zi2c (zand (M v0 v1) 255)))))))
def F_J0_charAt_5068e (v0 : Nat) (v1 : Int) (M : zM) (S : zS) : Option (Int) :=
  zchk (zkd S v0 = 9) ( zb1 (F_J0_isLatin1_aae02 v0 M S) fun r2 => ( if r2 = 0 then (none) else (zchk (zkd S v0 = 9) ( zb1 (F_J1_charAt_3b067 (zrf S v0 0) v1 M S) fun r6 => ( zchk ((0 : Int) ≤ r6 ∧ (r6 : Int) < 65536) ( some r6))))))
def F_J8_mismatch_cb723_J71 (M : zM) (S : zS) : Option (Int) :=
  some (-1)
def F_J8_mismatch_cb723_J63 (v3 : Int) (M : zM) (S : zS) : Option (Int) :=
  some v3
def F_J8_mismatch_cb723_B49 (v0 : Nat) (v1 : Nat) (v2 : Int) (v3 : Int) (M : zM) (S : zS) : Option ((Int) ⊕ ((Int) ⊕ (Unit))) :=
  if v3 < v2 then (zchk (zkd S v0 = 24) ( zchk ((0 : Int) ≤ v3 ∧ v3 < (zlen S v0)) ( zchk (zkd S v1 = 24) ( zchk ((0 : Int) ≤ v3 ∧ v3 < (zlen S v1)) ( if (M v0 v3) = (M v1 v3) then (zlet (w (v3 + 1)) fun x9 => ( some (.inl x9))) else (some (.inr (.inl v3)))))))) else (some (.inr (.inr ())))
def F_J8_mismatch_cb723_L49 (v0 : Nat) (v1 : Nat) (v2 : Int) (v3 : Int) (M : zM) (S : zS) : Option (Int) :=
  zb1 (zloop (fun (s : Int) => F_J8_mismatch_cb723_B49 v0 v1 v2 s M S) zN v3) (Sum.elim (fun (e : Int) => F_J8_mismatch_cb723_J63 e M S) (fun (e : Unit) => F_J8_mismatch_cb723_J71 M S))
def F_J8_mismatch_cb723 (v0 : Nat) (v1 : Nat) (v2 : Int) (M : zM) (S : zS) : Option (Int) :=
  if 7 < v2 then (none) else (F_J8_mismatch_cb723_L49 v0 v1 v2 0 M S)
def F_J1_getChar_3b067 (v0 : Nat) (v1 : Int) (M : zM) (S : zS) : Option (Int) :=
  zchk (zkd S v0 = 24) ( zchk ((0 : Int) ≤ v1 ∧ v1 < (zlen S v0)) ( zchk ((0 : Int) ≤ (zi2c (zand (M v0 v1) 255)) ∧ ((zi2c (zand (M v0 v1) 255)) : Int) < 65536) ( some (zi2c (zand (M v0 v1) 255)))))
def F_J1_compareTo_66405 (v0 : Nat) (v1 : Nat) (v2 : Int) (v3 : Int) (M : zM) (S : zS) : Option (Int) :=
  zlet (zmin v2 v3) fun x1 => ( zb1 (F_J8_mismatch_cb723 v0 v1 x1 M S) fun r2 => ( if r2 < 0 then (some (w (v2 - v3))) else (zb1 (F_J1_getChar_3b067 v0 r2 M S) fun r5 => ( zb1 (F_J1_getChar_3b067 v1 r2 M S) fun r7 => ( some (w (r5 - r7)))))))
def F_J1_compareTo_b82b6 (v0 : Nat) (v1 : Nat) (M : zM) (S : zS) : Option (Int) :=
  zchk (zkd S v0 = 24) ( zlet (zlen S v0) fun x3 => ( zchk (zkd S v1 = 24) ( zlet (zlen S v1) fun x6 => ( zb1 (F_J1_compareTo_66405 v0 v1 x3 x6 M S) fun r7 => ( some r7)))))
def F_J0_compareTo_2f485 (v0 : Nat) (v1 : Nat) (M : zM) (S : zS) : Option (Int) :=
  zchk (zkd S v0 = 9) ( zlet ((zrf S v0 0)) fun q2 => ( zchk (zkd S v1 = 9) ( zlet ((zrf S v1 0)) fun q4 => ( zchk (zkd S v0 = 9) ( zb1 (F_J0_coder_7d493 v0 M S) fun r6 => ( zchk (zkd S v1 = 9) ( zb1 (F_J0_coder_7d493 v1 M S) fun r9 => ( if r6 = r9 then (if r6 = 0 then (zb1 (F_J1_compareTo_b82b6 q2 q4 M S) fun r13 => ( some r13)) else (none)) else (none)))))))))
def F_J4_init_da8c8 (v0 : Nat) (M : zM) (S : zS) : Option (zM × zS) :=
  zchk (¬ v0 = 0) ( zb2 (F_J5_init_d00df v0 16 M S) fun M2 S3 => ( some (M2, S3)))
def F_J4_append_15ec4 (v0 : Nat) (v1 : Nat) (M : zM) (S : zS) : Option (Nat × zM × zS) :=
  zchk (zkd S v0 = 8) ( zb3 (F_J5_append_cf1ce v0 v1 M S) fun r2 M3 S4 => ( some (v0, M3, S4)))
def F_J4_append_cf468 (v0 : Nat) (v1 : Int) (M : zM) (S : zS) : Option (Nat × zM × zS) :=
  zchk (zkd S v0 = 8) ( zb3 (F_J5_append_3fe6f v0 v1 M S) fun r2 M3 S4 => ( some (v0, M3, S4)))
def F_J4_append_bf812 (v0 : Nat) (v1 : Int) (M : zM) (S : zS) : Option (Nat × zM × zS) :=
  zchk (zkd S v0 = 8) ( zb3 (F_J5_append_c97b9 v0 v1 M S) fun r2 M3 S4 => ( some (v0, M3, S4)))
def F_J4_toString_0e30d (v0 : Nat) (M : zM) (S : zS) : Option (Nat × zM × zS) :=
  zlet (S.1 + 1) fun q1 => ( zlet (zn S (9, 4)) fun S2 => ( zb2 (F_J0_init_81219 q1 v0 M S2) fun M4 S5 => ( some (q1, M4, S5))))
def F_L_cell_J15 (ln : Int) (scr : Int → Int) (v1 : Int) (t0 : Int) (t1 : Int) : Option (Int) :=
  zlet (w ((t0 * (t1 + (1009 * v1))) + 12345)) fun x1 => ( zlet (w ((zxor x1 (zushr x1 13)) * 1103515245)) fun x2 => ( some (zxor x2 (zushr x2 16))))
def F_L_cell (ln : Int) (scr : Int → Int) (v1 : Int) : Option (Int) :=
  if v1 < ln then (zchk ((0 : Int) ≤ v1 ∧ v1 < ln) ( F_L_cell_J15 ln scr v1 69069 (scr v1))) else (F_L_cell_J15 ln scr v1 69069 0)
def F_L_pick (ln : Int) (scr : Int → Int) (v1 : Int) (v2 : Int) (S : zS) : Option (Int) :=
  zb1 (F_L_cell ln scr v1) fun r1 => ( zchk (¬ v2 = 0) ( some (zrem (zushr r1 8) v2)))
def F_L_define_J25 (M : zM) (S : zS) : Option (Int × zM × zS) :=
  zchk (S.1 + 100 ≤ 6000) ( zbx (F_X10_define M S) (fun e M S => if e = 1 then (zchk (S.1 + 100 ≤ 6000) ( some ((-1), M, S))) else (if e = 0 then (zchk (S.1 + 100 ≤ 6000) ( some ((-2), M, S))) else (none))) fun r2 M3 S4 => ( zchk (S4.1 + 100 ≤ 6000) ( some (r2, M3, S4))))
def F_L_define_B2 (v1 : Nat) (v2 : Int) (M : zM) (S : zS) : Option ((Int × zM × zS) ⊕ (zM × zS)) :=
  zchk (S.1 + 100 ≤ 6000) ( zb1 (F_J0_lenM v1 M S) fun r18 => ( if v2 < r18 then (zchk (S.1 + 100 ≤ 6000) ( zchk (zkd S v1 = 9) ( zb1 (F_J0_charAt_5068e v1 v2 M S) fun r22 => ( zchk (S.1 + 100 ≤ 6000) ( zbx (F_X10_append r22 M S) (fun e M S => none) fun u28 M25 S26 => ( zlet (w (v2 + 1)) fun x33 => ( some (.inl (x33, M25, S26))))))))) else (some (.inr (M, S)))))
def F_L_define_L2 (v1 : Nat) (v2 : Int) (M : zM) (S : zS) : Option (Int × zM × zS) :=
  zb1 (zloop (fun (s : Int × zM × zS) => F_L_define_B2 v1 s.1 s.2.1 s.2.2) zN (v2, M, S)) (fun (e : zM × zS) => F_L_define_J25 e.1 e.2)
def F_L_define (v1 : Nat) (M : zM) (S : zS) : Option (Int × zM × zS) :=
  F_L_define_L2 v1 0 M S
def F_L_letters_J43 (ln : Int) (scr : Int → Int) (v4 : Nat) (M : zM) (S : zS) : Option (Nat × zM × zS) :=
  zchk (S.1 + 100 ≤ 6000) ( zchk (zkd S v4 = 8) ( zb3 (F_J4_toString_0e30d v4 M S) fun r3 M4 S5 => ( zchk (S5.1 + 100 ≤ 6000) ( some (r3, M4, S5)))))
def F_L_letters_B12 (ln : Int) (scr : Int → Int) (v1 : Int) (v2 : Int) (v3 : Int) (v4 : Nat) (v5 : Int) (M : zM) (S : zS) : Option ((Int × zM × zS) ⊕ (zM × zS)) :=
  if v5 < v2 then (zchk (S.1 + 100 ≤ 6000) ( zb1 (F_L_pick ln scr (w (v1 + v5)) v3 S) fun r11 => ( zchk (S.1 + 100 ≤ 6000) ( zchk (zkd S v4 = 8) ( zb3 (F_J4_append_cf468 v4 (zi2c (97 + r11)) M S) fun r15 M16 S17 => ( zlet (w (v5 + 1)) fun x20 => ( some (.inl (x20, M16, S17))))))))) else (some (.inr (M, S)))
def F_L_letters_L12 (ln : Int) (scr : Int → Int) (v1 : Int) (v2 : Int) (v3 : Int) (v4 : Nat) (v5 : Int) (M : zM) (S : zS) : Option (Nat × zM × zS) :=
  zb1 (zloop (fun (s : Int × zM × zS) => F_L_letters_B12 ln scr v1 v2 v3 v4 s.1 s.2.1 s.2.2) zN (v5, M, S)) (fun (e : zM × zS) => F_L_letters_J43 ln scr v4 e.1 e.2)
def F_L_letters (ln : Int) (scr : Int → Int) (v1 : Int) (v2 : Int) (v3 : Int) (M : zM) (S : zS) : Option (Nat × zM × zS) :=
  zlet (S.1 + 1) fun q21 => ( zchk (S.1 + 100 ≤ 6000) ( zlet (up M q21 (fun _ => 0)) fun M23 => ( zlet (zn S (8, 4)) fun S24 => ( zchk (S24.1 + 100 ≤ 6000) ( zb2 (F_J4_init_da8c8 q21 M23 S24) fun M27 S28 => ( F_L_letters_L12 ln scr v1 v2 v3 q21 0 M27 S28))))))
def F_L_selector (ln : Int) (scr : Int → Int) (v1 : Int) (M : zM) (S : zS) : Option (Nat × zM × zS) :=
  zchk (S.1 + 100 ≤ 6000) ( zb1 (F_L_pick ln scr v1 7 S) fun r2 => ( if r2 = 0 then (zchk (S.1 + 100 ≤ 6000) ( some (57, M, S))) else (if r2 = 1 then (zlet (S.1 + 1) fun q7 => ( zchk (S.1 + 100 ≤ 6000) ( zlet (up M q7 (fun _ => 0)) fun M9 => ( zlet (zn S (8, 4)) fun S10 => ( zchk (S10.1 + 100 ≤ 6000) ( zb2 (F_J4_init_da8c8 q7 M9 S10) fun M13 S14 => ( zchk (S14.1 + 100 ≤ 6000) ( zchk (zkd S14 q7 = 8) ( zb3 (F_J4_append_15ec4 q7 58 M13 S14) fun r19 M20 S21 => ( zchk (S21.1 + 100 ≤ 6000) ( zb1 (F_L_pick ln scr (w (v1 + 1)) 5 S21) fun r25 => ( zchk (S21.1 + 100 ≤ 6000) ( zchk (zkd S21 r19 = 8) ( zb3 (F_J4_append_bf812 r19 r25 M20 S21) fun r29 M30 S31 => ( zchk (S31.1 + 100 ≤ 6000) ( zchk (zkd S31 r29 = 8) ( zb3 (F_J4_toString_0e30d r29 M30 S31) fun r36 M37 S38 => ( zchk (S38.1 + 100 ≤ 6000) ( some (r36, M37, S38)))))))))))))))))))) else (if r2 = 2 then (zlet (S.1 + 1) fun q43 => ( zchk (S.1 + 100 ≤ 6000) ( zlet (up M q43 (fun _ => 0)) fun M45 => ( zlet (zn S (8, 4)) fun S46 => ( zchk (S46.1 + 100 ≤ 6000) ( zb2 (F_J4_init_da8c8 q43 M45 S46) fun M49 S50 => ( zchk (S50.1 + 100 ≤ 6000) ( zchk (zkd S50 q43 = 8) ( zb3 (F_J4_append_15ec4 q43 59 M49 S50) fun r55 M56 S57 => ( zchk (S57.1 + 100 ≤ 6000) ( zb1 (F_L_pick ln scr (w (v1 + 4)) 2 S57) fun r61 => ( zchk (S57.1 + 100 ≤ 6000) ( zb3 (F_L_letters ln scr (w (v1 + 1)) (w (1 + r61)) 2 M56 S57) fun r64 M65 S66 => ( zchk (S66.1 + 100 ≤ 6000) ( zchk (zkd S66 r55 = 8) ( zb3 (F_J4_append_15ec4 r55 r64 M65 S66) fun r71 M72 S73 => ( zchk (S73.1 + 100 ≤ 6000) ( zchk (zkd S73 r71 = 8) ( zb3 (F_J4_toString_0e30d r71 M72 S73) fun r78 M79 S80 => ( zchk (S80.1 + 100 ≤ 6000) ( some (r78, M79, S80)))))))))))))))))))))) else (if r2 = 3 then (zlet (S.1 + 1) fun q85 => ( zchk (S.1 + 100 ≤ 6000) ( zlet (up M q85 (fun _ => 0)) fun M87 => ( zlet (zn S (8, 4)) fun S88 => ( zchk (S88.1 + 100 ≤ 6000) ( zb2 (F_J4_init_da8c8 q85 M87 S88) fun M91 S92 => ( zchk (S92.1 + 100 ≤ 6000) ( zchk (zkd S92 q85 = 8) ( zb3 (F_J4_append_15ec4 q85 60 M91 S92) fun r97 M98 S99 => ( zchk (S99.1 + 100 ≤ 6000) ( zb1 (F_L_pick ln scr (w (v1 + 4)) 2 S99) fun r103 => ( zchk (S99.1 + 100 ≤ 6000) ( zb3 (F_L_letters ln scr (w (v1 + 1)) (w (1 + r103)) 2 M98 S99) fun r106 M107 S108 => ( zchk (S108.1 + 100 ≤ 6000) ( zchk (zkd S108 r97 = 8) ( zb3 (F_J4_append_15ec4 r97 r106 M107 S108) fun r113 M114 S115 => ( zchk (S115.1 + 100 ≤ 6000) ( zchk (zkd S115 r113 = 8) ( zb3 (F_J4_toString_0e30d r113 M114 S115) fun r120 M121 S122 => ( zchk (S122.1 + 100 ≤ 6000) ( some (r120, M121, S122)))))))))))))))))))))) else (if r2 = 4 then (zlet (S.1 + 1) fun q127 => ( zchk (S.1 + 100 ≤ 6000) ( zlet (up M q127 (fun _ => 0)) fun M129 => ( zlet (zn S (8, 4)) fun S130 => ( zchk (S130.1 + 100 ≤ 6000) ( zb2 (F_J4_init_da8c8 q127 M129 S130) fun M133 S134 => ( zchk (S134.1 + 100 ≤ 6000) ( zchk (zkd S134 q127 = 8) ( zb3 (F_J4_append_15ec4 q127 61 M133 S134) fun r139 M140 S141 => ( zchk (S141.1 + 100 ≤ 6000) ( zb1 (F_L_pick ln scr (w (v1 + 1)) 2 S141) fun r145 => ( zchk (S141.1 + 100 ≤ 6000) ( zchk (zkd S141 r139 = 8) ( zb3 (F_J4_append_bf812 r139 r145 M140 S141) fun r149 M150 S151 => ( zchk (S151.1 + 100 ≤ 6000) ( zchk (zkd S151 r149 = 8) ( zb3 (F_J4_append_15ec4 r149 62 M150 S151) fun r156 M157 S158 => ( zchk (S158.1 + 100 ≤ 6000) ( zb1 (F_L_pick ln scr (w (v1 + 2)) 4 S158) fun r162 => ( zchk (S158.1 + 100 ≤ 6000) ( zchk (zkd S158 r156 = 8) ( zb3 (F_J4_append_bf812 r156 r162 M157 S158) fun r166 M167 S168 => ( zchk (S168.1 + 100 ≤ 6000) ( zchk (zkd S168 r166 = 8) ( zb3 (F_J4_append_15ec4 r166 63 M167 S168) fun r173 M174 S175 => ( zchk (S175.1 + 100 ≤ 6000) ( zb1 (F_L_pick ln scr (w (v1 + 3)) 3 S175) fun r179 => ( zchk (S175.1 + 100 ≤ 6000) ( zchk (zkd S175 r173 = 8) ( zb3 (F_J4_append_bf812 r173 r179 M174 S175) fun r183 M184 S185 => ( zchk (S185.1 + 100 ≤ 6000) ( zchk (zkd S185 r183 = 8) ( zb3 (F_J4_toString_0e30d r183 M184 S185) fun r190 M191 S192 => ( zchk (S192.1 + 100 ≤ 6000) ( some (r190, M191, S192)))))))))))))))))))))))))))))))))))) else (if r2 = 5 then (zlet (S.1 + 1) fun q197 => ( zchk (S.1 + 100 ≤ 6000) ( zlet (up M q197 (fun _ => 0)) fun M199 => ( zlet (zn S (8, 4)) fun S200 => ( zchk (S200.1 + 100 ≤ 6000) ( zb2 (F_J4_init_da8c8 q197 M199 S200) fun M203 S204 => ( zchk (S204.1 + 100 ≤ 6000) ( zchk (zkd S204 q197 = 8) ( zb3 (F_J4_append_15ec4 q197 64 M203 S204) fun r209 M210 S211 => ( zchk (S211.1 + 100 ≤ 6000) ( zb1 (F_L_pick ln scr (w (v1 + 1)) 3 S211) fun r215 => ( zchk (S211.1 + 100 ≤ 6000) ( zchk (zkd S211 r209 = 8) ( zb3 (F_J4_append_bf812 r209 r215 M210 S211) fun r219 M220 S221 => ( zchk (S221.1 + 100 ≤ 6000) ( zchk (zkd S221 r219 = 8) ( zb3 (F_J4_toString_0e30d r219 M220 S221) fun r226 M227 S228 => ( zchk (S228.1 + 100 ≤ 6000) ( some (r226, M227, S228)))))))))))))))))))) else (zlet (S.1 + 1) fun q232 => ( zchk (S.1 + 100 ≤ 6000) ( zlet (up M q232 (fun _ => 0)) fun M234 => ( zlet (zn S (8, 4)) fun S235 => ( zchk (S235.1 + 100 ≤ 6000) ( zb2 (F_J4_init_da8c8 q232 M234 S235) fun M238 S239 => ( zchk (S239.1 + 100 ≤ 6000) ( zchk (zkd S239 q232 = 8) ( zb3 (F_J4_append_15ec4 q232 65 M238 S239) fun r244 M245 S246 => ( zchk (S246.1 + 100 ≤ 6000) ( zb1 (F_L_pick ln scr (w (v1 + 1)) 5 S246) fun r250 => ( zchk (S246.1 + 100 ≤ 6000) ( zchk (zkd S246 r244 = 8) ( zb3 (F_J4_append_bf812 r244 (w (1 + r250)) M245 S246) fun r254 M255 S256 => ( zchk (S256.1 + 100 ≤ 6000) ( zchk (zkd S256 r254 = 8) ( zb3 (F_J4_toString_0e30d r254 M255 S256) fun r261 M262 S263 => ( zchk (S263.1 + 100 ≤ 6000) ( some (r261, M262, S263)))))))))))))))))))))))))))
def F_L_mode (v0 : Int) : Option (Nat) :=
  if v0 = 0 then (some 52) else (if v0 = 1 then (some 53) else (if v0 = 2 then (some 54) else (if v0 = 3 then (some 55) else (some 56))))
def F_L_build_J299 (ln : Int) (scr : Int → Int) (M : zM) (S : zS) : Option (zM × zS) :=
  zchk (S.1 + 100 ≤ 6000) ( some (M, S))
def F_L_build_B189 (ln : Int) (scr : Int → Int) (v2 : Int) (v4 : Int) (v5 : Int) (M : zM) (S : zS) : Option ((Int × zM × zS) ⊕ (zM × zS)) :=
  if v5 < v4 then (zlet (w ((v2 + 21) + (20 * v5))) fun x3 => ( zlet (S.1 + 1) fun q4 => ( zchk (S.1 + 100 ≤ 6000) ( zlet (up M q4 (fun _ => 0)) fun M6 => ( zlet (zn S (8, 4)) fun S7 => ( zchk (S7.1 + 100 ≤ 6000) ( zb2 (F_J4_init_da8c8 q4 M6 S7) fun M10 S11 => ( zchk (S11.1 + 100 ≤ 6000) ( zchk (zkd S11 q4 = 8) ( zb3 (F_J4_append_15ec4 q4 49 M10 S11) fun r16 M17 S18 => ( zchk (S18.1 + 100 ≤ 6000) ( zb1 (F_L_pick ln scr (w (x3 + 3)) 2 S18) fun r22 => ( zchk (S18.1 + 100 ≤ 6000) ( zb3 (F_L_letters ln scr x3 (w (1 + r22)) 2 M17 S18) fun r25 M26 S27 => ( zchk (S27.1 + 100 ≤ 6000) ( zchk (zkd S27 r16 = 8) ( zb3 (F_J4_append_15ec4 r16 r25 M26 S27) fun r32 M33 S34 => ( zchk (S34.1 + 100 ≤ 6000) ( zchk (zkd S34 r32 = 8) ( zb3 (F_J4_append_15ec4 r32 66 M33 S34) fun r39 M40 S41 => ( zchk (S41.1 + 100 ≤ 6000) ( zb1 (F_L_pick ln scr (w (x3 + 7)) 2 S41) fun r45 => ( zchk (S41.1 + 100 ≤ 6000) ( zb3 (F_L_letters ln scr (w (x3 + 4)) r45 2 M40 S41) fun r48 M49 S50 => ( zchk (S50.1 + 100 ≤ 6000) ( zchk (zkd S50 r39 = 8) ( zb3 (F_J4_append_15ec4 r39 r48 M49 S50) fun r55 M56 S57 => ( zchk (S57.1 + 100 ≤ 6000) ( zchk (zkd S57 r55 = 8) ( zb3 (F_J4_append_15ec4 r55 67 M56 S57) fun r62 M63 S64 => ( zchk (S64.1 + 100 ≤ 6000) ( zb3 (F_L_selector ln scr (w (x3 + 8)) M63 S64) fun r68 M69 S70 => ( zchk (S70.1 + 100 ≤ 6000) ( zchk (zkd S70 r62 = 8) ( zb3 (F_J4_append_15ec4 r62 r68 M69 S70) fun r75 M76 S77 => ( zchk (S77.1 + 100 ≤ 6000) ( zchk (zkd S77 r75 = 8) ( zb3 (F_J4_toString_0e30d r75 M76 S77) fun r82 M83 S84 => ( zchk (S84.1 + 100 ≤ 6000) ( zb3 (F_L_define r82 M83 S84) fun r88 M89 S90 => ( zlet (w (v5 + 1)) fun x92 => ( some (.inl (x92, M89, S90)))))))))))))))))))))))))))))))))))))))))))) else (some (.inr (M, S)))
def F_L_build_L189 (ln : Int) (scr : Int → Int) (v2 : Int) (v4 : Int) (v5 : Int) (M : zM) (S : zS) : Option (zM × zS) :=
  zb1 (zloop (fun (s : Int × zM × zS) => F_L_build_B189 ln scr v2 v4 s.1 s.2.1 s.2.2) zN (v5, M, S)) (fun (e : zM × zS) => F_L_build_J299 ln scr e.1 e.2)
def F_L_build_J175 (ln : Int) (scr : Int → Int) (v2 : Int) (M : zM) (S : zS) : Option (zM × zS) :=
  zchk (S.1 + 100 ≤ 6000) ( zb1 (F_L_pick ln scr (w (v2 + 20)) 4 S) fun r94 => ( F_L_build_L189 ln scr v2 r94 0 M S))
def F_L_build_B111 (ln : Int) (scr : Int → Int) (v2 : Int) (v3 : Int) (v4 : Int) (M : zM) (S : zS) : Option ((Int × zM × zS) ⊕ (zM × zS)) :=
  if v4 < v3 then (zlet (S.1 + 1) fun q97 => ( zchk (S.1 + 100 ≤ 6000) ( zlet (up M q97 (fun _ => 0)) fun M99 => ( zlet (zn S (8, 4)) fun S100 => ( zchk (S100.1 + 100 ≤ 6000) ( zb2 (F_J4_init_da8c8 q97 M99 S100) fun M103 S104 => ( zchk (S104.1 + 100 ≤ 6000) ( zchk (zkd S104 q97 = 8) ( zb3 (F_J4_append_15ec4 q97 48 M103 S104) fun r109 M110 S111 => ( zchk (S111.1 + 100 ≤ 6000) ( zb1 (F_L_pick ln scr (w ((v2 + 6) + (4 * v4))) 3 S111) fun r115 => ( zchk (S111.1 + 100 ≤ 6000) ( zb3 (F_L_letters ln scr (w ((v2 + 3) + (4 * v4))) (w (1 + r115)) 2 M110 S111) fun r118 M119 S120 => ( zchk (S120.1 + 100 ≤ 6000) ( zchk (zkd S120 r109 = 8) ( zb3 (F_J4_append_15ec4 r109 r118 M119 S120) fun r125 M126 S127 => ( zchk (S127.1 + 100 ≤ 6000) ( zchk (zkd S127 r125 = 8) ( zb3 (F_J4_toString_0e30d r125 M126 S127) fun r132 M133 S134 => ( zchk (S134.1 + 100 ≤ 6000) ( zb3 (F_L_define r132 M133 S134) fun r138 M139 S140 => ( zlet (w (v4 + 1)) fun x142 => ( some (.inl (x142, M139, S140))))))))))))))))))))))))) else (some (.inr (M, S)))
def F_L_build_L111 (ln : Int) (scr : Int → Int) (v2 : Int) (v3 : Int) (v4 : Int) (M : zM) (S : zS) : Option (zM × zS) :=
  zb1 (zloop (fun (s : Int × zM × zS) => F_L_build_B111 ln scr v2 v3 s.1 s.2.1 s.2.2) zN (v4, M, S)) (fun (e : zM × zS) => F_L_build_J175 ln scr v2 e.1 e.2)
def F_L_build_J32 (ln : Int) (scr : Int → Int) (v2 : Int) (M : zM) (S : zS) : Option (zM × zS) :=
  zlet (S.1 + 1) fun q143 => ( zchk (S.1 + 100 ≤ 6000) ( zlet (up M q143 (fun _ => 0)) fun M145 => ( zlet (zn S (8, 4)) fun S146 => ( zchk (S146.1 + 100 ≤ 6000) ( zb2 (F_J4_init_da8c8 q143 M145 S146) fun M149 S150 => ( zchk (S150.1 + 100 ≤ 6000) ( zchk (zkd S150 q143 = 8) ( zb3 (F_J4_append_15ec4 q143 50 M149 S150) fun r155 M156 S157 => ( zchk (S157.1 + 100 ≤ 6000) ( zb1 (F_L_pick ln scr v2 5 S157) fun r161 => ( zchk (S157.1 + 100 ≤ 6000) ( zb1 (F_L_mode r161) fun r164 => ( zchk (S157.1 + 100 ≤ 6000) ( zchk (zkd S157 r155 = 8) ( zb3 (F_J4_append_15ec4 r155 r164 M156 S157) fun r168 M169 S170 => ( zchk (S170.1 + 100 ≤ 6000) ( zchk (zkd S170 r168 = 8) ( zb3 (F_J4_toString_0e30d r168 M169 S170) fun r175 M176 S177 => ( zchk (S177.1 + 100 ≤ 6000) ( zb3 (F_L_define r175 M176 S177) fun r181 M182 S183 => ( zlet (S183.1 + 1) fun q185 => ( zchk (S183.1 + 100 ≤ 6000) ( zlet (up M182 q185 (fun _ => 0)) fun M187 => ( zlet (zn S183 (8, 4)) fun S188 => ( zchk (S188.1 + 100 ≤ 6000) ( zb2 (F_J4_init_da8c8 q185 M187 S188) fun M191 S192 => ( zchk (S192.1 + 100 ≤ 6000) ( zchk (zkd S192 q185 = 8) ( zb3 (F_J4_append_15ec4 q185 51 M191 S192) fun r197 M198 S199 => ( zchk (S199.1 + 100 ≤ 6000) ( zb1 (F_L_pick ln scr (w (v2 + 1)) 4 S199) fun r203 => ( zchk (S199.1 + 100 ≤ 6000) ( zchk (zkd S199 r197 = 8) ( zb3 (F_J4_append_bf812 r197 (w (3 + r203)) M198 S199) fun r207 M208 S209 => ( zchk (S209.1 + 100 ≤ 6000) ( zchk (zkd S209 r207 = 8) ( zb3 (F_J4_toString_0e30d r207 M208 S209) fun r214 M215 S216 => ( zchk (S216.1 + 100 ≤ 6000) ( zb3 (F_L_define r214 M215 S216) fun r220 M221 S222 => ( zchk (S222.1 + 100 ≤ 6000) ( zb1 (F_L_pick ln scr (w (v2 + 2)) 3 S222) fun r225 => ( zlet (w (1 + r225)) fun x227 => ( F_L_build_L111 ln scr v2 x227 0 M221 S222)))))))))))))))))))))))))))))))))))))))))))
def F_L_build_B16 (ln : Int) (scr : Int → Int) (v2 : Int) (M : zM) (S : zS) : Option ((zM × zS) ⊕ (zM × zS)) :=
  zchk (S.1 + 100 ≤ 6000) ( zbx (F_X10_count 1 M S) (fun e M S => none) fun r229 M230 S231 => ( if 0 < r229 then (zchk (S231.1 + 100 ≤ 6000) ( zbx (F_X10_removeContext 0 M230 S231) (fun e M S => none) fun u242 M239 S240 => ( some (.inl (M239, S240))))) else (some (.inr (M230, S231)))))
def F_L_build_L16 (ln : Int) (scr : Int → Int) (v2 : Int) (M : zM) (S : zS) : Option (zM × zS) :=
  zb1 (zloop (fun (s : zM × zS) => F_L_build_B16 ln scr v2 s.1 s.2) zN (M, S)) (fun (e : zM × zS) => F_L_build_J32 ln scr v2 e.1 e.2)
def F_L_build_B0 (ln : Int) (scr : Int → Int) (v2 : Int) (M : zM) (S : zS) : Option ((zM × zS) ⊕ (zM × zS)) :=
  zchk (S.1 + 100 ≤ 6000) ( zbx (F_X10_count 0 M S) (fun e M S => none) fun r248 M249 S250 => ( if 0 < r248 then (zchk (S250.1 + 100 ≤ 6000) ( zbx (F_X10_removeAxiom 0 M249 S250) (fun e M S => none) fun u261 M258 S259 => ( some (.inl (M258, S259))))) else (some (.inr (M249, S250)))))
def F_L_build_L0 (ln : Int) (scr : Int → Int) (v2 : Int) (M : zM) (S : zS) : Option (zM × zS) :=
  zb1 (zloop (fun (s : zM × zS) => F_L_build_B0 ln scr v2 s.1 s.2) zN (M, S)) (fun (e : zM × zS) => F_L_build_L16 ln scr v2 e.1 e.2)
def F_L_build (ln : Int) (scr : Int → Int) (v2 : Int) (M : zM) (S : zS) : Option (zM × zS) :=
  F_L_build_L0 ln scr v2 M S
def F_L_size (M : zM) (S : zS) : Option (Int × zM × zS) :=
  zchk (S.1 + 100 ≤ 6000) ( zbx (F_X10_size M S) (fun e M S => if e = 3 then (zchk (S.1 + 100 ≤ 6000) ( some ((-1), M, S))) else (none)) fun r2 M3 S4 => ( zchk (S4.1 + 100 ≤ 6000) ( some (r2, M3, S4))))
def F_L_word_J34 (v1 : Nat) (M : zM) (S : zS) : Option (Nat × zM × zS) :=
  zchk (S.1 + 100 ≤ 6000) ( zchk (zkd S v1 = 8) ( zb3 (F_J4_toString_0e30d v1 M S) fun r3 M4 S5 => ( zchk (S5.1 + 100 ≤ 6000) ( some (r3, M4, S5)))))
def F_L_word_B10 (v1 : Nat) (v2 : Int) (M : zM) (S : zS) : Option ((Int × zM × zS) ⊕ (zM × zS)) :=
  zchk (S.1 + 100 ≤ 6000) ( zb1 (F_X10_wordLength M) fun r10 => ( if v2 < r10 then (zchk (S.1 + 100 ≤ 6000) ( zbx (F_X10_letterAt v2 M S) (fun e M S => none) fun r14 M15 S16 => ( zchk (S16.1 + 100 ≤ 6000) ( zchk (zkd S16 v1 = 8) ( zb3 (F_J4_append_cf468 v1 r14 M15 S16) fun r24 M25 S26 => ( zlet (w (v2 + 1)) fun x29 => ( some (.inl (x29, M25, S26))))))))) else (some (.inr (M, S)))))
def F_L_word_L10 (v1 : Nat) (v2 : Int) (M : zM) (S : zS) : Option (Nat × zM × zS) :=
  zb1 (zloop (fun (s : Int × zM × zS) => F_L_word_B10 v1 s.1 s.2.1 s.2.2) zN (v2, M, S)) (fun (e : zM × zS) => F_L_word_J34 v1 e.1 e.2)
def F_L_word (M : zM) (S : zS) : Option (Nat × zM × zS) :=
  zlet (S.1 + 1) fun q30 => ( zchk (S.1 + 100 ≤ 6000) ( zlet (up M q30 (fun _ => 0)) fun M32 => ( zlet (zn S (8, 4)) fun S33 => ( zchk (S33.1 + 100 ≤ 6000) ( zb2 (F_J4_init_da8c8 q30 M32 S33) fun M36 S37 => ( F_L_word_L10 q30 0 M36 S37))))))
def F_L_rank (M : zM) (S : zS) : Option (Int × zM × zS) :=
  zchk (S.1 + 100 ≤ 6000) ( zbx (F_X10_rank M S) (fun e M S => if e = 4 then (zchk (S.1 + 100 ≤ 6000) ( some ((-1), M, S))) else (none)) fun r2 M3 S4 => ( zchk (S4.1 + 100 ≤ 6000) ( some (r2, M3, S4))))
def F_L_isOrdered_J30 (M : zM) (S : zS) : Option (Int) :=
  some 1
def F_L_isOrdered_J34 (M : zM) (S : zS) : Option (Int) :=
  some 0
def F_L_isOrdered (v0 : Nat) (v1 : Nat) (M : zM) (S : zS) : Option (Int) :=
  zb1 (F_J0_lenM v0 M S) fun r1 => ( zb1 (F_J0_lenM v1 M S) fun r2 => ( if r1 < r2 then (F_L_isOrdered_J30 M S) else (zb1 (F_J0_lenM v0 M S) fun r4 => ( zb1 (F_J0_lenM v1 M S) fun r5 => ( if r4 = r5 then (zchk (zkd S v0 = 9) ( zb1 (F_J0_compareTo_2f485 v0 v1 M S) fun r8 => ( if r8 < 0 then (F_L_isOrdered_J30 M S) else (F_L_isOrdered_J34 M S)))) else (F_L_isOrdered_J34 M S))))))
def F_L_areWords_J201 (v5 : Int) (M : zM) (S : zS) : Option (Int × zM × zS) :=
  zchk ((0 : Int) ≤ v5 ∧ (v5 : Int) ≤ 1) ( zchk (S.1 + 100 ≤ 6000) ( some (v5, M, S)))
def F_L_areWords_J195 (v1 : Int) (v2 : Nat) (v3 : Nat) (v4 : Nat) (v5 : Int) (v6 : Int) (M : zM) (S : zS) : Option ((Nat × Int × Int × zM × zS) ⊕ (Int × zM × zS)) :=
  zlet (w (v6 + 1)) fun x3 => ( some (.inl (v4, v5, x3, M, S)))
def F_L_areWords_B167 (v1 : Int) (v2 : Nat) (v3 : Nat) (v4 : Nat) (v5 : Int) (v6 : Int) (v8 : Int) (v9 : Int) (M : zM) (S : zS) : Option ((Int × zM × zS) ⊕ (zM × zS)) :=
  if v9 < v8 then (zchk (S.1 + 100 ≤ 6000) ( zbx (F_X10_takeWord v6 M S) (fun e M S => none) fun u9 M6 S7 => ( zchk (S7.1 + 100 ≤ 6000) ( zbx (F_X10_insert v9 M6 S7) (fun e M S => none) fun r15 M16 S17 => ( zchk (zkd S17 v3 = 22) ( zchk ((0 : Int) ≤ r15 ∧ r15 < (zlen S17 v3)) ( zlet (zs M16 v3 r15 1) fun M25 => ( zlet (w (v9 + 1)) fun x26 => ( some (.inl (x26, M25, S17))))))))))) else (some (.inr (M, S)))
def F_L_areWords_L167 (v1 : Int) (v2 : Nat) (v3 : Nat) (v4 : Nat) (v5 : Int) (v6 : Int) (v8 : Int) (v9 : Int) (M : zM) (S : zS) : Option ((Nat × Int × Int × zM × zS) ⊕ (Int × zM × zS)) :=
  zb1 (zloop (fun (s : Int × zM × zS) => F_L_areWords_B167 v1 v2 v3 v4 v5 v6 v8 s.1 s.2.1 s.2.2) zN (v9, M, S)) (fun (e : zM × zS) => F_L_areWords_J195 v1 v2 v3 v4 v5 v6 e.1 e.2)
def F_L_areWords_J163 (v1 : Int) (v2 : Nat) (v3 : Nat) (v4 : Nat) (v5 : Int) (v6 : Int) (v8 : Int) (M : zM) (S : zS) : Option ((Nat × Int × Int × zM × zS) ⊕ (Int × zM × zS)) :=
  F_L_areWords_L167 v1 v2 v3 v4 v5 v6 v8 12 M S
def F_L_areWords_J155 (v1 : Int) (v2 : Nat) (v3 : Nat) (v4 : Nat) (v6 : Int) (v8 : Int) (v9 : Int) (t0 : Int) (M : zM) (S : zS) : Option ((Int × Int × zM × zS) ⊕ (Int × zM × zS)) :=
  zlet (w (v9 + 1)) fun x27 => ( some (.inl (t0, x27, M, S)))
def F_L_areWords_J154 (v1 : Int) (v2 : Nat) (v3 : Nat) (v4 : Nat) (v6 : Int) (v8 : Int) (v9 : Int) (M : zM) (S : zS) : Option ((Int × Int × zM × zS) ⊕ (Int × zM × zS)) :=
  F_L_areWords_J155 v1 v2 v3 v4 v6 v8 v9 0 M S
def F_L_areWords_B103 (v1 : Int) (v2 : Nat) (v3 : Nat) (v4 : Nat) (v5 : Int) (v6 : Int) (v8 : Int) (v9 : Int) (M : zM) (S : zS) : Option ((Int × Int × zM × zS) ⊕ (Int × zM × zS)) :=
  if v9 < v8 then (if v9 < 12 then (zchk (S.1 + 100 ≤ 6000) ( zbx (F_X10_takeWord v6 M S) (fun e M S => none) fun u34 M31 S32 => ( zchk (S32.1 + 100 ≤ 6000) ( zbx (F_X10_insert v9 M31 S32) (fun e M S => none) fun r40 M41 S42 => ( zchk (zkd S42 v3 = 22) ( zchk ((0 : Int) ≤ r40 ∧ r40 < (zlen S42 v3)) ( zlet (zs M41 v3 r40 1) fun M50 => ( if v5 = 0 then (F_L_areWords_J154 v1 v2 v3 v4 v6 v8 v9 M50 S42) else (zchk (S42.1 + 100 ≤ 6000) ( zb3 (F_L_rank M50 S42) fun r53 M54 S55 => ( if v6 < r53 then (F_L_areWords_J155 v1 v2 v3 v4 v6 v8 v9 1 M54 S55) else (F_L_areWords_J154 v1 v2 v3 v4 v6 v8 v9 M54 S55)))))))))))) else (some (.inr (v5, M, S)))) else (some (.inr (v5, M, S)))
def F_L_areWords_L103 (v1 : Int) (v2 : Nat) (v3 : Nat) (v4 : Nat) (v5 : Int) (v6 : Int) (v8 : Int) (v9 : Int) (M : zM) (S : zS) : Option ((Nat × Int × Int × zM × zS) ⊕ (Int × zM × zS)) :=
  zb1 (zloop (fun (s : Int × Int × zM × zS) => F_L_areWords_B103 v1 v2 v3 v4 s.1 v6 v8 s.2.1 s.2.2.1 s.2.2.2) zN (v5, v9, M, S)) (fun (e : Int × zM × zS) => F_L_areWords_J163 v1 v2 v3 v4 e.1 v6 v8 e.2.1 e.2.2)
def F_L_areWords_J77 (v1 : Int) (v2 : Nat) (v3 : Nat) (v6 : Int) (v7 : Nat) (t0 : Int) (M : zM) (S : zS) : Option ((Nat × Int × Int × zM × zS) ⊕ (Int × zM × zS)) :=
  zchk (S.1 + 100 ≤ 6000) ( zb1 (F_J0_lenM v7 M S) fun r59 => ( zchk (zkd S v2 = 20) ( zchk ((0 : Int) ≤ r59 ∧ r59 < (zlen S v2)) ( zchk (zkd S v2 = 20) ( zchk ((0 : Int) ≤ r59 ∧ r59 < (zlen S v2)) ( zlet (zs M v2 r59 (w ((M v2 r59) + 1))) fun M65 => ( zchk (S.1 + 100 ≤ 6000) ( zb2 (F_X10_insertions M65 S) fun r67 M68 => ( F_L_areWords_L103 v1 v2 v3 v7 t0 v6 r67 0 M68 S)))))))))
def F_L_areWords_J76 (v1 : Int) (v2 : Nat) (v3 : Nat) (v6 : Int) (v7 : Nat) (M : zM) (S : zS) : Option ((Nat × Int × Int × zM × zS) ⊕ (Int × zM × zS)) :=
  F_L_areWords_J77 v1 v2 v3 v6 v7 0 M S
def F_L_areWords_B10 (v1 : Int) (v2 : Nat) (v3 : Nat) (v4 : Nat) (v5 : Int) (v6 : Int) (M : zM) (S : zS) : Option ((Nat × Int × Int × zM × zS) ⊕ (Int × zM × zS)) :=
  if v6 < v1 then (if v5 = 0 then (some (.inr (v5, M, S))) else (zchk (S.1 + 100 ≤ 6000) ( zbx (F_X10_takeWord v6 M S) (fun e M S => none) fun u76 M73 S74 => ( zchk (S74.1 + 100 ≤ 6000) ( zb3 (F_L_word M73 S74) fun r82 M83 S84 => ( zchk (S84.1 + 100 ≤ 6000) ( zbx (F_X10_isGenerated M83 S84) (fun e M S => none) fun r88 M89 S90 => ( if r88 = 0 then (F_L_areWords_J76 v1 v2 v3 v6 r82 M89 S90) else (zchk (S90.1 + 100 ≤ 6000) ( zb3 (F_L_rank M89 S90) fun r98 M99 S100 => ( if r98 = v6 then (zchk (S100.1 + 100 ≤ 6000) ( zb1 (F_L_isOrdered v4 r82 M99 S100) fun r104 => ( if r104 = 0 then (F_L_areWords_J76 v1 v2 v3 v6 r82 M99 S100) else (zchk (S100.1 + 100 ≤ 6000) ( zb1 (F_J0_lenM r82 M99 S100) fun r108 => ( zchk (S100.1 + 100 ≤ 6000) ( zbx (F_X10_count 3 M99 S100) (fun e M S => none) fun r110 M111 S112 => ( if r110 < r108 then (F_L_areWords_J76 v1 v2 v3 v6 r82 M111 S112) else (F_L_areWords_J77 v1 v2 v3 v6 r82 1 M111 S112))))))))) else (F_L_areWords_J76 v1 v2 v3 v6 r82 M99 S100)))))))))))) else (some (.inr (v5, M, S)))
def F_L_areWords_L10 (v1 : Int) (v2 : Nat) (v3 : Nat) (v4 : Nat) (v5 : Int) (v6 : Int) (M : zM) (S : zS) : Option (Int × zM × zS) :=
  zb1 (zloop (fun (s : Nat × Int × Int × zM × zS) => F_L_areWords_B10 v1 v2 v3 s.1 s.2.1 s.2.2.1 s.2.2.2.1 s.2.2.2.2) zN (v4, v5, v6, M, S)) (fun (e : Int × zM × zS) => F_L_areWords_J201 e.1 e.2.1 e.2.2)
def F_L_areWords (v1 : Int) (v2 : Nat) (v3 : Nat) (M : zM) (S : zS) : Option (Int × zM × zS) :=
  F_L_areWords_L10 v1 v2 v3 68 1 0 M S
def F_L_take (v1 : Int) (M : zM) (S : zS) : Option (Int × zM × zS) :=
  zchk (S.1 + 100 ≤ 6000) ( zbx (F_X10_takeWord v1 M S) (fun e M S => if e = 2 then (zchk (S.1 + 100 ≤ 6000) ( some (1, M, S))) else (none)) fun u5 M2 S3 => ( zchk (S3.1 + 100 ≤ 6000) ( some (0, M2, S3))))
def F_L_areSizes_J183 (M : zM) (S : zS) : Option (Int × zM × zS) :=
  zchk (S.1 + 100 ≤ 6000) ( some (0, M, S))
def F_L_areSizes_J152 (v2 : Nat) (v3 : Int) (t0 : Int) (M : zM) (S : zS) : Option (Int × zM × zS) :=
  zchk (zkd S v2 = 20) ( zchk ((0 : Int) ≤ v3 ∧ v3 < (zlen S v2)) ( zchk (S.1 + 100 ≤ 6000) ( zbx (F_X10_store 0 v3 (w ((M v2 v3) + 1)) M S) (fun e M S => none) fun u9 M6 S7 => ( if t0 = 0 then (F_L_areSizes_J183 M6 S7) else (zchk (S7.1 + 100 ≤ 6000) ( zbx (F_X10_compareSizes 0 M6 S7) (fun e M S => none) fun r16 M17 S18 => ( if r16 = v3 then (zchk (S18.1 + 100 ≤ 6000) ( some (1, M17, S18))) else (F_L_areSizes_J183 M17 S18))))))))
def F_L_areSizes_J151 (v2 : Nat) (v3 : Int) (M : zM) (S : zS) : Option (Int × zM × zS) :=
  F_L_areSizes_J152 v2 v3 0 M S
def F_L_areSizes_J127 (v1 : Int) (v2 : Nat) (v3 : Int) (v4 : Int) (v5 : Int) (M : zM) (S : zS) : Option (Int × zM × zS) :=
  if v5 = 0 then (F_L_areSizes_J151 v2 v3 M S) else (zchk (S.1 + 100 ≤ 6000) ( zbx (F_X10_compareSizes 0 M S) (fun e M S => none) fun r28 M29 S30 => ( if r28 = (-1) then (if v4 = v1 then (F_L_areSizes_J152 v2 v3 1 M29 S30) else (F_L_areSizes_J151 v2 v3 M29 S30)) else (F_L_areSizes_J151 v2 v3 M29 S30))))
def F_L_areSizes_J108 (v1 : Int) (v2 : Nat) (v3 : Int) (v4 : Int) (v6 : Int) (t0 : Int) (M : zM) (S : zS) : Option ((Int × Int × Int × zM × zS) ⊕ (Int × Int × zM × zS)) :=
  zchk (zkd S v2 = 20) ( zchk ((0 : Int) ≤ v6 ∧ v6 < (zlen S v2)) ( zchk (S.1 + 100 ≤ 6000) ( zbx (F_X10_store 0 v6 (M v2 v6) M S) (fun e M S => none) fun u45 M42 S43 => ( zlet (w (v6 + 1)) fun x50 => ( some (.inl (v4, t0, x50, M42, S43)))))))
def F_L_areSizes_J107 (v1 : Int) (v2 : Nat) (v3 : Int) (v4 : Int) (v6 : Int) (M : zM) (S : zS) : Option ((Int × Int × Int × zM × zS) ⊕ (Int × Int × zM × zS)) :=
  F_L_areSizes_J108 v1 v2 v3 v4 v6 0 M S
def F_L_areSizes_J67 (v1 : Int) (v2 : Nat) (v3 : Int) (v4 : Int) (v5 : Int) (v6 : Int) (v7 : UInt64) (M : zM) (S : zS) : Option ((Int × Int × Int × zM × zS) ⊕ (Int × Int × zM × zS)) :=
  if v5 = 0 then (F_L_areSizes_J107 v1 v2 v3 v4 v6 M S) else (zchk (S.1 + 100 ≤ 6000) ( zbx (F_X10_sizeOf v6 M S) (fun e M S => none) fun r53 M54 S55 => ( zchk (zkd S55 v2 = 20) ( zchk ((0 : Int) ≤ v6 ∧ v6 < (zlen S55 v2)) ( if r53 = (M54 v2 v6) then (zchk (S55.1 + 100 ≤ 6000) ( zbx (F_X10_density v6 M54 S55) (fun e M S => none) fun r66 M67 S68 => ( zchk (zkd S68 v2 = 20) ( zchk ((0 : Int) ≤ v6 ∧ v6 < (zlen S68 v2)) ( zchkP (vf_n64 (FP.ddiv (FP.i2d (zi (M67 v2 v6))) v7)) ( if (zdcl r66 (FP.ddiv (FP.i2d (zi (M67 v2 v6))) v7)) = 0 then (F_L_areSizes_J108 v1 v2 v3 v4 v6 1 M67 S68) else (F_L_areSizes_J107 v1 v2 v3 v4 v6 M67 S68))))))) else (F_L_areSizes_J107 v1 v2 v3 v4 v6 M54 S55))))))
def F_L_areSizes_B46 (v1 : Int) (v2 : Nat) (v3 : Int) (v4 : Int) (v5 : Int) (v6 : Int) (v7 : UInt64) (v9 : Int) (M : zM) (S : zS) : Option ((UInt64 × Int) ⊕ (UInt64)) :=
  if v9 < v6 then (zchkP (vf_n64 (FP.dmul v7 4613937818241073152)) ( zlet ((FP.dmul v7 4613937818241073152)) fun x81 => ( zlet (w (v9 + 1)) fun x82 => ( some (.inl (x81, x82)))))) else (some (.inr v7))
def F_L_areSizes_L46 (v1 : Int) (v2 : Nat) (v3 : Int) (v4 : Int) (v5 : Int) (v6 : Int) (v7 : UInt64) (v9 : Int) (M : zM) (S : zS) : Option ((Int × Int × Int × zM × zS) ⊕ (Int × Int × zM × zS)) :=
  zb1 (zloop (fun (s : UInt64 × Int) => F_L_areSizes_B46 v1 v2 v3 v4 v5 v6 s.1 s.2 M S) zN (v7, v9)) (fun (e : UInt64) => F_L_areSizes_J67 v1 v2 v3 v4 v5 v6 e M S)
def F_L_areSizes_B23 (v1 : Int) (v2 : Nat) (v3 : Int) (v4 : Int) (v5 : Int) (v6 : Int) (M : zM) (S : zS) : Option ((Int × Int × Int × zM × zS) ⊕ (Int × Int × zM × zS)) :=
  if v3 < v6 then (some (.inr (v4, v5, M, S))) else (zchk (S.1 + 100 ≤ 6000) ( zbx (F_X10_sizeOf v6 M S) (fun e M S => none) fun r85 M86 S87 => ( zlet (w (v4 + r85)) fun x93 => ( F_L_areSizes_L46 v1 v2 v3 x93 v5 v6 zd1 0 M86 S87))))
def F_L_areSizes_L23 (v1 : Int) (v2 : Nat) (v3 : Int) (v4 : Int) (v5 : Int) (v6 : Int) (M : zM) (S : zS) : Option (Int × zM × zS) :=
  zb1 (zloop (fun (s : Int × Int × Int × zM × zS) => F_L_areSizes_B23 v1 v2 v3 s.1 s.2.1 s.2.2.1 s.2.2.2.1 s.2.2.2.2) zN (v4, v5, v6, M, S)) (fun (e : Int × Int × zM × zS) => F_L_areSizes_J127 v1 v2 v3 e.1 e.2.1 e.2.2.1 e.2.2.2)
def F_L_areSizes (v1 : Int) (v2 : Nat) (M : zM) (S : zS) : Option (Int × zM × zS) :=
  zchk (S.1 + 100 ≤ 6000) ( zbx (F_X10_count 3 M S) (fun e M S => none) fun r95 M96 S97 => ( zchk (S97.1 + 100 ≤ 6000) ( zbx (F_X10_allocate 0 2 10 M96 S97) (fun e M S => none) fun u107 M104 S105 => ( F_L_areSizes_L23 v1 v2 r95 0 1 0 M104 S105))))
def F_L_areContexts_J243 (t0 : Int) (M : zM) (S : zS) : Option (Int × zM × zS) :=
  zchk (S.1 + 100 ≤ 6000) ( zbx (F_X10_restore M S) (fun e M S => none) fun u5 M2 S3 => ( zchk ((0 : Int) ≤ t0 ∧ (t0 : Int) ≤ 1) ( zchk (S3.1 + 100 ≤ 6000) ( some (t0, M2, S3)))))
def F_L_areContexts_J242 (M : zM) (S : zS) : Option (Int × zM × zS) :=
  F_L_areContexts_J243 0 M S
def F_L_areContexts_J225 (v3 : Int) (v6 : Int) (M : zM) (S : zS) : Option (Int × zM × zS) :=
  if v6 = 0 then (F_L_areContexts_J242 M S) else (zchk (S.1 + 100 ≤ 6000) ( zb3 (F_L_size M S) fun r14 M15 S16 => ( if r14 = v3 then (F_L_areContexts_J243 1 M15 S16) else (F_L_areContexts_J242 M15 S16))))
def F_L_areContexts_J219 (v3 : Int) (v6 : Int) (v7 : Int) (v8 : Int) (M : zM) (S : zS) : Option ((Int × zM × zS) ⊕ (zM × zS)) :=
  zlet (w (v8 + (-1))) fun x19 => ( some (.inl (x19, M, S)))
def F_L_areContexts_B198 (v3 : Int) (v6 : Int) (v7 : Int) (v8 : Int) (M : zM) (S : zS) : Option ((Int × zM × zS) ⊕ (zM × zS)) :=
  if v8 < 0 then (some (.inr (M, S))) else (if (zand (zshr v7 v8) 1) = 0 then (zchk (S.1 + 100 ≤ 6000) ( zbx (F_X10_removeContext v8 M S) (fun e M S => none) fun u26 M23 S24 => ( F_L_areContexts_J219 v3 v6 v7 v8 M23 S24))) else (F_L_areContexts_J219 v3 v6 v7 v8 M S))
def F_L_areContexts_L198 (v3 : Int) (v6 : Int) (v7 : Int) (v8 : Int) (M : zM) (S : zS) : Option (Int × zM × zS) :=
  zb1 (zloop (fun (s : Int × zM × zS) => F_L_areContexts_B198 v3 v6 v7 s.1 s.2.1 s.2.2) zN (v8, M, S)) (fun (e : zM × zS) => F_L_areContexts_J225 v3 v6 e.1 e.2)
def F_L_areContexts_J192 (v3 : Int) (v5 : Int) (v6 : Int) (v7 : Int) (M : zM) (S : zS) : Option (Int × zM × zS) :=
  zlet (w (v5 - 1)) fun x31 => ( F_L_areContexts_L198 v3 v6 v7 x31 M S)
def F_L_areContexts_J180 (v3 : Int) (v5 : Int) (v7 : Int) (v8 : Int) (t0 : Int) (M : zM) (S : zS) : Option ((Int × Int × zM × zS) ⊕ (Int × zM × zS)) :=
  zchk (S.1 + 100 ≤ 6000) ( zbx (F_X10_restore M S) (fun e M S => none) fun u36 M33 S34 => ( zlet (w (v8 + (-1))) fun x41 => ( some (.inl (t0, x41, M33, S34)))))
def F_L_areContexts_J179 (v3 : Int) (v5 : Int) (v7 : Int) (v8 : Int) (M : zM) (S : zS) : Option ((Int × Int × zM × zS) ⊕ (Int × zM × zS)) :=
  F_L_areContexts_J180 v3 v5 v7 v8 0 M S
def F_L_areContexts_J162 (v3 : Int) (v5 : Int) (v7 : Int) (v8 : Int) (v9 : Int) (t0 : Int) (M : zM) (S : zS) : Option ((Int × Int × zM × zS) ⊕ (Int × zM × zS)) :=
  if t0 = v9 then (zchk (S.1 + 100 ≤ 6000) ( zb3 (F_L_size M S) fun r44 M45 S46 => ( if v3 < r44 then (F_L_areContexts_J179 v3 v5 v7 v8 M45 S46) else (F_L_areContexts_J180 v3 v5 v7 v8 1 M45 S46)))) else (F_L_areContexts_J179 v3 v5 v7 v8 M S)
def F_L_areContexts_B125 (v3 : Int) (v5 : Int) (v6 : Int) (v7 : Int) (v8 : Int) (M : zM) (S : zS) : Option ((Int × Int × zM × zS) ⊕ (Int × zM × zS)) :=
  if v8 < 0 then (some (.inr (v6, M, S))) else (zchk (S.1 + 100 ≤ 6000) ( zbx (F_X10_isRedundant v8 M S) (fun e M S => none) fun r51 M52 S53 => ( zchk (S53.1 + 100 ≤ 6000) ( zbx (F_X10_removeContext v8 M52 S53) (fun e M S => none) fun u63 M60 S61 => ( if v6 = 0 then (F_L_areContexts_J179 v3 v5 v7 v8 M60 S61) else (zchk (S61.1 + 100 ≤ 6000) ( zb3 (F_L_size M60 S61) fun r70 M71 S72 => ( if r70 = v3 then (F_L_areContexts_J162 v3 v5 v7 v8 r51 1 M71 S72) else (F_L_areContexts_J162 v3 v5 v7 v8 r51 0 M71 S72)))))))))
def F_L_areContexts_L125 (v3 : Int) (v5 : Int) (v6 : Int) (v7 : Int) (v8 : Int) (M : zM) (S : zS) : Option (Int × zM × zS) :=
  zb1 (zloop (fun (s : Int × Int × zM × zS) => F_L_areContexts_B125 v3 v5 s.1 v7 s.2.1 s.2.2.1 s.2.2.2) zN (v6, v8, M, S)) (fun (e : Int × zM × zS) => F_L_areContexts_J192 v3 v5 e.1 v7 e.2.1 e.2.2)
def F_L_areContexts_J115 (v3 : Int) (v5 : Int) (v6 : Int) (v7 : Int) (M : zM) (S : zS) : Option (Int × zM × zS) :=
  zchk (S.1 + 100 ≤ 6000) ( zb2 (F_X10_save M S) fun M76 S77 => ( zlet (w (v5 - 1)) fun x80 => ( F_L_areContexts_L125 v3 v5 v6 v7 x80 M76 S77)))
def F_L_areContexts_J107 (v3 : Int) (v4 : Nat) (v5 : Int) (v7 : Int) (v8 : Int) (t0 : Int) (M : zM) (S : zS) : Option ((Int × Int × zM × zS) ⊕ (Int × zM × zS)) :=
  zlet (w (v8 + 1)) fun x81 => ( some (.inl (t0, x81, M, S)))
def F_L_areContexts_J106 (v3 : Int) (v4 : Nat) (v5 : Int) (v7 : Int) (v8 : Int) (M : zM) (S : zS) : Option ((Int × Int × zM × zS) ⊕ (Int × zM × zS)) :=
  F_L_areContexts_J107 v3 v4 v5 v7 v8 0 M S
def F_L_areContexts_J102 (v3 : Int) (v4 : Nat) (v5 : Int) (v7 : Int) (v8 : Int) (M : zM) (S : zS) : Option ((Int × Int × zM × zS) ⊕ (Int × zM × zS)) :=
  F_L_areContexts_J107 v3 v4 v5 v7 v8 1 M S
def F_L_areContexts_J83 (v3 : Int) (v4 : Nat) (v5 : Int) (v7 : Int) (v8 : Int) (M : zM) (S : zS) : Option ((Int × Int × zM × zS) ⊕ (Int × zM × zS)) :=
  zchk (S.1 + 100 ≤ 6000) ( zbx (F_X10_isRedundant v8 M S) (fun e M S => none) fun r83 M84 S85 => ( if r83 = 0 then (F_L_areContexts_J102 v3 v4 v5 v7 v8 M84 S85) else (zchk (S85.1 + 100 ≤ 6000) ( zb1 (F_J6_bitCount_0f7a4 v7) fun r93 => ( if r93 < v5 then (F_L_areContexts_J102 v3 v4 v5 v7 v8 M84 S85) else (F_L_areContexts_J106 v3 v4 v5 v7 v8 M84 S85))))))
def F_L_areContexts_B40 (v3 : Int) (v4 : Nat) (v5 : Int) (v6 : Int) (v7 : Int) (v8 : Int) (M : zM) (S : zS) : Option ((Int × Int × zM × zS) ⊕ (Int × zM × zS)) :=
  if v8 < v5 then (if v6 = 0 then (F_L_areContexts_J106 v3 v4 v5 v7 v8 M S) else (zchk (S.1 + 100 ≤ 6000) ( zbx (F_X10_isUsed v8 M S) (fun e M S => none) fun r99 M100 S101 => ( zchk (zkd S101 v4 = 22) ( zchk ((0 : Int) ≤ v8 ∧ v8 < (zlen S101 v4)) ( if r99 = (M100 v4 v8) then (zchk (zkd S101 v4 = 22) ( zchk ((0 : Int) ≤ v8 ∧ v8 < (zlen S101 v4)) ( if (M100 v4 v8) = 0 then (zchk (S101.1 + 100 ≤ 6000) ( zbx (F_X10_isRedundant v8 M100 S101) (fun e M S => none) fun r116 M117 S118 => ( if r116 = 0 then (F_L_areContexts_J106 v3 v4 v5 v7 v8 M117 S118) else (F_L_areContexts_J83 v3 v4 v5 v7 v8 M117 S118)))) else (F_L_areContexts_J83 v3 v4 v5 v7 v8 M100 S101)))) else (F_L_areContexts_J106 v3 v4 v5 v7 v8 M100 S101))))))) else (some (.inr (v6, M, S)))
def F_L_areContexts_L40 (v3 : Int) (v4 : Nat) (v5 : Int) (v6 : Int) (v7 : Int) (v8 : Int) (M : zM) (S : zS) : Option (Int × zM × zS) :=
  zb1 (zloop (fun (s : Int × Int × zM × zS) => F_L_areContexts_B40 v3 v4 v5 s.1 v7 s.2.1 s.2.2.1 s.2.2.2) zN (v6, v8, M, S)) (fun (e : Int × zM × zS) => F_L_areContexts_J115 v3 v5 e.1 v7 e.2.1 e.2.2)
def F_L_areContexts_J35 (v3 : Int) (v4 : Nat) (v5 : Int) (v7 : Int) (t0 : Int) (M : zM) (S : zS) : Option (Int × zM × zS) :=
  F_L_areContexts_L40 v3 v4 v5 t0 v7 0 M S
def F_L_areContexts_J34 (v3 : Int) (v4 : Nat) (v5 : Int) (v7 : Int) (M : zM) (S : zS) : Option (Int × zM × zS) :=
  F_L_areContexts_J35 v3 v4 v5 v7 0 M S
def F_L_areContexts (v2 : Int) (v3 : Int) (v4 : Nat) (M : zM) (S : zS) : Option (Int × zM × zS) :=
  zchk (S.1 + 100 ≤ 6000) ( zbx (F_X10_count 1 M S) (fun e M S => none) fun r126 M127 S128 => ( zchk (S128.1 + 100 ≤ 6000) ( zbx (F_X10_minimalContexts M127 S128) (fun e M S => none) fun r135 M136 S137 => ( if (1 : Int) = 0 then (F_L_areContexts_J34 v3 v4 r126 r135 M136 S137) else (if r135 < (zshl 1 r126) then (F_L_areContexts_J35 v3 v4 r126 r135 1 M136 S137) else (F_L_areContexts_J34 v3 v4 r126 r135 M136 S137))))))
def F_L_areFollowing_J217 (v4 : Int) (M : zM) (S : zS) : Option (Int × zM × zS) :=
  zchk ((0 : Int) ≤ v4 ∧ (v4 : Int) ≤ 1) ( zchk (S.1 + 100 ≤ 6000) ( some (v4, M, S)))
def F_L_areFollowing_J211 (v1 : Int) (v2 : Int) (v3 : Nat) (v4 : Int) (v5 : Int) (M : zM) (S : zS) : Option ((Int × Int × zM × zS) ⊕ (Int × zM × zS)) :=
  zlet (w (v5 + 1)) fun x3 => ( some (.inl (v4, x3, M, S)))
def F_L_areFollowing_J203 (v1 : Int) (v2 : Int) (v3 : Nat) (v5 : Int) (v6 : Int) (t0 : Int) (M : zM) (S : zS) : Option ((Int × Int × zM × zS) ⊕ (Int × zM × zS)) :=
  zlet (w (v6 + 1)) fun x4 => ( some (.inl (t0, x4, M, S)))
def F_L_areFollowing_J202 (v1 : Int) (v2 : Int) (v3 : Nat) (v5 : Int) (v6 : Int) (M : zM) (S : zS) : Option ((Int × Int × zM × zS) ⊕ (Int × zM × zS)) :=
  F_L_areFollowing_J203 v1 v2 v3 v5 v6 0 M S
def F_L_areFollowing_J198 (v1 : Int) (v2 : Int) (v3 : Nat) (v5 : Int) (v6 : Int) (M : zM) (S : zS) : Option ((Int × Int × zM × zS) ⊕ (Int × zM × zS)) :=
  F_L_areFollowing_J203 v1 v2 v3 v5 v6 1 M S
def F_L_areFollowing_J172 (v1 : Int) (v2 : Int) (v3 : Nat) (v5 : Int) (v6 : Int) (M : zM) (S : zS) : Option ((Int × Int × zM × zS) ⊕ (Int × zM × zS)) :=
  if 40 < v1 then (F_L_areFollowing_J198 v1 v2 v3 v5 v6 M S) else (zchk (S.1 + 100 ≤ 6000) ( zbx (F_X10_canFollow v5 v6 M S) (fun e M S => none) fun r7 M8 S9 => ( zchk (zkd S9 v3 = 22) ( zchk ((0 : Int) ≤ (w ((5 * v5) + v6)) ∧ (w ((5 * v5) + v6)) < (zlen S9 v3)) ( if r7 = (M8 v3 (w ((5 * v5) + v6))) then (F_L_areFollowing_J198 v1 v2 v3 v5 v6 M8 S9) else (F_L_areFollowing_J202 v1 v2 v3 v5 v6 M8 S9))))))
def F_L_areFollowing_B138 (v1 : Int) (v2 : Int) (v3 : Nat) (v4 : Int) (v5 : Int) (v6 : Int) (M : zM) (S : zS) : Option ((Int × Int × zM × zS) ⊕ (Int × zM × zS)) :=
  if v6 < v2 then (if v4 = 0 then (F_L_areFollowing_J202 v1 v2 v3 v5 v6 M S) else (zchk (S.1 + 100 ≤ 6000) ( zbx (F_X10_canFollow v5 v6 M S) (fun e M S => none) fun r22 M23 S24 => ( if r22 = 0 then (zchk (zkd S24 v3 = 22) ( zchk ((0 : Int) ≤ (w ((5 * v5) + v6)) ∧ (w ((5 * v5) + v6)) < (zlen S24 v3)) ( if (M23 v3 (w ((5 * v5) + v6))) = 0 then (F_L_areFollowing_J172 v1 v2 v3 v5 v6 M23 S24) else (F_L_areFollowing_J202 v1 v2 v3 v5 v6 M23 S24)))) else (F_L_areFollowing_J172 v1 v2 v3 v5 v6 M23 S24))))) else (some (.inr (v4, M, S)))
def F_L_areFollowing_L138 (v1 : Int) (v2 : Int) (v3 : Nat) (v4 : Int) (v5 : Int) (v6 : Int) (M : zM) (S : zS) : Option ((Int × Int × zM × zS) ⊕ (Int × zM × zS)) :=
  zb1 (zloop (fun (s : Int × Int × zM × zS) => F_L_areFollowing_B138 v1 v2 v3 s.1 v5 s.2.1 s.2.2.1 s.2.2.2) zN (v4, v6, M, S)) (fun (e : Int × zM × zS) => F_L_areFollowing_J211 v1 v2 v3 e.1 v5 e.2.1 e.2.2)
def F_L_areFollowing_B129 (v1 : Int) (v2 : Int) (v3 : Nat) (v4 : Int) (v5 : Int) (M : zM) (S : zS) : Option ((Int × Int × zM × zS) ⊕ (Int × zM × zS)) :=
  if v5 < v2 then (F_L_areFollowing_L138 v1 v2 v3 v4 v5 0 M S) else (some (.inr (v4, M, S)))
def F_L_areFollowing_L129 (v1 : Int) (v2 : Int) (v3 : Nat) (v4 : Int) (v5 : Int) (M : zM) (S : zS) : Option (Int × zM × zS) :=
  zb1 (zloop (fun (s : Int × Int × zM × zS) => F_L_areFollowing_B129 v1 v2 v3 s.1 s.2.1 s.2.2.1 s.2.2.2) zN (v4, v5, M, S)) (fun (e : Int × zM × zS) => F_L_areFollowing_J217 e.1 e.2.1 e.2.2)
def F_L_areFollowing_J123 (v1 : Int) (v2 : Int) (v3 : Nat) (M : zM) (S : zS) : Option (Int × zM × zS) :=
  F_L_areFollowing_L129 v1 v2 v3 1 0 M S
def F_L_areFollowing_J117 (v1 : Int) (v2 : Int) (v3 : Nat) (v4 : Int) (M : zM) (S : zS) : Option ((Int × zM × zS) ⊕ (zM × zS)) :=
  zlet (w (v4 + 1)) fun x36 => ( some (.inl (x36, M, S)))
def F_L_areFollowing_J111 (v1 : Int) (v2 : Int) (v3 : Nat) (v4 : Int) (v5 : Int) (v6 : Int) (M : zM) (S : zS) : Option ((Int × zM × zS) ⊕ (zM × zS)) :=
  zlet (w (v6 + 1)) fun x37 => ( some (.inl (x37, M, S)))
def F_L_areFollowing_B78 (v1 : Int) (v2 : Int) (v3 : Nat) (v4 : Int) (v5 : Int) (v6 : Int) (v7 : Int) (v8 : Int) (v9 : Int) (v10 : Int) (M : zM) (S : zS) : Option ((Int × zM × zS) ⊕ (zM × zS)) :=
  if v10 < v9 then (zchk (S.1 + 100 ≤ 6000) ( zbx (F_X10_takeWord v8 M S) (fun e M S => none) fun u43 M40 S41 => ( zchk (S41.1 + 100 ≤ 6000) ( zbx (F_X10_insert v10 M40 S41) (fun e M S => none) fun r49 M50 S51 => ( zchk (zkd S51 v3 = 22) ( zchk ((0 : Int) ≤ (w ((5 * v7) + r49)) ∧ (w ((5 * v7) + r49)) < (zlen S51 v3)) ( zlet (zs M50 v3 (w ((5 * v7) + r49)) 1) fun M59 => ( zlet (w (v10 + 1)) fun x60 => ( some (.inl (x60, M59, S51))))))))))) else (some (.inr (M, S)))
def F_L_areFollowing_L78 (v1 : Int) (v2 : Int) (v3 : Nat) (v4 : Int) (v5 : Int) (v6 : Int) (v7 : Int) (v8 : Int) (v9 : Int) (v10 : Int) (M : zM) (S : zS) : Option ((Int × zM × zS) ⊕ (zM × zS)) :=
  zb1 (zloop (fun (s : Int × zM × zS) => F_L_areFollowing_B78 v1 v2 v3 v4 v5 v6 v7 v8 v9 s.1 s.2.1 s.2.2) zN (v10, M, S)) (fun (e : zM × zS) => F_L_areFollowing_J111 v1 v2 v3 v4 v5 v6 e.1 e.2)
def F_L_areFollowing_B42 (v1 : Int) (v2 : Int) (v3 : Nat) (v4 : Int) (v5 : Int) (v6 : Int) (M : zM) (S : zS) : Option ((Int × zM × zS) ⊕ (zM × zS)) :=
  if v6 < v5 then (zchk (S.1 + 100 ≤ 6000) ( zbx (F_X10_takeWord v4 M S) (fun e M S => none) fun u66 M63 S64 => ( zchk (S64.1 + 100 ≤ 6000) ( zbx (F_X10_insert v6 M63 S64) (fun e M S => none) fun r72 M73 S74 => ( zchk (S74.1 + 100 ≤ 6000) ( zb3 (F_L_rank M73 S74) fun r81 M82 S83 => ( zchk (S83.1 + 100 ≤ 6000) ( zb2 (F_X10_insertions M82 S83) fun r86 M87 => ( F_L_areFollowing_L78 v1 v2 v3 v4 v5 v6 r72 r81 r86 0 M87 S83))))))))) else (some (.inr (M, S)))
def F_L_areFollowing_L42 (v1 : Int) (v2 : Int) (v3 : Nat) (v4 : Int) (v5 : Int) (v6 : Int) (M : zM) (S : zS) : Option ((Int × zM × zS) ⊕ (zM × zS)) :=
  zb1 (zloop (fun (s : Int × zM × zS) => F_L_areFollowing_B42 v1 v2 v3 v4 v5 s.1 s.2.1 s.2.2) zN (v6, M, S)) (fun (e : zM × zS) => F_L_areFollowing_J117 v1 v2 v3 v4 e.1 e.2)
def F_L_areFollowing_B14 (v1 : Int) (v2 : Int) (v3 : Nat) (v4 : Int) (M : zM) (S : zS) : Option ((Int × zM × zS) ⊕ (zM × zS)) :=
  if v4 < v1 then (if v4 < 40 then (zchk (S.1 + 100 ≤ 6000) ( zbx (F_X10_takeWord v4 M S) (fun e M S => none) fun u95 M92 S93 => ( zchk (S93.1 + 100 ≤ 6000) ( zb2 (F_X10_insertions M92 S93) fun r101 M102 => ( F_L_areFollowing_L42 v1 v2 v3 v4 r101 0 M102 S93))))) else (some (.inr (M, S)))) else (some (.inr (M, S)))
def F_L_areFollowing_L14 (v1 : Int) (v2 : Int) (v3 : Nat) (v4 : Int) (M : zM) (S : zS) : Option (Int × zM × zS) :=
  zb1 (zloop (fun (s : Int × zM × zS) => F_L_areFollowing_B14 v1 v2 v3 s.1 s.2.1 s.2.2) zN (v4, M, S)) (fun (e : zM × zS) => F_L_areFollowing_J123 v1 v2 v3 e.1 e.2)
def F_L_areFollowing (v1 : Int) (M : zM) (S : zS) : Option (Int × zM × zS) :=
  zchk (S.1 + 100 ≤ 6000) ( zbx (F_X10_count 1 M S) (fun e M S => none) fun r105 M106 S107 => ( zchk (S107.1 + 100 ≤ 6000) ( zlet (S107.1 + 1) fun q114 => ( zlet (up M106 q114 (fun _ => 0)) fun M115 => ( zlet (zn S107 (22, 25)) fun S116 => ( F_L_areFollowing_L14 v1 r105 q114 0 M115 S116))))))
def F_L_law_J184 (ln : Int) (scr : Int → Int) (M : zM) (S : zS) : Option (Int × zM × zS) :=
  zchk (S.1 + 100 ≤ 6000) ( some (1, M, S))
def F_L_law_J178 (ln : Int) (scr : Int → Int) (v2 : Int) (M : zM) (S : zS) : Option ((Int × zM × zS) ⊕ (zM × zS)) :=
  zlet (w (v2 + 1)) fun x2 => ( some (.inl (x2, M, S)))
def F_L_law_B67 (ln : Int) (scr : Int → Int) (v2 : Int) (M : zM) (S : zS) : Option ((Int × zM × zS) ⊕ (zM × zS)) :=
  if v2 < 2 then (zlet (w (10 + (100 * v2))) fun x4 => ( zchk (S.1 + 100 ≤ 6000) ( zb2 (F_L_build ln scr x4 M S) fun M6 S7 => ( zchk (S7.1 + 100 ≤ 6000) ( zb3 (F_L_size M6 S7) fun r11 M12 S13 => ( if r11 < 0 then (F_L_law_J178 ln scr v2 M12 S13) else (zchk (S13.1 + 100 ≤ 6000) ( zlet (S13.1 + 1) fun q17 => ( zlet (up M12 q17 (fun _ => 0)) fun M18 => ( zlet (zn S13 (20, 10)) fun S19 => ( zchk (S19.1 + 100 ≤ 6000) ( zlet (S19.1 + 1) fun q22 => ( zlet (up M18 q22 (fun _ => 0)) fun M23 => ( zlet (zn S19 (22, 5)) fun S24 => ( zchk (S24.1 + 100 ≤ 6000) ( zb3 (F_L_areWords r11 q17 q22 M23 S24) fun r27 M28 S29 => ( if r27 = 0 then (none) else (zchk (S29.1 + 100 ≤ 6000) ( zb3 (F_L_take r11 M28 S29) fun r33 M34 S35 => ( if r33 = 1 then (zchk (S35.1 + 100 ≤ 6000) ( zb3 (F_L_take (-1) M34 S35) fun r39 M40 S41 => ( if r39 = 1 then (zchk (S41.1 + 100 ≤ 6000) ( zb3 (F_L_areSizes r11 q17 M40 S41) fun r45 M46 S47 => ( if r45 = 0 then (none) else (zchk (S47.1 + 100 ≤ 6000) ( zb3 (F_L_areContexts x4 r11 q22 M46 S47) fun r51 M52 S53 => ( if r51 = 0 then (none) else (zchk (S53.1 + 100 ≤ 6000) ( zb3 (F_L_areFollowing r11 M52 S53) fun r57 M58 S59 => ( if r57 = 0 then (none) else (F_L_law_J178 ln scr v2 M58 S59)))))))))) else (none)))) else (none))))))))))))))))))))) else (some (.inr (M, S)))
def F_L_law_L67 (ln : Int) (scr : Int → Int) (v2 : Int) (M : zM) (S : zS) : Option (Int × zM × zS) :=
  zb1 (zloop (fun (s : Int × zM × zS) => F_L_law_B67 ln scr s.1 s.2.1 s.2.2) zN (v2, M, S)) (fun (e : zM × zS) => F_L_law_J184 ln scr e.1 e.2)
def F_L_law (ln : Int) (scr : Int → Int) (M : zM) (S : zS) : Option (Int × zM × zS) :=
  zchk (S.1 + 1 = 1) ( zlet (zn S (7, 12)) fun S63 => ( zb2 (F_X10_init 1 M S63) fun M64 S65 => ( zchk (S65.1 = 47) ( zlet (((89, S65.2) : zS)) fun S68 => ( zchkP (zFx S68) ( zchk (S68.1 + 100 ≤ 6000) ( zb3 (F_L_size M64 S68) fun r71 M72 S73 => ( if r71 = 0 then (zchk (S73.1 + 100 ≤ 6000) ( zbx (F_X10_count 2 M72 S73) (fun e M S => none) fun r77 M78 S79 => ( if r77 = 1 then (zchk (S79.1 + 100 ≤ 6000) ( zbx (F_X10_count 3 M78 S79) (fun e M S => none) fun r87 M88 S89 => ( if r87 = 6 then (zchk (S89.1 + 100 ≤ 6000) ( zbx (F_X10_minimalContexts M88 S89) (fun e M S => none) fun r97 M98 S99 => ( if r97 = 0 then (zchk (S99.1 + 100 ≤ 6000) ( zbx (F_X10_isGenerated M98 S99) (fun e M S => none) fun r107 M108 S109 => ( if r107 = 0 then (zchk (S109.1 + 100 ≤ 6000) ( zb3 (F_L_rank M108 S109) fun r117 M118 S119 => ( if r117 = (-1) then (zchk (S119.1 + 100 ≤ 6000) ( zbx (F_X10_isConfluent M118 S119) (fun e M S => none) fun r123 M124 S125 => ( if r123 = 0 then (none) else (F_L_law_L67 ln scr 0 M124 S125)))) else (none)))) else (none)))) else (none)))) else (none)))) else (none)))) else (none)))))))))
end
