/-! PURE 74: define: what is read is one thing -/
/-- the text is empty, the fault's position f -/
def rstD (R : zRst) (f : Int) : zRst := (R.1, [], f, R.2.2.2)
/-- what define does: code, value, state -/
def effD (a : zAbs) (o : zOut) : Int × Int × zAbs :=
  if o.1 = -1 then (1, 0, (a.1, a.2.1, a.2.2.1, rstD a.2.2.2 (o.2.1 : Int)))
  else if o.1 = 0 then (if a.2.1.length < 6 ∧ o.2.2.1 ∉ a.2.1 then (0, (a.2.1.length : Int), (a.1, a.2.1 ++ [o.2.2.1], a.2.2.1, rstD a.2.2.2 (-1))) else (2, 0, (a.1, a.2.1, a.2.2.1, rstD a.2.2.2 (-1))))
  else if o.1 = 1 then (if a.1.2.2.length < 5 then (0, (a.1.2.2.length : Int), ((a.1.1, a.1.2.1, a.1.2.2 ++ [o.2.2]), a.2.1, a.2.2.1, rstD a.2.2.2 (-1))) else (2, 0, (a.1, a.2.1, a.2.2.1, rstD a.2.2.2 (-1))))
  else if o.1 = 2 then (0, a.1.2.1, ((a.1.1, o.2.2.1, a.1.2.2), a.2.1, a.2.2.1, rstD a.2.2.2 (-1)))
  else (0, a.1.1, ((o.2.2.1, a.1.2.1, a.1.2.2), a.2.1, a.2.2.1, rstD a.2.2.2 (-1)))
section
variable {G : zGr} {ax : List Int} {cur : Int} {R : zRst} {T : List Int} {o : zOut} {M0 M1 : zM}
end
