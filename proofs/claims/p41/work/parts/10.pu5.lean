/-! PURE 5: the reference's selectors -/
def b2 (b : Bool) : Int := if b then 1 else 0
/-- the reference's stack -/
def hp (f : Int → Int) : List Bool → Prop
  | [] => True
  | b :: t => f t.length = b2 b ∧ hp f t
def prgM (M : zM) (c : Int) (pr : List Int) : Prop := M 53 c = (pr.length : Int) ∧ ∀ (i : Nat) (a : Int), pr[i]? = some a → M 52 (60 * c + i) = a
/-- M1 is M but in the cells of A -/
def fr (A : Nat → Prop) (M M1 : zM) : Prop := ∀ b, ¬ A b → M1 b = M b
theorem fr.refl {A : Nat → Prop} {M : zM} : fr A M M := fun _ _ => rfl
theorem fr.trans {A : Nat → Prop} {M M1 M2 : zM} (h : fr A M M1) (i : fr A M1 M2) : fr A M M2 := fun b hb => (i b hb).trans (h b hb)
theorem fr.mono {A B : Nat → Prop} {M M1 : zM} (h : fr A M M1) (i : ∀ b, A b → B b) : fr B M M1 := fun b hb => h b (fun q => hb (i b q))
theorem fr.zs {A : Nat → Prop} {M : zM} {a : Nat} {k v : Int} (h : A a) : fr A M (zs M a k v) := fun b hb => zs_ne M k v (fun q => hb (q ▸ h))
