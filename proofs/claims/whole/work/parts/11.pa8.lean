/-! PURE 17: a turn of the reference's loops; derivations counted -/
theorem mturn {M : zM} {G : zGr} {x L R : Int} {c f : Nat} {pr : List Int} {β : Type} {A B : Option β} {k : Int → Option β} {P : β → Prop} (hG : grok G) (hM : gM M G) (hx : wd x) (hget : G.2.2[c]? = some (L, R, pr)) (hfit : fitd M pr x) (hf : f < 100) (h1 : (∀ r, 100 * c ≤ r → r < 100 * (c + 1) → ¬ insP G x r) → Ok A P) (h2 : ¬ insP G x (100 * c + f) → Ok B P) (h3 : insP G x (100 * c + f) → Ok (k (insV G x (100 * c + f))) P) : Ok (zb1 (F_X11_hasRoom c M) fun r3 => if r3 = 0 then A else zb1 (F_X11_isFactor f M) fun r6 => if r6 = 0 then B else zb1 (F_X11_isSelected (zdiv f 10) (zrem f 10) M) fun r9 => if r9 = 0 then B else zb1 (F_X11_inserted c (zdiv f 10) (zrem f 10) M) k) P := by
  have hb := ln_b x
  have hc := (List.getElem?_eq_some_iff.mp hget).1
  have hG3 := hG.2.2.1
  have hG1 := hG.1
  obtain ⟨w1, w2, w3, w4⟩ := cxok_wd (hG.2.2.2 _ (List.mem_of_getElem? hget))
  obtain ⟨g1, g2, g3, g4⟩ := id hM
  obtain ⟨g5, g6, g7⟩ := g4 c L R pr hget
  have hin := mins (x := x) hget hf
  refine Ok.b1 (FX11_hasRoom ⟨by omega, by omega⟩ w1 w2 g5 g6 g3 hfit.2.1 hb) (fun r hr => ?_)
  refine Ok.ite (fun q1 => h1 (fun r2 e1 e2 hp => ?_)) (fun q1 => ?_)
  · have e : r2 = 100 * c + (r2 - 100 * c) := by omega
    rw [e] at hp
    exact tv_0 hr q1 ((mins (x := x) hget (show r2 - 100 * c < 100 by omega)).mp hp).2.2.1
  have hroom := tv_1 hr q1
  refine Ok.b1 (FX11_isFactor (by omega) (by omega) hfit.2.1) (fun r1 hr1 => ?_)
  refine Ok.ite (fun q2 => h2 (fun h => tv_0 hr1 q2 ⟨(hin.mp h).1, (hin.mp h).2.1⟩)) (fun q2 => ?_)
  have hfac := tv_1 hr1 q2
  rw [zdiv_e (by omega) (by omega) (by decide) (by decide), zrem_e (by omega) (by omega) (by decide) (by decide)]
  refine Ok.b1 (FX11_isSelected hfit (by rw [g2]; exact hG.2.1) (by omega) hfac.1 hfac.2) (fun r2 hr2 => ?_)
  rw [g2] at hr2
  refine Ok.ite (fun q3 => h2 (fun h => tv_0 hr2 q3 (hin.mp h).2.2.2)) (fun q3 => ?_)
  have hp : insP G x (100 * c + f) := hin.mpr ⟨hfac.1, hfac.2, hroom, tv_1 hr2 q3⟩
  rw [FX11_inserted ⟨by omega, by omega⟩ hx w1 w2 g5 g6 hfit.1 hfit.2.1 (by omega) (by omega) hfac.1 hfac.2]
  have h4 := h3 hp
  rw [minv (x := x) hget hf] at h4
  exact h4
theorem FX11_isAxiom {M : zM} {ax : List Int} {y : Int} (hA : axM M ax) (h6 : ax.length ≤ 6) : Ok (F_X11_isAxiom y M) (fun r => tv r (y ∈ ax)) := by
  obtain ⟨hA1, hA2⟩ := hA
  unfold F_X11_isAxiom F_X11_isAxiom_L2
  refine Ok.loop (fun z => ∃ i : Nat, z = i ∧ i ≤ ax.length ∧ y ∉ ax.take i) (fun z => (30 - z).toNat) (fun e => match e with | .inl _ => y ∈ ax | .inr _ => y ∉ ax) ⟨0, rfl, by omega, by simp⟩ (by decide) ?_ ?_
  · rintro _ ⟨i, rfl, i2, i3⟩
    unfold F_X11_isAxiom_B2
    rw [hA1]
    refine Ok.ite (fun q => ?_) (fun q => Ok.ret ?_)
    · have hi : i < ax.length := by omega
      have hg := List.getElem?_eq_getElem hi
      have htk : ax.take (i + 1) = ax.take i ++ [ax[i]] := List.take_succ_eq_append_getElem hi
      rw [hA2 i _ hg]
      refine Ok.chk ⟨by omega, by omega⟩ (Ok.ite (fun q1 => Ok.ret ?_) (fun q1 => Ok.lett (Ok.ret ?_)))
      · show y ∈ ax
        rw [← q1]; exact List.getElem_mem hi
      · rw [w_id (a := (i : Int) + 1) (by omega)]
        refine ⟨⟨i + 1, by omega, by omega, fun h => ?_⟩, by show (30 - ((i : Int) + 1)).toNat < (30 - (i : Int)).toNat; omega⟩
        rw [htk, List.mem_append, List.mem_singleton] at h
        rcases h with h | h
        · exact i3 h
        · exact q1 h.symm
    · show y ∉ ax
      rw [show i = ax.length by omega, List.take_length] at i3
      exact i3
  · rintro (e | e) he
    · exact Ok.ret (tv_t he)
    · exact Ok.ret (tv_f he)
/-- how many insertions of a list lead from x to y -/
def cm (G : zGr) (x y : Int) (l : List Nat) : Int := (l.countP (fun r => decide (insV G x r = y)) : Nat)
theorem cm_nil (G : zGr) (x y : Int) : cm G x y [] = 0 := rfl
theorem cm_app {G : zGr} {x y : Int} {l : List Nat} {r : Nat} : cm G x y (l ++ [r]) = cm G x y l + (if insV G x r = y then 1 else 0) := by
  unfold cm
  rw [List.countP_append, List.countP_singleton]
  by_cases h : insV G x r = y
  · rw [if_pos h, decide_eq_true h]; simp
  · rw [if_neg h, decide_eq_false h]; simp
theorem cm_0 {G : zGr} {x y : Int} {l : List Nat} (h : ∀ r ∈ l, insV G x r ≠ y) : cm G x y l = 0 := by
  unfold cm
  rw [List.countP_eq_zero.mpr (fun r hr => by rw [decide_eq_false (h r hr)]; decide)]
  rfl
theorem wl_zl {a b : Int} (h : zl a = zl b) : wl a = wl b := by unfold wl; rw [h]
theorem zladd_e (a b : Int) : zladd a b = wl (a + b) := by
  unfold zladd wl
  rw [show zl a + zl b = zl (a + b) from (Int64.ofInt_add a b).symm]
theorem wl_add (a b : Int) : wl (wl a + b) = wl (a + b) := wl_zl (by rw [show zl (wl a + b) = zl (wl a) + zl b from Int64.ofInt_add _ _, zl_wl, show zl a + zl b = zl (a + b) from (Int64.ofInt_add _ _).symm])
/-- ways, word by word -/
noncomputable def wyL (G : zGr) : List Int → (Int → Int) → (Int → Int)
  | [], f => f
  | x :: t, f => wyL G t (fun y => wl (f y + cm G x y (insL G x) * f x))
theorem wyL_app (G : zGr) : ∀ (a b : List Int) (f : Int → Int), wyL G (a ++ b) f = wyL G b (wyL G a f)
  | [], _, _ => rfl
  | x :: t, b, f => wyL_app G t b _
theorem wyL_inL {G : zGr} : ∀ {a : List Int} {f : Int → Int}, (∀ y, inL (f y)) → ∀ y, inL (wyL G a f y)
  | [], _, h, y => h y
  | x :: t, f, h, y => wyL_inL (a := t) (fun _ => inL_wl _) y
theorem wyL_skip {G : zGr} (hG : grok G) {y : Int} : ∀ {a : List Int} {f : Int → Int}, (∀ y, inL (f y)) → (∀ x ∈ a, wd x ∧ y ≤ x) → wyL G a f y = f y
  | [], _, _, _ => rfl
  | x :: t, f, hf, h => by
    have hx := h x List.mem_cons_self
    show wyL G t (fun y => wl (f y + cm G x y (insL G x) * f x)) y = f y
    rw [wyL_skip hG (a := t) (fun _ => inL_wl _) (fun z hz => h z (List.mem_cons_of_mem _ hz)), cm_0 (fun r hr => by
      have := (insV_r hG hx.1 ((mem_insL hG hx.1).mp hr)).2.2.2.2
      omega), Int.zero_mul, Int.add_zero]
    exact wl_id (hf y)
def ini (ax : List Int) (y : Int) : Int := if y ∈ ax then 1 else 0
theorem ini_inL (ax : List Int) (y : Int) : inL (ini ax y) := by unfold ini; split <;> decide
/-- the number of derivations of a word -/
noncomputable def wys (G : zGr) (ax : List Int) (y : Int) : Int := wyL G (wl_ (lcA G ax)) (ini ax) y
theorem wl_take {D : Int → Prop} {y : Int} {i : Nat} (hi : (wl_ D)[i]? = some y) : ∀ x ∈ (wl_ D).take i, x < y := fun x hx => by
  obtain ⟨j, hj⟩ := List.mem_iff_getElem?.mp hx
  rw [List.getElem?_take] at hj
  split at hj
  · rename_i hlt
    obtain ⟨l1, e1⟩ := List.getElem?_eq_some_iff.mp hj
    obtain ⟨l2, e2⟩ := List.getElem?_eq_some_iff.mp hi
    have := List.pairwise_iff_getElem.mp (pw_wl D) j i l1 l2 hlt
    omega
  · cases hj
theorem wl_drop {D : Int → Prop} {y : Int} {i : Nat} (hi : (wl_ D)[i]? = some y) : ∀ x ∈ (wl_ D).drop i, y ≤ x := fun x hx => by
  obtain ⟨j, hj⟩ := List.mem_iff_getElem?.mp hx
  rw [List.getElem?_drop] at hj
  obtain ⟨l1, e1⟩ := List.getElem?_eq_some_iff.mp hj
  obtain ⟨l2, e2⟩ := List.getElem?_eq_some_iff.mp hi
  rcases Nat.eq_zero_or_pos j with h | h
  · subst h; simp only [Nat.add_zero] at e1; omega
  · have := List.pairwise_iff_getElem.mp (pw_wl D) i (i + j) l2 l1 (by omega)
    omega
/-- before the word itself all is counted -/
theorem wys_take {G : zGr} {ax : List Int} {y : Int} {i : Nat} (hG : grok G) (hi : (wl_ (lcA G ax))[i]? = some y) : wys G ax y = wyL G ((wl_ (lcA G ax)).take i) (ini ax) y := by
  unfold wys
  have e := wyL_app G ((wl_ (lcA G ax)).take i) ((wl_ (lcA G ax)).drop i) (ini ax)
  rw [List.take_append_drop] at e
  rw [e]
  exact wyL_skip hG (wyL_inL (ini_inL ax)) (fun x hx => ⟨(mem_wl.mp (List.mem_of_mem_drop hx)).1, wl_drop hi x hx⟩)
/-! the class's edges -/
noncomputable def ep (G : zGr) (D : Int → Prop) (i : Nat) : Nat := (((wl_ D).take i).flatMap (eln G D)).length
theorem ep_s {G : zGr} {D : Int → Prop} {i : Nat} {x : Int} (hi : (wl_ D)[i]? = some x) : ep G D (i + 1) = ep G D i + (insL G x).length := by
  obtain ⟨l1, e1⟩ := List.getElem?_eq_some_iff.mp hi
  unfold ep
  rw [List.take_succ_eq_append_getElem l1, List.flatMap_append, List.length_append, List.flatMap_cons, List.flatMap_nil, List.append_nil, e1]
  unfold eln
  rw [List.length_map]
theorem fm_at {f : Int → List Int} {l : List Int} {i j : Nat} {x v : Int} (hi : l[i]? = some x) (hj : (f x)[j]? = some v) : (l.flatMap f)[((l.take i).flatMap f).length + j]? = some v := by
  obtain ⟨l1, e1⟩ := List.getElem?_eq_some_iff.mp hi
  have hs : l.flatMap f = (l.take i).flatMap f ++ (f x ++ (l.drop (i + 1)).flatMap f) := by
    rw [← List.flatMap_cons, ← List.flatMap_append, ← e1, ← List.drop_eq_getElem_cons l1, List.take_append_drop]
  have hjl := (List.getElem?_eq_some_iff.mp hj).1
  rw [hs, List.getElem?_append_right (by omega), Nat.add_sub_cancel_left, List.getElem?_append_left hjl]
  exact hj
theorem ep_at {M : zM} {G : zGr} {ax : List Int} {i j r : Nat} {x : Int} (h : rowl (M 14) ((wl_ (lcA G ax)).flatMap (eln G (lcA G ax)))) (hi : (wl_ (lcA G ax))[i]? = some x) (hj : (insL G x)[j]? = some r) : M 14 ((ep G (lcA G ax) i + j : Nat) : Int) = mvc (pos (lcA G ax) (insV G x r)) r := by
  refine h _ _ (fm_at hi (j := j) ?_)
  unfold eln
  rw [List.getElem?_map, hj]
  rfl
theorem ep_b {G : zGr} {D : Int → Prop} {i : Nat} (hG : grok G) (hi : i ≤ (wl_ D).length) (h3 : (wl_ D).length ≤ 300) : ep G D i ≤ 67500 := by
  have := fm_len (f := eln G D) (n := 225) (l := (wl_ D).take i) (fun y _ => by unfold eln; rw [List.length_map]; exact len_insL hG)
  rw [List.length_take, Nat.min_eq_left hi] at this
  unfold ep
  omega
