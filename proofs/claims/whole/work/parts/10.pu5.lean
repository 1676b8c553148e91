/-! PURE 5: the reference's selectors -/
def b2 (b : Bool) : Int := if b then 1 else 0
theorem b2_01 (b : Bool) : 0 ≤ b2 b ∧ b2 b ≤ 1 := by cases b <;> decide
theorem b2_0 {b : Bool} : b2 b = 0 ↔ b = false := by cases b <;> decide
theorem b2_tv {b : Bool} : tv (b2 b) (b = true) := by cases b with
  | true => exact tv_t rfl
  | false => exact tv_f (by decide)
theorem tv_b2 {r : Int} {b : Bool} (h : tv r (b = true)) : r = b2 b := by
  rcases h with ⟨h1, h2⟩ | ⟨h1, h2⟩
  · rw [h1, h2]; rfl
  · cases b with
    | true => exact absurd rfl h2
    | false => exact h1
/-- the reference's stack -/
def hp (f : Int → Int) : List Bool → Prop
  | [] => True
  | b :: t => f t.length = b2 b ∧ hp f t
theorem hp_up {f : Int → Int} {k v : Int} : ∀ {l : List Bool}, (l.length : Int) ≤ k → hp f l → hp (up f k v) l
  | [], _, _ => trivial
  | b :: t, h, hq => by
    have hl : ((b :: t).length : Int) = (t.length : Int) + 1 := by simp
    exact ⟨by rw [up_ne _ _ (by omega)]; exact hq.1, hp_up (by omega) hq.2⟩
theorem hp_put {f : Int → Int} {k v : Int} {b : Bool} {l : List Bool} (hk : k = (l.length : Int)) (hv : v = b2 b) (h : hp f l) : hp (up f k v) (b :: l) := by
  subst hk
  exact ⟨by rw [up_eq]; exact hv, hp_up (by omega) h⟩
def prgM (M : zM) (c : Int) (pr : List Int) : Prop := M 53 c = (pr.length : Int) ∧ ∀ (i : Nat) (a : Int), pr[i]? = some a → M 52 (60 * c + i) = a
/-- M1 is M but in the cells of A -/
def fr (A : Nat → Prop) (M M1 : zM) : Prop := ∀ b, ¬ A b → M1 b = M b
theorem fr.refl {A : Nat → Prop} {M : zM} : fr A M M := fun _ _ => rfl
theorem fr.trans {A : Nat → Prop} {M M1 M2 : zM} (h : fr A M M1) (i : fr A M1 M2) : fr A M M2 := fun b hb => (i b hb).trans (h b hb)
theorem fr.mono {A B : Nat → Prop} {M M1 : zM} (h : fr A M M1) (i : ∀ b, A b → B b) : fr B M M1 := fun b hb => h b (fun q => hb (i b q))
theorem fr.zs {A : Nat → Prop} {M : zM} {a : Nat} {k v : Int} (h : A a) : fr A M (zs M a k v) := fun b hb => zs_ne M k v (fun q => hb (q ▸ h))
theorem FX11_fulfils {M : zM} {c x : Int} {pr : List Int} (hc : 0 ≤ c ∧ c < 5) (hx : wd x) (hp0 : prgM M c pr) (hw : pwf pr) : Ok (F_X11_fulfils c x M) (fun r => r.1 = b2 (ful pr x) ∧ fr (fun b => b = 56) M r.2) := by
  obtain ⟨hlen, hst⟩ := hp0
  obtain ⟨hdp, hl60, hval⟩ := hw
  unfold F_X11_fulfils
  rw [FX11_lengthOf hx]
  simp only [zb1_some, zlet_eq]
  rw [w_id (a := 60 * c) (by omega)]
  unfold F_X11_fulfils_L14
  refine Ok.loop (fun s => ∃ (l : List Bool) (i : Int), s.2.1 = 60 * c + i ∧ 0 ≤ i ∧ i ≤ (pr.length : Int) ∧ s.1 = (l.length : Int) ∧ hp (s.2.2 56) l ∧ (l.length : Int) ≤ i ∧ evl x (pr.drop i.toNat) l = evl x pr [] ∧ dps (pr.drop i.toNat) l.length = some 1 ∧ fr (fun b => b = 56) M s.2.2) (fun s => (1000 - s.2.1).toNat) (fun e => e 56 0 = b2 (ful pr x) ∧ fr (fun b => b = 56) M e) ⟨[], 0, by show 60 * c = _; omega, Int.le_refl 0, by omega, rfl, trivial, Int.le_refl 0, rfl, hdp, fr.refl⟩ (by show (1000 - 60 * c).toNat < zN; rw [zN_v]; omega) ?_ ?_
  · rintro ⟨v4, v5, M1⟩ ⟨l, i, j0, i1, i2, j1, i3, i4, i5, i6, hfr⟩
    dsimp only at j0 i1 i2 j1 i3 i4 i5 i6 hfr ⊢
    subst j0
    subst j1
    have e53 : M1 53 = M 53 := hfr 53 (by decide)
    have e52 : M1 52 = M 52 := hfr 52 (by decide)
    unfold F_X11_fulfils_B14
    rw [e53, e52, hlen, w_id (a := 60 * c + (pr.length : Int)) (by omega)]
    refine Ok.chk hc (Ok.ite (fun cc => Ok.chk (by omega) (Ok.lett ?_)) (fun cc => Ok.ret ?_))
    · have hlt : i.toNat < pr.length := by omega
      have hget : pr[i.toNat]? = some pr[i.toNat] := List.getElem?_eq_getElem hlt
      have hr := hst i.toNat _ hget
      obtain ⟨z, hz⟩ := hval _ (List.getElem_mem hlt)
      rw [show ((i.toNat : Nat) : Int) = i by omega] at hr
      rw [hr]
      rw [List.drop_eq_getElem_cons hlt] at i5 i6
      have hn : (i + 1).toNat = i.toNat + 1 := by omega
      generalize pr[i.toNat] = a at hz i5 i6
      obtain ⟨m, hm1, hm2⟩ := dps_cons i6
      have hlen1 := ev1_len (x := x) hm1
      have h60 : l.length < 60 := by omega
      have hwv : w (60 * c + i + 1) = 60 * c + i + 1 := w_id (by omega)
      have go : ∀ (l2 : List Bool) (M2 : zM) (t : Int), l2 = ev1 x a l → t = (l2.length : Int) → hp (M2 56) l2 → fr (fun b => b = 56) M1 M2 → Ok (F_X11_fulfils_J216 c x (ln x) t (60 * c + i) M2) (Turn (fun s : Int × Int × zM => ∃ (l : List Bool) (i : Int), s.2.1 = 60 * c + i ∧ 0 ≤ i ∧ i ≤ (pr.length : Int) ∧ s.1 = (l.length : Int) ∧ hp (s.2.2 56) l ∧ (l.length : Int) ≤ i ∧ evl x (pr.drop i.toNat) l = evl x pr [] ∧ dps (pr.drop i.toNat) l.length = some 1 ∧ fr (fun b => b = 56) M s.2.2) (fun s => (1000 - s.2.1).toNat) (fun e => e 56 0 = b2 (ful pr x) ∧ fr (fun b => b = 56) M e) ((l.length : Int), 60 * c + i, M1)) := by
        intro l2 M2 t el et hh hf
        subst el
        unfold F_X11_fulfils_J216
        refine Ok.lett (Ok.ret ?_)
        rw [hwv]
        refine ⟨⟨ev1 x a l, i + 1, by show 60 * c + i + 1 = _; omega, by omega, by omega, et, hh, by rw [hlen1.1]; omega, ?_, ?_, hfr.trans hf⟩, by show (1000 - (60 * c + i + 1)).toNat < (1000 - (60 * c + i)).toNat; omega⟩
        · rw [hn]; exact i5
        · rw [hn, hlen1.1]; exact hm2
      -- a value on top of l
      have push : ∀ (b : Bool), ev1 x a l = b :: l → Ok (F_X11_fulfils_J212 c x (ln x) (l.length : Int) (60 * c + i) (l.length : Int) (b2 b) M1) (Turn (fun s : Int × Int × zM => ∃ (l : List Bool) (i : Int), s.2.1 = 60 * c + i ∧ 0 ≤ i ∧ i ≤ (pr.length : Int) ∧ s.1 = (l.length : Int) ∧ hp (s.2.2 56) l ∧ (l.length : Int) ≤ i ∧ evl x (pr.drop i.toNat) l = evl x pr [] ∧ dps (pr.drop i.toNat) l.length = some 1 ∧ fr (fun b => b = 56) M s.2.2) (fun s => (1000 - s.2.1).toNat) (fun e => e 56 0 = b2 (ful pr x) ∧ fr (fun b => b = 56) M e) ((l.length : Int), 60 * c + i, M1)) := by
        intro b hb
        unfold F_X11_fulfils_J212
        refine Ok.chk (by omega) (Ok.chk (b2_01 b) (Ok.lett (Ok.lett ?_)))
        rw [w_id (a := (l.length : Int) + 1) (by omega)]
        refine go (b :: l) _ _ hb.symm (by simp) ?_ (fr.zs rfl)
        rw [zs_eq]
        exact hp_put rfl rfl i3
      rcases hz with ⟨rfl, rfl⟩ | ⟨rfl, rfl⟩ | ⟨rfl, rfl⟩ | ⟨rfl, rfl⟩ | ⟨what, how, d, hcc, rfl, rfl⟩ | ⟨k, pat, hcc, rfl, rfl⟩
      · refine Ok.neg (by decide) (Ok.neg (by decide) (Ok.neg (by decide) (Ok.pos rfl ?_)))
        unfold F_X11_fulfils_J207
        exact push true (by rw [ev1_val (by decide) (by decide) (by decide), dcd_t (show aval 1 x from Or.inl rfl)])
      · refine Ok.pos rfl ?_
        match l, hm1, i3, h60, go with
        | [], hm1, _, _, _ => simp [dp1] at hm1
        | b :: t, _, i3, h60, go =>
          have e : w (((b :: t).length : Int) - 1) = (t.length : Int) := by simp only [List.length_cons] at h60 ⊢; rw [w_id (by omega)]; omega
          rw [e]
          refine Ok.chk (by simp only [List.length_cons] at h60; omega) ?_
          rw [i3.1]
          unfold F_X11_fulfils_J70
          refine Ok.ite (fun c0 => ?_) (fun c0 => ?_)
          · refine Ok.chk (by simp only [List.length_cons] at h60; omega) (Ok.chk (by decide) (Ok.lett ?_))
            refine go ((!b) :: t) _ _ rfl rfl ?_ (fr.zs rfl)
            rw [zs_eq]
            exact hp_put rfl (by rw [b2_0.mp c0]; rfl) i3.2
          · refine Ok.chk (by simp only [List.length_cons] at h60; omega) (Ok.chk (by decide) (Ok.lett ?_))
            refine go ((!b) :: t) _ _ rfl rfl ?_ (fr.zs rfl)
            rw [zs_eq]
            exact hp_put rfl (by cases b with | true => rfl | false => exact absurd rfl c0) i3.2
      · refine Ok.neg (by decide) (Ok.pos rfl ?_)
        match l, hm1, i3, h60, go with
        | [], hm1, _, _, _ => simp [dp1] at hm1
        | [b], hm1, _, _, _ => simp [dp1] at hm1
        | b :: d :: t, _, i3, h60, go =>
          have e1 : w (((b :: d :: t).length : Int) + (-1)) = (t.length : Int) + 1 := by simp only [List.length_cons] at h60 ⊢; rw [w_id (by omega)]; omega
          have e2 : w ((t.length : Int) + 1 - 1) = (t.length : Int) := by simp only [List.length_cons] at h60; rw [w_id (by omega)]; omega
          have g1 : M1 56 ((t.length : Int) + 1) = b2 b := i3.1
          have g2 : M1 56 (t.length : Int) = b2 d := i3.2.1
          have fin : ∀ v : Int, v = b2 (d && b) → Ok (F_X11_fulfils_J160 c x (ln x) ((t.length : Int) + 1) (60 * c + i) (t.length : Int) v M1) _ := fun v hv => by
            unfold F_X11_fulfils_J160
            refine Ok.chk (by simp only [List.length_cons] at h60; omega) (Ok.chk (by rw [hv]; exact b2_01 _) (Ok.lett ?_))
            refine go ((d && b) :: t) _ _ rfl (by simp) ?_ (fr.zs rfl)
            rw [zs_eq]
            exact hp_put rfl hv i3.2.2
          unfold F_X11_fulfils_J86
          refine Ok.lett (Ok.pos rfl ?_)
          rw [e1, e2, g1, g2]
          refine Ok.chk (by simp only [List.length_cons] at h60; omega) ?_
          unfold F_X11_fulfils_J129
          refine Ok.ite (fun c0 => fin 0 (by rw [b2_0.mp c0]; rfl)) (fun c0 => Ok.chk (by simp only [List.length_cons] at h60; omega) (Ok.ite (fun c1 => fin 0 (by rw [b2_0.mp c1]; cases d <;> rfl)) (fun c1 => fin 1 ?_)))
          cases d with
          | false => exact absurd rfl c0
          | true => cases b with
            | false => exact absurd rfl c1
            | true => rfl
      · refine Ok.neg (by decide) (Ok.neg (by decide) (Ok.pos rfl ?_))
        match l, hm1, i3, h60, go with
        | [], hm1, _, _, _ => simp [dp1] at hm1
        | [b], hm1, _, _, _ => simp [dp1] at hm1
        | b :: d :: t, _, i3, h60, go =>
          have e1 : w (((b :: d :: t).length : Int) + (-1)) = (t.length : Int) + 1 := by simp only [List.length_cons] at h60 ⊢; rw [w_id (by omega)]; omega
          have e2 : w ((t.length : Int) + 1 - 1) = (t.length : Int) := by simp only [List.length_cons] at h60; rw [w_id (by omega)]; omega
          have g1 : M1 56 ((t.length : Int) + 1) = b2 b := i3.1
          have g2 : M1 56 (t.length : Int) = b2 d := i3.2.1
          have fin : ∀ v : Int, v = b2 (d || b) → Ok (F_X11_fulfils_J160 c x (ln x) ((t.length : Int) + 1) (60 * c + i) (t.length : Int) v M1) _ := fun v hv => by
            unfold F_X11_fulfils_J160
            refine Ok.chk (by simp only [List.length_cons] at h60; omega) (Ok.chk (by rw [hv]; exact b2_01 _) (Ok.lett ?_))
            refine go ((d || b) :: t) _ _ rfl (by simp) ?_ (fr.zs rfl)
            rw [zs_eq]
            exact hp_put rfl hv i3.2.2
          unfold F_X11_fulfils_J86
          refine Ok.lett (Ok.neg (by decide) ?_)
          rw [e1, e2, g1, g2]
          refine Ok.chk (by simp only [List.length_cons] at h60; omega) ?_
          unfold F_X11_fulfils_J155
          refine Ok.ite (fun c0 => Ok.chk (by simp only [List.length_cons] at h60; omega) (Ok.ite (fun c1 => fin 0 (by rw [b2_0.mp c0, b2_0.mp c1]; rfl)) (fun c1 => fin 1 ?_))) (fun c0 => fin 1 ?_)
          · cases b with
            | false => exact absurd rfl c1
            | true => cases d <;> rfl
          · cases d with
            | false => exact absurd rfl c0
            | true => rfl
      · have hc1 := hcc.1
        have hc2 := hcc.2.1
        have hc3 := hcc.2.2
        refine Ok.neg (by omega) (Ok.neg (by omega) (Ok.neg (by omega) (Ok.neg (by omega) (Ok.pos (by omega) ?_))))
        rw [FX11_compares hx rfl hc1 hc2 hc3]
        simp only [zb1_some]
        unfold F_X11_fulfils_J211 F_X11_fulfils_J207
        have hv := aval_c (x := x) hcc
        have he := ev1_val (x := x) (l := l) (show 1000 + 100 * what + 10 * how + d ≠ 2 by omega) (by omega) (by omega)
        refine Ok.ite (fun c0 => push false ?_) (fun c0 => push true ?_)
        · rw [he, dcd_f (fun q => by have := hv.mp q; omega)]
        · rw [he, dcd_t (hv.mpr (by have := cmpv_01 how (cmpn what x) d; omega))]
      · have hc1 := hcc.1
        have hc2 := hcc.2
        refine Ok.neg (by omega) (Ok.neg (by omega) (Ok.neg (by omega) (Ok.neg (by omega) (Ok.neg (by omega) (Ok.b1 (FX11_shows hx hc2 hc1 rfl) (fun r hr => ?_))))))
        unfold F_X11_fulfils_J211 F_X11_fulfils_J207
        have hv := aval_p (x := x) hcc
        have he := ev1_val (x := x) (l := l) (show 5000 + 100 * k + pat ≠ 2 by omega) (by omega) (by omega)
        refine Ok.ite (fun c0 => push false ?_) (fun c0 => push true ?_)
        · rw [he, dcd_f (fun q => tv_0 hr c0 (hv.mp q))]
        · rw [he, dcd_t (hv.mpr (tv_1 hr c0))]
    · have e : i.toNat = pr.length := by omega
      rw [e, List.drop_length] at i5 i6
      have i5 : l = evl x pr [] := i5
      have i6 : l.length = 1 := Option.some.inj i6
      refine ⟨?_, hfr⟩
      show M1 56 0 = b2 (ful pr x)
      unfold ful
      rw [← i5]
      match l, i6, i3 with
      | [b], _, i3 => exact i3.1
  · intro e he
    unfold F_X11_fulfils_J222
    exact Ok.ret he
