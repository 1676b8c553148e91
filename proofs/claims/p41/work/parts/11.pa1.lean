/-! PURE 10: the reference's languages -/
noncomputable def cnt (D : Int → Prop) (n : Nat) : Nat := (frl (fun k : Nat => D k) n).length
theorem cnt_t {D : Int → Prop} {n : Nat} (h : D n) : cnt D (n + 1) = cnt D n + 1 := by
  unfold cnt; rw [frl_t h, List.length_append]; rfl
theorem cnt_f {D : Int → Prop} {n : Nat} (h : ¬ D n) : cnt D (n + 1) = cnt D n := by
  unfold cnt; rw [frl_f h]
theorem cnt_0 (D : Int → Prop) : cnt D 0 = 0 := rfl
theorem cnt_le {D E : Int → Prop} : ∀ {n : Nat}, (∀ k : Nat, k < n → D k → E k) → cnt D n ≤ cnt E n
  | 0, _ => Nat.le_refl _
  | n + 1, h => by
    have ih := cnt_le (D := D) (E := E) (n := n) (fun k hk => h k (by omega))
    by_cases hd : D n
    · rw [cnt_t hd, cnt_t (h n (by omega) hd)]; omega
    · rw [cnt_f hd]
      by_cases he : E n
      · rw [cnt_t he]; omega
      · rw [cnt_f he]; exact ih
theorem cnt_congr {D E : Int → Prop} {n : Nat} (h : ∀ k : Nat, k < n → (D k ↔ E k)) : cnt D n = cnt E n := Nat.le_antisymm (cnt_le (fun k hk => (h k hk).mp)) (cnt_le (fun k hk => (h k hk).mpr))
theorem cnt_mono {D : Int → Prop} {n m : Nat} (h : n ≤ m) : cnt D n ≤ cnt D m := frl_mono h
theorem cnt_add {D : Int → Prop} {y : Int} (hy : ¬ D y) (h0 : 0 ≤ y) : ∀ {n : Nat}, y < n → cnt (fun z => D z ∨ z = y) n = cnt D n + 1
  | 0, h => by omega
  | n + 1, h => by
    by_cases e : y = n
    · subst e
      rw [cnt_t (D := fun z => D z ∨ z = (n : Int)) (Or.inr rfl), cnt_f hy, cnt_congr (E := D) (fun k hk => ⟨fun q => by rcases q with q | q; exact q; omega, Or.inl⟩)]
    · have ih := cnt_add hy h0 (n := n) (by omega)
      by_cases hd : D n
      · rw [cnt_t (D := fun z => D z ∨ z = y) (Or.inl hd), cnt_t hd, ih]
      · rw [cnt_f (D := fun z => D z ∨ z = y) (fun q => by rcases q with q | q; exact hd q; omega), cnt_f hd, ih]
/-- from M to M1 the cells of A and the fields of F have changed, and the reference's notes on factors -/
def mfr (A : Nat → Prop) (F : Int → Prop) (M M1 : zM) : Prop := (∀ b, ¬ A b → b ≠ 48 → b ≠ 56 → b ≠ 57 → M1 b = M b) ∧ ∀ k, ¬ F k → k ≠ 20 → k ≠ 21 → M1 48 k = M 48 k
theorem mfr.refl {A : Nat → Prop} {F : Int → Prop} {M : zM} : mfr A F M M := ⟨fun _ _ _ _ _ => rfl, fun _ _ _ _ => rfl⟩
theorem mfr.trans {A : Nat → Prop} {F : Int → Prop} {M M1 M2 : zM} (h : mfr A F M M1) (i : mfr A F M1 M2) : mfr A F M M2 := ⟨fun b h1 h2 h3 h4 => (i.1 b h1 h2 h3 h4).trans (h.1 b h1 h2 h3 h4), fun k h1 h2 h3 => (i.2 k h1 h2 h3).trans (h.2 k h1 h2 h3)⟩
theorem mfr.mono {A B : Nat → Prop} {F E : Int → Prop} {M M1 : zM} (h : mfr A F M M1) (i : ∀ b, A b → B b) (j : ∀ k, F k → E k) : mfr B E M M1 := ⟨fun b h1 => h.1 b (fun q => h1 (i b q)), fun k h1 => h.2 k (fun q => h1 (j k q))⟩
theorem mfr.cell {A : Nat → Prop} {F : Int → Prop} {M : zM} {a : Nat} {k v : Int} (h : A a) (h48 : a ≠ 48) : mfr A F M (zs M a k v) := ⟨fun b hb _ _ _ => zs_ne M k v (fun q => hb (q ▸ h)), fun j _ _ _ => by rw [zs_ne M k v (Ne.symm h48)]⟩
theorem mfr.fld {A : Nat → Prop} {F : Int → Prop} {M : zM} {k v : Int} (h : F k) : mfr A F M (zs M 48 k v) := ⟨fun b _ h48 _ _ => zs_ne M k v h48, fun j hj _ _ => zs_off M v (Or.inr (fun q => hj (q ▸ h)))⟩
theorem gM.fr {A : Nat → Prop} {F : Int → Prop} {M M1 : zM} {G : zGr} (h : gM M G) (hf : mfr A F M M1) (hA : ¬ A 50 ∧ ¬ A 51 ∧ ¬ A 52 ∧ ¬ A 53) (hF : ¬ F 7 ∧ ¬ F 8 ∧ ¬ F 9) : gM M1 G := by
  obtain ⟨h1, h2, h3, h4⟩ := h
  refine ⟨by rw [hf.2 7 hF.1 (by decide) (by decide)]; exact h1, by rw [hf.2 8 hF.2.1 (by decide) (by decide)]; exact h2, by rw [hf.2 9 hF.2.2 (by decide) (by decide)]; exact h3, fun i L R pr hi => ?_⟩
  have e50 := hf.1 50 hA.1 (by decide) (by decide) (by decide)
  have e51 := hf.1 51 hA.2.1 (by decide) (by decide) (by decide)
  have e52 := hf.1 52 hA.2.2.1 (by decide) (by decide) (by decide)
  have e53 := hf.1 53 hA.2.2.2 (by decide) (by decide) (by decide)
  obtain ⟨q1, q2, q3⟩ := h4 i L R pr hi
  exact ⟨by rw [e50]; exact q1, by rw [e51]; exact q2, q3.fr e52 e53⟩
theorem fitd.fr {M M1 : zM} {pr : List Int} {x : Int} (h : fitd M pr x) (h20 : M1 48 20 = M 48 20) (h21 : M1 48 21 = M 48 21) (h57 : M1 57 = M 57) : fitd M1 pr x := by
  unfold fitd
  rw [h20, h21, h57]
  exact h
/-- marks and their number -/
def mrk (M : zM) (D : Int → Prop) : Prop := (∀ y, wd y → tv (M 58 y) (D y)) ∧ M 48 23 = (cnt D 29524 : Int)
theorem mrk.congr {M : zM} {D E : Int → Prop} (h : mrk M D) (i : ∀ y, wd y → (D y ↔ E y)) : mrk M E := ⟨fun y hy => tv_iff (h.1 y hy) (i y hy), by rw [h.2, cnt_congr (fun k hk => i k ⟨by omega, by omega⟩)]⟩
/-! a turn of the reference's loops over factors -/
theorem cxok_wd {L R : Int} {pr : List Int} (h : cxok (L, R, pr)) : wd L ∧ wd R ∧ (1 ≤ ln L ∧ ln L ≤ 3) ∧ (0 ≤ ln R ∧ ln R ≤ 3) := by
  obtain ⟨h1, h2, _⟩ := h
  dsimp only at h1 h2
  exact ⟨⟨by omega, by omega⟩, ⟨by omega, by omega⟩, ln_cx h1, ln_cx0 h2⟩
theorem insV_r {G : zGr} (hG : grok G) {x : Int} (hx : wd x) {r : Nat} (h : insP G x r) : wd (insV G x r) ∧ ln x < ln (insV G x r) ∧ ln (insV G x r) ≤ G.1 ∧ r < 100 * G.2.2.length ∧ x < insV G x r := by
  obtain ⟨L, R, pr, h1, h2, h3, h4, h5⟩ := h
  obtain ⟨w1, w2, w3, w4⟩ := cxok_wd (hG.2.2.2 _ (List.mem_of_getElem? h1))
  have hlt := (List.getElem?_eq_some_iff.mp h1).1
  have hG1 := hG.1
  have hr : 0 ≤ rs r := by unfold rs; omega
  obtain ⟨k1, k2⟩ := insw_r (x := x) hx w1 w2 (by omega) hr h2 h3
  unfold insV
  rw [cxg_e h1]
  dsimp only
  exact ⟨k2, by omega, by omega, by omega, ln_mono hx k2 (by omega)⟩
/-! languages -/
def lc (G : zGr) (ax : List Int) (C : Nat → Prop) (y : Int) : Prop := ∀ P : Int → Prop, (∀ a ∈ ax, ln a ≤ G.1 → P a) → (∀ x r, P x → insP G x r → C (r / 100) → P (insV G x r)) → P y
theorem lc_ax {G : zGr} {ax : List Int} {C : Nat → Prop} {a : Int} (h : a ∈ ax) (hl : ln a ≤ G.1) : lc G ax C a := fun P h1 _ => h1 a h hl
theorem lc_ins {G : zGr} {ax : List Int} {C : Nat → Prop} {x : Int} {r : Nat} (h : lc G ax C x) (hp : insP G x r) (hC : C (r / 100)) : lc G ax C (insV G x r) := fun P h1 h2 => h2 x r (h P h1 h2) hp hC
theorem lc_mono {G : zGr} {ax : List Int} {C E : Nat → Prop} {y : Int} (h : lc G ax C y) (i : ∀ c, C c → E c) : lc G ax E y := h _ (fun a ha hl => lc_ax ha hl) (fun x r hx hp hc => lc_ins hx hp (i _ hc))
def axok (ax : List Int) : Prop := ax.length ≤ 6 ∧ ∀ a ∈ ax, 1 ≤ a ∧ a < 9841
theorem axok_wd {ax : List Int} (h : axok ax) {a : Int} (ha : a ∈ ax) : wd a := ⟨by have := h.2 a ha; omega, by have := h.2 a ha; omega⟩
theorem lc_wd {G : zGr} {ax : List Int} {C : Nat → Prop} {y : Int} (hG : grok G) (hax : axok ax) (h : lc G ax C y) : wd y ∧ ln y ≤ G.1 := by
  refine h (fun y => wd y ∧ ln y ≤ G.1) (fun a ha hl => ⟨axok_wd hax ha, hl⟩) (fun x r hx hp _ => ?_)
  have := insV_r hG hx.1 hp
  exact ⟨this.1, this.2.2.1⟩
def axM (M : zM) (ax : List Int) : Prop := M 48 2 = (ax.length : Int) ∧ ∀ (i : Nat) (a : Int), ax[i]? = some a → M 49 i = a
