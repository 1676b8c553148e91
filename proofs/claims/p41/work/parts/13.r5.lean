/-! PURE 93: languages by fewer contexts -/
/-- K has just the contexts C of G -/
def CS (K G : zGr) (C : Nat → Prop) : Prop := K.1 = G.1 ∧ K.2.1 = G.2.1 ∧ ∀ c : Int × Int × List Int, c ∈ K.2.2 ↔ ∃ d, C d ∧ G.2.2[d]? = some c
theorem ix (d r : Nat) : (100 * d + r % 100) / 100 = d ∧ rs (100 * d + r % 100) = rs r ∧ re (100 * d + r % 100) = re r := by
  unfold rs re
  have h : r % 100 < 100 := Nat.mod_lt _ (by decide)
  have h2 : r / 10 % 10 = r % 100 / 10 := by
    have := Nat.mod_mul_right_div_self r 10 10
    rw [show 10 * 10 = 100 from rfl] at this
    exact this.symm
  have h3 : r % 10 = r % 100 % 10 := by
    rw [Nat.mod_mod_of_dvd _ (by decide)]
  rw [h2, h3]
  generalize r % 100 = s at h
  refine ⟨by omega, ?_, ?_⟩
  · rw [show (100 * d + s) / 10 % 10 = s / 10 by omega]
  · rw [show (100 * d + s) % 10 = s % 10 by omega]
/-- an insertion in one grammar is one in another with the same context -/
theorem insP_to {K G : zGr} {x : Int} {r d : Nat} {c : Int × Int × List Int} (e1 : K.1 = G.1) (e2 : K.2.1 = G.2.1) (hp : insP K x r) (hk : K.2.2[r / 100]? = some c) (hd : G.2.2[d]? = some c) : insP G x (100 * d + r % 100) ∧ insV G x (100 * d + r % 100) = insV K x r := by
  obtain ⟨i1, i2, i3⟩ := ix d r
  obtain ⟨L, Q, pr, h1, h2, h3, h4, h5⟩ := hp
  rw [hk] at h1
  cases h1
  refine ⟨⟨L, Q, pr, by rw [i1]; exact hd, by rw [i2, i3]; exact h2, by rw [i3]; exact h3, by rw [← e1]; exact h4, by rw [i2, i3, ← e2]; exact h5⟩, ?_⟩
  unfold insV cxg
  rw [i1, i2, i3, hd, hk]
theorem CS_lc {K G : zGr} {ax : List Int} {C : Nat → Prop} (h : CS K G C) (y : Int) : lcA K ax y ↔ lc G ax C y := by
  obtain ⟨e1, e2, h⟩ := h
  constructor
  · intro hy
    refine hy (lc G ax C) (fun a ha hl => lc_ax ha (by rw [← e1]; exact hl)) (fun x r hx hp _ => ?_)
    obtain ⟨L, Q, pr, h1, -⟩ := id hp
    obtain ⟨d, d1, d2⟩ := (h _).mp (List.mem_of_getElem? h1)
    obtain ⟨p1, p2⟩ := insP_to e1 e2 hp h1 d2
    rw [← p2]
    exact lc_ins hx p1 (by rw [(ix d r).1]; exact d1)
  · intro hy
    refine hy (lcA K ax) (fun a ha hl => lc_ax ha (by rw [e1]; exact hl)) (fun x r hx hp hc => ?_)
    obtain ⟨L, Q, pr, h1, -⟩ := id hp
    have hm := (h _).mpr ⟨r / 100, hc, h1⟩
    obtain ⟨d, hd, he⟩ := List.getElem_of_mem hm
    have d2 := List.getElem?_eq_getElem hd
    rw [he] at d2
    obtain ⟨p1, p2⟩ := insP_to e1.symm e2.symm hp h1 d2
    rw [← p2]
    exact lc_ins hx p1 trivial
theorem cnt_eqv {D E : Int → Prop} : ∀ {n : Nat}, (∀ k : Nat, k < n → D k → E k) → cnt D n = cnt E n → ∀ k : Nat, k < n → E k → D k := by
  intro n
  induction n with
  | zero => intro _ _ k hk; exact absurd hk (Nat.not_lt_zero k)
  | succ n ih =>
    intro h e k hk hE
    have hle := cnt_le (D := D) (E := E) (n := n) (fun k hk => h k (by omega))
    by_cases d : D (n : Int)
    · rw [cnt_t d, cnt_t (h n (by omega) d)] at e
      by_cases q : k = n
      · rw [q]; exact d
      · exact ih (fun k hk => h k (by omega)) (by omega) k (by omega) hE
    · rw [cnt_f d] at e
      by_cases e9 : E (n : Int)
      · rw [cnt_t e9] at e; omega
      · rw [cnt_f e9] at e
        by_cases q : k = n
        · rw [q] at hE; exact absurd hE e9
        · exact ih (fun k hk => h k (by omega)) e k (by omega) hE
theorem CS_cnt {K G : zGr} {ax : List Int} {C : Nat → Prop} (h : CS K G C) : cnt (lcA K ax) 29524 ≤ cnt (lcA G ax) 29524 := cnt_le (fun k _ q => lc_mono ((CS_lc h k).mp q) (fun _ _ => trivial))
theorem CS_few {K G : zGr} {ax : List Int} {C : Nat → Prop} (h : CS K G C) (hf : fewA G ax) : fewA K ax := Nat.le_trans (CS_cnt h) hf
theorem CS_gen {K G : zGr} {ax : List Int} {C : Nat → Prop} (hG : grok G) (hax : axok ax) (h : CS K G C) : cnt (lcA K ax) 29524 = cnt (lcA G ax) 29524 ↔ gen G ax C := by
  constructor
  · intro e y hy
    have hw := (lc_wd hG hax hy).1
    have hw0 := hw.1
    have hw1 := hw.2
    have := cnt_eqv (D := lcA K ax) (E := lcA G ax) (fun k _ q => lc_mono ((CS_lc h k).mp q) (fun _ _ => trivial)) e y.toNat (by omega) (by rw [show ((y.toNat : Nat) : Int) = y by omega]; exact hy)
    rw [show ((y.toNat : Nat) : Int) = y by omega] at this
    exact (CS_lc h y).mp this
  · intro g
    refine Nat.le_antisymm (CS_cnt h) (cnt_le (fun k _ q => (CS_lc h k).mpr (g k q)))
theorem CS_er {G : zGr} {c : Nat} : CS (G.1, G.2.1, G.2.2.eraseIdx c) G (fun d => d ≠ c) := ⟨rfl, rfl, fun a => by
  show a ∈ G.2.2.eraseIdx c ↔ _
  rw [List.mem_eraseIdx_iff_getElem?]⟩
/-- an unused context is redundant -/
theorem usd_gen {G : zGr} {ax : List Int} {c : Nat} (h : ¬ usd G ax c) : gen G ax (fun d => d ≠ c) := by
  intro y hy
  have h2 : lcA G ax y ∧ lc G ax (fun d => d ≠ c) y := by
    refine hy (fun z => lcA G ax z ∧ lc G ax (fun d => d ≠ c) z) (fun a ha hl => ⟨lc_ax ha hl, lc_ax ha hl⟩) (fun x r hx hp _ => ⟨lc_ins hx.1 hp trivial, lc_ins hx.2 hp (fun e => h ⟨x, r, hx.1, hp, e⟩)⟩)
  exact h2.2
theorem usd_uK {G : zGr} {ax : List Int} (hG : grok G) (hax : axok ax) (c : Nat) : uK G (wl_ (lcA G ax)) c ↔ usd G ax c := by
  constructor
  · rintro ⟨x, hx, r, h1, h2⟩
    obtain ⟨i, hi, he⟩ := List.getElem_of_mem hx
    have hg := List.getElem?_eq_getElem hi
    rw [he] at hg
    exact ⟨x, r, (wl_idx hg).2.2, h1, h2⟩
  · rintro ⟨x, r, h1, h2, h3⟩
    exact ⟨x, List.mem_of_getElem? (wl_at (lc_wd hG hax h1).1 h1), r, h2, h3⟩
/-- all contexts but one -/
theorem bcf_but : ∀ n : Nat, n ≤ 5 → ∀ c : Nat, c < n → bcf (zand ((2 : Int) ^ n - 1) (zxor (zshl 1 (c : Int)) (-1))) < (n : Int) ∧ zand ((2 : Int) ^ n - 1) (zxor (zshl 1 (c : Int)) (-1)) < (2 : Int) ^ n := by decide +kernel
theorem red_min {G : zGr} {ax : List Int} {m : Int} {c : Nat} (hG : grok G) (hm : minP G ax m) (hc : c < G.2.2.length) (hr : gen G ax (fun d => d ≠ c)) : bcf m < (G.2.2.length : Int) := by
  have h5 := hG.2.2.1
  obtain ⟨b1, b2⟩ := bcf_but G.2.2.length h5 c hc
  obtain ⟨r1, r2, r3⟩ := red_v G.2.2.length h5 c hc
  have := hm.2.2 _ r1 b2 (fun y hy => lc_congr hG (fun d hd q => (r3 d hd).mpr q) (hr y hy))
  omega
theorem zshl_1 : ∀ n : Nat, n ≤ 5 → zshl 1 (n : Int) = (2 : Int) ^ n := by decide +kernel
theorem bit_z : ∀ m : Nat, m < 32 → ∀ c : Nat, c < 5 → (zand (zshr (m : Int) (c : Int)) 1 = 0 ↔ m.testBit c = false) := by decide +kernel
theorem two5 : ∀ n : Nat, n ≤ 5 → (2 : Int) ^ n ≤ 32 := by decide
