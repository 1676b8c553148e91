/-! PURE 36: at most 512 words are made by leaving letters out -/
def vb : List Int → Int
  | [] => 0
  | d :: t => d * p3 t.length + vb t
def dgt (l : List Int) : Prop := ∀ d ∈ l, 0 ≤ d ∧ d ≤ 2
theorem vb_app : ∀ (a b : List Int), vb (a ++ b) = vb a * p3 b.length + vb b
  | [], b => by show vb b = 0 * p3 b.length + vb b; omega
  | d :: t, b => by
    show d * p3 ((t ++ b).length : Nat) + vb (t ++ b) = (d * p3 t.length + vb t) * p3 b.length + vb b
    rw [vb_app t b, List.length_append, show (((t.length + b.length : Nat)) : Int) = (t.length : Int) + (b.length : Int) by omega, p3_add (by omega) (by omega), Int.add_mul, Int.mul_assoc]
    omega
theorem vb_r : ∀ (l : List Int), dgt l → 0 ≤ vb l ∧ vb l < p3 l.length
  | [], _ => by show (0 : Int) ≤ 0 ∧ (0 : Int) < p3 0; rw [p3_0]; omega
  | d :: t, h => by
    have ih := vb_r t (fun e he => h e (List.mem_cons_of_mem _ he))
    have hd := h d List.mem_cons_self
    have hp := p3_pos (t.length : Int)
    show 0 ≤ d * p3 t.length + vb t ∧ d * p3 t.length + vb t < p3 ((t.length + 1 : Nat) : Int)
    rw [show ((t.length + 1 : Nat) : Int) = (t.length : Int) + 1 by omega, p3_s (by omega)]
    have e1 : d * p3 t.length = 0 ∨ d * p3 t.length = p3 t.length ∨ d * p3 t.length = 2 * p3 t.length := by
      rcases (show d = 0 ∨ d = 1 ∨ d = 2 by omega) with e | e | e
      · rw [e]; omega
      · rw [e]; omega
      · rw [e]; omega
    omega
/-- the word with these letters -/
def wof (l : List Int) : Int := f3 l.length + vb l
theorem wof_r {l : List Int} (h : dgt l) (h9 : l.length ≤ 9) : ln (wof l) = l.length ∧ wd (wof l) := by
  have hr := vb_r l h
  have h2 := f3_s2 (n := (l.length : Int)) (by omega)
  exact ln_u (by omega) (by omega) (by unfold wof; omega) (by unfold wof; omega)
theorem jn_wof {a b : List Int} (hb : dgt b) (h9 : b.length ≤ 9) : jn (wof a) (wof b) = wof (a ++ b) := by
  have hl := (wof_r hb h9).1
  unfold jn
  rw [hl]
  unfold wof
  rw [vb_app, List.length_append, show ((a.length + b.length : Nat) : Int) = (a.length : Int) + (b.length : Int) by omega, f3_add (by omega) (by omega), Int.add_mul]
  omega
theorem fa_wof3 {a b c : List Int} (ha : dgt a) (hb : dgt b) (hc : dgt c) (h9 : a.length + b.length + c.length ≤ 9) : fa (wof (a ++ b ++ c)) a.length (a.length + b.length) = wof b := by
  have hd : dgt (a ++ b ++ c) := fun d hd => by
    rw [List.mem_append, List.mem_append] at hd
    rcases hd with (q | q) | q
    · exact ha d q
    · exact hb d q
    · exact hc d q
  have hl := (wof_r hd (by rw [List.length_append, List.length_append]; omega)).1
  have hrc := vb_r c hc
  have hrb := vb_r b hb
  unfold fa
  rw [hl]
  unfold wof
  rw [show f3 ((a ++ b ++ c).length : Nat) + vb (a ++ b ++ c) - f3 ((a ++ b ++ c).length : Nat) = vb (a ++ b ++ c) by omega, vb_app, vb_app, List.length_append, List.length_append]
  rw [show (((a.length + b.length + c.length : Nat)) : Int) - ((a.length : Int) + b.length) = (c.length : Int) by omega, show ((a.length : Int) + b.length) - a.length = (b.length : Int) by omega]
  rw [Int.add_comm ((vb a * p3 b.length + vb b) * p3 c.length) (vb c), Int.add_mul_ediv_right _ _ (Int.ne_of_gt (p3_pos (c.length : Int))), Int.ediv_eq_zero_of_lt hrc.1 hrc.2, Int.zero_add, Int.add_comm (vb a * p3 b.length) (vb b), Int.add_mul_emod_self_right, Int.emod_eq_of_lt hrb.1 hrb.2]
theorem dgt.sub {l m : List Int} (h : dgt l) (i : List.Sublist m l) : dgt m := fun d hd => h d (i.subset hd)
theorem fa_wof {l : List Int} (h : dgt l) (h9 : l.length ≤ 9) {i j : Nat} (hij : i ≤ j) (hj : j ≤ l.length) : fa (wof l) i j = wof ((l.take j).drop i) := by
  have e : l.take i ++ (l.take j).drop i ++ l.drop j = l := by
    have e1 : l.take i = (l.take j).take i := by rw [List.take_take, Nat.min_eq_left hij]
    rw [e1, List.take_append_drop, List.take_append_drop]
  have la : (l.take i).length = i := by rw [List.length_take]; omega
  have lb : ((l.take j).drop i).length = j - i := by rw [List.length_drop, List.length_take]; omega
  have lc : (l.drop j).length = l.length - j := List.length_drop
  have hh := fa_wof3 (a := l.take i) (b := (l.take j).drop i) (c := l.drop j) (h.sub (List.take_sublist _ _)) (h.sub ((List.drop_sublist _ _).trans (List.take_sublist _ _))) (h.sub (List.drop_sublist _ _)) (by omega)
  rw [e, la, lb, show (i : Int) + ((j - i : Nat) : Int) = (j : Int) by omega] at hh
  exact hh
theorem cut_sub {l : List Int} {a b c d : Nat} (h1 : a ≤ b) (h2 : c ≤ d) (hac : a ≤ c) : List.Sublist (l.take a ++ (l.take c).drop b ++ l.drop d) l := by
  have e1 : l.take a = (l.take c).take a := by rw [List.take_take, Nat.min_eq_left hac]
  have s1 : List.Sublist ((l.take c).drop b) ((l.take c).drop a) := by
    have : (l.take c).drop b = ((l.take c).drop a).drop (b - a) := by rw [List.drop_drop]; congr 1; omega
    rw [this]
    exact List.drop_sublist _ _
  have s2 : List.Sublist (l.drop d) (l.drop c) := by
    have : l.drop d = (l.drop c).drop (d - c) := by rw [List.drop_drop]; congr 1; omega
    rw [this]
    exact List.drop_sublist _ _
  have s3 := (List.Sublist.append (List.Sublist.refl (l.take a)) s1).append s2
  have e2 : l.take a ++ (l.take c).drop a ++ l.drop c = l := by rw [e1, List.take_append_drop, List.take_append_drop]
  rw [e2] at s3
  exact s3
theorem rdc_sub {G : zGr} (hG : grok G) {l : List Int} (hl : dgt l) (h9 : l.length ≤ 9) {y : Int} (h : rdc G (wof l) y) : ∃ m, List.Sublist m l ∧ y = wof m := by
  refine h (fun u => ∃ m, List.Sublist m l ∧ u = wof m) ⟨l, List.Sublist.refl l, rfl⟩ ?_
  rintro z r ⟨m, hm, rfl⟩ hp
  obtain ⟨L, R, pr, g1, g2, g3, g4, g5⟩ := id hp
  have hdm := hl.sub hm
  have hm9 : m.length ≤ 9 := Nat.le_trans hm.length_le h9
  have hln := (wof_r hdm hm9).1
  have hc := (hG.2.2.2 _ (List.mem_of_getElem? g1)).1
  dsimp only at hc
  have hL := ln_cx hc
  have hR := ln_b R
  have hs0 : 0 ≤ rs r := by unfold rs; omega
  obtain ⟨s, es⟩ : ∃ s : Nat, rs r = s := ⟨(rs r).toNat, by omega⟩
  obtain ⟨e, ee⟩ : ∃ e : Nat, re r = e := ⟨(re r).toNat, by omega⟩
  obtain ⟨a, ea⟩ : ∃ a : Nat, ln L = a := ⟨(ln L).toNat, by omega⟩
  obtain ⟨b, eb⟩ : ∃ b : Nat, ln R = b := ⟨(ln R).toNat, by omega⟩
  have ecx : cxg G r = (L, R, pr) := by unfold cxg; rw [g1]; rfl
  have hz : redV G (wof m) r = wof (m.take s ++ (m.take (e + a)).drop (s + a) ++ m.drop (e + a + b)) := by
    unfold redV tkw
    rw [ecx]
    dsimp only
    have h0 := fa_wof hdm hm9 (i := 0) (j := s) (by omega) (by omega)
    have h1 := fa_wof hdm hm9 (i := s + a) (j := e + a) (by omega) (by omega)
    have h2 := fa_wof hdm hm9 (i := e + a + b) (j := m.length) (by omega) (by omega)
    rw [List.take_length] at h2
    rw [List.drop_zero] at h0
    rw [hln, es, ee, ea, eb, show (s : Int) + (a : Int) = ((s + a : Nat) : Int) by omega, show (e : Int) + (a : Int) = ((e + a : Nat) : Int) by omega, show ((e + a : Nat) : Int) + (b : Int) = ((e + a + b : Nat) : Int) by omega]
    rw [show fa (wof m) 0 (s : Int) = wof (m.take s) from h0, h1, h2]
    have d1 : dgt ((m.take (e + a)).drop (s + a)) := hdm.sub ((List.drop_sublist _ _).trans (List.take_sublist _ _))
    have d2 : dgt (m.drop (e + a + b)) := hdm.sub (List.drop_sublist _ _)
    rw [jn_wof d1 (by rw [List.length_drop, List.length_take]; omega), jn_wof d2 (by rw [List.length_drop]; omega)]
  exact ⟨_, (cut_sub (l := m) (a := s) (b := s + a) (c := e + a) (d := e + a + b) (by omega) (by omega) (by omega)).trans hm, hz⟩
def sbl : List Int → List (List Int)
  | [] => [[]]
  | a :: t => sbl t ++ (sbl t).map (fun m => a :: m)
theorem sbl_len : ∀ l : List Int, (sbl l).length = 2 ^ l.length
  | [] => rfl
  | a :: t => by
    show (sbl t ++ (sbl t).map (fun m => a :: m)).length = 2 ^ (t.length + 1)
    rw [List.length_append, List.length_map, sbl_len t, Nat.pow_succ]
    omega
theorem sbl_mem {l m : List Int} (h : List.Sublist m l) : m ∈ sbl l := by
  induction h with
  | slnil => exact List.mem_singleton.mpr rfl
  | cons a _ ih => exact List.mem_append.mpr (Or.inl ih)
  | cons_cons a _ ih => exact List.mem_append.mpr (Or.inr (List.mem_map.mpr ⟨_, ih, rfl⟩))
theorem pg : ∀ (fs L : List Int), fs.Nodup → (∀ y ∈ fs, y ∈ L) → fs.length ≤ L.length
  | [], _, _, _ => Nat.zero_le _
  | y :: t, L, hn, h => by
    have hy := h y List.mem_cons_self
    obtain ⟨n1, n2⟩ := List.nodup_cons.mp hn
    have ih := pg t (L.erase y) n2 (fun z hz => (List.mem_erase_of_ne (fun e : z = y => n1 (e ▸ hz))).mpr (h z (List.mem_cons_of_mem _ hz)))
    rw [List.length_erase_of_mem hy] at ih
    have : 0 < L.length := List.length_pos_of_mem hy
    rw [List.length_cons]
    omega
def dgs : Nat → Int → List Int
  | 0, _ => []
  | n + 1, x => dgs n (x / 3) ++ [x % 3]
theorem dgs_len : ∀ (n : Nat) (x : Int), (dgs n x).length = n
  | 0, _ => rfl
  | n + 1, x => by show (dgs n (x / 3) ++ [x % 3]).length = n + 1; rw [List.length_append, dgs_len n]; rfl
theorem dgs_d : ∀ (n : Nat) (x : Int), dgt (dgs n x)
  | 0, _, d, h => by cases h
  | n + 1, x, d, h => by
    have h : d ∈ dgs n (x / 3) ++ [x % 3] := h
    rcases List.mem_append.mp h with q | q
    · exact dgs_d n _ d q
    · rw [List.mem_singleton] at q; omega
theorem dgs_v : ∀ (n : Nat) (x : Int), 0 ≤ x → x < p3 n → vb (dgs n x) = x
  | 0, x, h0, h1 => by have h1 : x < 1 := h1; show (0 : Int) = x; omega
  | n + 1, x, h0, h1 => by
    rw [show ((n + 1 : Nat) : Int) = (n : Int) + 1 by omega, p3_s (by omega)] at h1
    have ih := dgs_v n (x / 3) (by omega) (by omega)
    show vb (dgs n (x / 3) ++ [x % 3]) = x
    rw [vb_app, ih]
    show x / 3 * p3 1 + (x % 3 * p3 0 + 0) = x
    rw [show p3 1 = 3 from rfl, p3_0]
    omega
theorem wof_ex {x : Int} (hx : wd x) : ∃ l, dgt l ∧ l.length ≤ 9 ∧ wof l = x := by
  have h1 := ln_b x
  have h2 := ln_r hx
  have h3 := f3_s2 h1.1
  have e : ((ln x).toNat : Int) = ln x := by omega
  refine ⟨dgs (ln x).toNat (x - f3 (ln x)), dgs_d _ _, by rw [dgs_len]; omega, ?_⟩
  unfold wof
  rw [dgs_len, e, dgs_v _ _ (by omega) (by rw [e]; omega)]
  omega
theorem rdc_512 {G : zGr} (hG : grok G) {x : Int} (hx : wd x) {fs : List Int} (hn : fs.Nodup) (h : ∀ y ∈ fs, rdc G x y) : fs.length ≤ 512 := by
  obtain ⟨l, h1, h2, rfl⟩ := wof_ex hx
  have hl : ((sbl l).map wof).length ≤ 512 := by
    rw [List.length_map, sbl_len]
    exact Nat.le_trans (Nat.pow_le_pow_right (by decide) h2) (by decide)
  refine Nat.le_trans (pg fs ((sbl l).map wof) hn (fun y hy => ?_)) hl
  obtain ⟨m, m1, m2⟩ := rdc_sub hG h1 h2 (h y hy)
  exact List.mem_map.mpr ⟨m, sbl_mem m1, m2.symm⟩
