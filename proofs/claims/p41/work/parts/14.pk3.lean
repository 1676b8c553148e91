/-! THE WALK: from the entry to the end with true -/
theorem whole_start {p : Program} {e : Env} {s : State} {m : MethodId} {below : List Frame} {meth : Method} {c : Code} (l : Launch) (hflags : l.flags = flags0) {b L : Nat} {xs : Nat → Int32} (hL : L ≤ 260) (C0 : lw_At p s m meth c b L xs) : W p l e room_1 s m #[Value.ref b] below meth c s.heap [] 0 0 (lw_Z below #[Value.ref b] s) (entryFrame m ([Value.ref b] : List Value).toArray 7) := by
  obtain ⟨hx, hb, hr, hml, hown, hts, hX, hbl, hlk, hgv, hN⟩ := C0
  have hlt : l.stackTraces = false := by
    unfold Launch.stackTraces
    rw [hflags]
    decide +kernel
  obtain ⟨g, gb, gT, gO, eb, eL, ex⟩ := geo_all (args := #[Value.ref b]) hts (flat_of_before _ hgv) hX hbl hL
  obtain ⟨M1, S1, hF⟩ := law_one (ln := (L : Int)) (scr := zscr xs)
  have hR : zR g Mz Sz s.heap := zR_z gb
  have hNw : ∀ w ∈ zTn, va_Nw w s := fun w hw => by
    have hot : w.onTables = true := by
      have := (List.mem_filter.mp hw).2
      cases w <;> first | rfl | (cases this)
    exact va_Nw.of hot (hts w (List.mem_filter.mp hw).1)
  have J := c_L_law (p, l, e, zRm 256 600130 7301080, s, m, #[Value.ref b], below, meth, c, vx_MQ below (zQc g (.inl (some (.int (zi 1)))) M1 S1 (inR 1 ∧ zFx S1)) (zXC g (.inl (some (.int (zi 1)))) M1 S1 (inR 1 ∧ zFx S1)) #[Value.ref b] s 600130 7301080 (zA g)) l hlt g gb.symm (by rw [eL]; exact hL) (L : Int) (by rw [eL]) (zscr xs) (by rw [ex]) Mz Sz
    ⟨rfl, hx, hb, hml, hown, fun w hw => hts w (List.mem_filter.mp hw).1, gT, gO, hNw, hlk, hlt⟩ meth.name ⟨rfl, hr, rfl, rfl⟩ hN hF
  rw [eb] at J
  have hl := lv_entry [Value.ref b] (n := 7) (Nat.le_of_ble_eq_true rfl)
  rw [lg_entry_eq]
  generalize (lg_sl [Value.ref b] ++ List.replicate (7 - (lg_sl [Value.ref b]).length) Slot.unset).toArray = ls at hl ⊢
  have k : W p l e (zRm 256 600130 7301080) s m #[Value.ref b] below meth c s.heap [] 0 0 (vx_MQ below (zQc g (.inl (some (.int (zi 1)))) M1 S1 (inR 1 ∧ zFx S1)) (zXC g (.inl (some (.int (zi 1)))) M1 S1 (inR 1 ∧ zFx S1)) #[Value.ref b] s 600130 7301080 (zA g)) (F0 m 0 ls []) := J s.heap [] ls hR va_S.rf hl
  intro T hT X
  have hroom : s.hasRoom e.platform (zRm 256 600130 7301080) = true := by
    have h := X.room
    simp only [State.hasRoom, Bool.and_eq_true, decide_eq_true_eq] at h ⊢
    obtain ⟨⟨⟨⟨h1, h2, h3, h4, h5, h6⟩, h7⟩, h8⟩, h9⟩ := h
    have r1 : room_1.locals = 84000 := rfl
    have r2 : (zRm 256 600130 7301080).locals = 32768 := rfl
    have r3 : room_1.frames = 2048 := rfl
    have r4 : (zRm 256 600130 7301080).frames = 2048 := rfl
    rw [r1] at h1 h4 h5
    rw [r3] at h2 h3
    rw [r2, r4]
    exact ⟨⟨⟨⟨by omega, h2, h3, by omega, by omega, h6⟩, h7⟩, h8⟩, h9⟩
  obtain ⟨t, a1, o, b1, b2, b3⟩ := k T hT { X with room := hroom }
  refine ⟨t, a1, o, b1, b2, ?_⟩
  rcases b3 with ⟨⟨⟨v, e1, e2⟩, -⟩, L9, ⟨-, hW, hs⟩, hfree⟩ | ⟨q, -, E, ce, L9, ⟨h9, -⟩, -⟩
  · cases e1
    have hs2 : s.sameButNew ({ t with vm := s.vm } : State) [] 600130 7301080 := hs.weaken (fun y hy hlt2 => by
      have q2 : zb g < y.base := hfree y hy
      exact absurd (Nat.lt_of_lt_of_le hlt2 (Nat.le_of_eq gb.symm)) (Nat.not_lt.mpr q2)) (Nat.le_refl _) (Nat.le_refl _)
    exact ⟨e2.trans (by rfl), lw_closed (d0 := s.drawn) (Drawn.sameBut.refl s.drawn lw_cs) ⟨_, e2⟩ hW hs2⟩
  · cases h9
