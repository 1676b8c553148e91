/-! THE WALK: from the entry to the end with true -/
theorem whole_start {p : Program} {e : Env} {s : State} {m : MethodId} {below : List Frame} {meth : Method} {c : Code} (l : Launch) (hflags : l.flags = flags0) {b L : Nat} {xs : Nat → Int32} (hL : L ≤ 2048) (C0 : lw_At p s m meth c b L xs) : W p l e room_1 s m #[Value.ref b] below meth c s.heap [] 0 0 (lw_Z below #[Value.ref b] s) (entryFrame m ([Value.ref b] : List Value).toArray 9) := by
  obtain ⟨hx, hb, hr, hml, hown, hts, hX, hbl, hlk, hgv⟩ := C0
  have hlt : l.stackTraces = false := by
    unfold Launch.stackTraces
    rw [hflags]
    decide +kernel
  obtain ⟨g, gb, gT, gO⟩ := geo_all (args := #[Value.ref b]) hts (flat_of_before _ hgv) (Nat.lt_of_le_of_lt (Nat.zero_le _) hbl)
  obtain ⟨M1, S1, hF⟩ := law_one (lnS := (L : Int)) (zscr xs) (by omega) (by omega)
  have hR : zR g Mz Sz s.heap := zR_z gb
  have hNw : ∀ w ∈ zTn, va_Nw w s := fun w hw => by
    have hot : w.onTables = true := by
      have := (List.mem_filter.mp hw).2
      cases w <;> first | rfl | (cases this)
    exact va_Nw.of hot (hts w (List.mem_filter.mp hw).1)
  have J := c_L_law (p, l, e, zRm 256 601024 7293034, s, m, #[Value.ref b], below, meth, c, vx_MQ below (zQc g (.inl (some (.int (zi 1)))) M1 S1 (inR 1 ∧ zFx S1)) (zXC g (.inl (some (.int (zi 1)))) M1 S1 (inR 1 ∧ zFx S1)) #[Value.ref b] s 601024 7293034 (zA g)) l hlt g b L xs ⟨hX, hbl, fun q => by have q2 : zb g < b := q; omega⟩ hL (L : Int) rfl (zscr xs) rfl Mz Sz
    ⟨rfl, hx, hb, hml, hown, fun w hw => hts w (List.mem_filter.mp hw).1, gT, gO, hNw, hlk, hlt⟩ (nm := meth.name) ⟨rfl, hr, rfl, rfl⟩ hF
  have hl := lv_entry [Value.ref b] (n := 9) (Nat.le_of_ble_eq_true rfl)
  rw [lg_entry_eq]
  generalize (lg_sl [Value.ref b] ++ List.replicate (9 - (lg_sl [Value.ref b]).length) Slot.unset).toArray = ls at hl ⊢
  have k : W p l e (zRm 256 601024 7293034) s m #[Value.ref b] below meth c s.heap [] 0 0 (vx_MQ below (zQc g (.inl (some (.int (zi 1)))) M1 S1 (inR 1 ∧ zFx S1)) (zXC g (.inl (some (.int (zi 1)))) M1 S1 (inR 1 ∧ zFx S1)) #[Value.ref b] s 601024 7293034 (zA g)) (F0 m 0 ls []) := J s.heap [] ls hR va_S.rf hl
  intro T hT X
  have hroom : s.hasRoom e.platform (zRm 256 601024 7293034) = true := by
    have h := X.room
    simp only [State.hasRoom, Bool.and_eq_true, decide_eq_true_eq] at h ⊢
    obtain ⟨⟨⟨⟨h1, h2, h3, h4, h5, h6⟩, h7⟩, h8⟩, h9⟩ := h
    have r1 : room_1.locals = 84000 := rfl
    have r2 : (zRm 256 601024 7293034).locals = 32768 := rfl
    have r3 : room_1.frames = 2048 := rfl
    have r4 : (zRm 256 601024 7293034).frames = 2048 := rfl
    rw [r1] at h1 h4 h5
    rw [r3] at h2 h3
    rw [r2, r4]
    exact ⟨⟨⟨⟨by omega, h2, h3, by omega, by omega, h6⟩, h7⟩, h8⟩, h9⟩
  obtain ⟨t, a1, o, b1, b2, b3⟩ := k T hT { X with room := hroom }
  refine ⟨t, a1, o, b1, b2, ?_⟩
  rcases b3 with ⟨⟨⟨v, e1, e2⟩, -⟩, L9, ⟨-, hW, hs⟩, hfree⟩ | ⟨q, -, E, ce, L9, ⟨h9, -⟩, -⟩
  · cases e1
    have hs2 : s.sameButNew ({ t with vm := s.vm } : State) [] 601024 7293034 := hs.weaken (fun y hy hlt2 => by
      have q2 : zb g < y.base := hfree y hy
      exact absurd (Nat.lt_of_lt_of_le hlt2 (Nat.le_of_eq gb.symm)) (Nat.not_lt.mpr q2)) (Nat.le_refl _) (Nat.le_refl _)
    exact ⟨e2.trans (by rfl), lw_closed (d0 := s.drawn) (Drawn.sameBut.refl s.drawn lw_cs) ⟨_, e2⟩ hW hs2⟩
  · cases h9
