set_option maxHeartbeats 4000000 in
theorem start_C {s : State} {args : Array Value} (hts : ∀ w ∈ W0, w.before args s = true) : ∃ D : va_G, ∀ (c : Nat) (q : vw_C), vwCl[c]? = some q → u_Kn s q.1 q.2.1 q.2.2 (D.1 c) (D.2 c) := by
  obtain ⟨c0, i0, h0⟩ := u_known (C := RX0) (T := TX0) (N := 2) (n := 2) hts iwX0 (hts _ (mt1 (List.mem_of_getElem? (i := 225) rfl) rfl))
  obtain ⟨c1, i1, h1⟩ := u_known (C := RX1) (T := TX1) (N := 5) (n := 5) hts iwX1 (hts _ (mt1 (List.mem_of_getElem? (i := 76) rfl) rfl))
  obtain ⟨c2, i2, h2⟩ := u_known (C := RX2) (T := TX2) (N := 9) (n := 9) hts iwX2 (hts _ (mt1 (List.mem_of_getElem? (i := 82) rfl) rfl))
  obtain ⟨c3, i3, h3⟩ := u_known (C := RX3) (T := TX3) (N := 7) (n := 7) hts iwX3 (hts _ (mt2 (List.mem_of_getElem? (i := 36) rfl) rfl))
  obtain ⟨c4, i4, h4⟩ := u_known (C := RX4) (T := TX4) (N := 3) (n := 3) hts iwX4 (hts _ (mt2 (List.mem_of_getElem? (i := 76) rfl) rfl))
  obtain ⟨c5, i5, h5⟩ := u_known (C := RX5) (T := TX5) (N := 4) (n := 4) hts iwX5 (hts _ (mt2 (List.mem_of_getElem? (i := 0) rfl) rfl))
  obtain ⟨c6, i6, h6⟩ := u_known (C := RX6) (T := TX6) (N := 3) (n := 3) hts iwX6 (hts _ (mt1 (List.mem_of_getElem? (i := 217) rfl) rfl))
  obtain ⟨c7, i7, h7⟩ := u_known (C := RX7) (T := TX7) (N := 5) (n := 5) hts iwX7 (hts _ (mt1 (List.mem_of_getElem? (i := 37) rfl) rfl))
  obtain ⟨c8, i8, h8⟩ := u_known (C := RX8) (T := TX8) (N := 4) (n := 4) hts iwX8 (hts _ (mt1 (List.mem_of_getElem? (i := 147) rfl) rfl))
  obtain ⟨c9, i9, h9⟩ := u_known (C := RX9) (T := TX9) (N := 4) (n := 4) hts iwX9 (hts _ (mt2 (List.mem_of_getElem? (i := 94) rfl) rfl))
  obtain ⟨c10, i10, h10⟩ := u_known (C := RX10) (T := TX10) (N := 7) (n := 7) hts iwX10 (hts _ (mt1 (List.mem_of_getElem? (i := 43) rfl) rfl))
  obtain ⟨c11, i11, h11⟩ := u_known (C := RX11) (T := TX11) (N := 12) (n := 12) hts iwX11 (hts _ (mt1 (List.mem_of_getElem? (i := 29) rfl) rfl))
  obtain ⟨c12, i12, h12⟩ := u_known (C := RX12) (T := TX12) (N := 60) (n := 60) hts iwX12 (hts _ (mt6 (List.mem_of_getElem? (i := 79) rfl) rfl))
  refine ⟨(fun k => ([c0, c1, c2, c3, c4, c5, c6, c7, c8, c9, c10, c11, c12] : List ClassId).getD k c0, fun k => ([i0, i1, i2, i3, i4, i5, i6, i7, i8, i9, i10, i11, i12] : List (Nat → Nat)).getD k i0), ?_⟩
  intro c q hq
  match c, hq with
  | 0, hq => cases hq; exact h0
  | 1, hq => cases hq; exact h1
  | 2, hq => cases hq; exact h2
  | 3, hq => cases hq; exact h3
  | 4, hq => cases hq; exact h4
  | 5, hq => cases hq; exact h5
  | 6, hq => cases hq; exact h6
  | 7, hq => cases hq; exact h7
  | 8, hq => cases hq; exact h8
  | 9, hq => cases hq; exact h9
  | 10, hq => cases hq; exact h10
  | 11, hq => cases hq; exact h11
  | 12, hq => cases hq; exact h12
  | (k + 13), hq => simp [vwCl] at hq
