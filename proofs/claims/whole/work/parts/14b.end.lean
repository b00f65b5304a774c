def R_law : String := "DripCupsLaw"
def lw_P (b : Addr) (xs : List Int32) (args : Array Value) (s : State) : Prop := args = #[.ref b] ∧ s.IntsAt b xs ∧ xs.length ≤ 384 ∧ (Jvm.Cond.and given_1 narrow_1).before args s = true
def lw_Q (_ : Array Value) (s : State) (o : Outcome) (t : State) : Prop := o = .returned (some (.int 1)) ∧ Framed s o t [] 600128 7301098
def lw_Z (below : List Frame) (a : Array Value) (s : State) : State → Prop := fun t => ∃ o, t.status = .running ∧ Ended t below o ∧ lw_Q a s o t
set_option maxHeartbeats 4000000 in
theorem law_end {p : Program} {l : Launch} {e : Env} {s : State} {m : MethodId} {below : List Frame} {meth : Method} {c : Code} {b : Nat} {H : Heap} {locs : List Loc} {ls : Array Slot} {cells slots : Nat} {G : Geo} {S : PS} {L : List (Option Value)} (hw : WP [] mL_law 100 512 qLaw 23 L [] S 0)
    (hx : p.tables.exec = Jvm.exec) (hb : c.code = code) (hml : c.maxLocals = 7) (hr : meth.sig.returnType = some .boolean) (hlk : meth.locks = false) (hown : s.vm.findClass "DripCupsLaw" = some m.cls) (hts : ∀ w ∈ W0, w.before #[Value.ref b] s = true) (hG : GF G s s.heap) (hst : l.stackTraces = false) (htab : c.exceptionTable.toList = []) (hgA : ∀ q, gA G q → s.heap.size ≤ q)
    (hP : PW G S H) (hS : va_S (gA G) s.heap H locs) (hl : lv_has ls 7 (lva G 0 L)) (hc : cells + 512 ≤ 600128) (hs : slots + 3072 ≤ 7301098) :
    W p l e room_1 s m #[Value.ref b] below meth c H locs cells slots (lw_Z below #[Value.ref b] s) (F0 m 23 ls []) := by
  intro T hT X
  have Y := vx_rebase X (R' := rmd 100 512) (by decide) (by decide) hc hs
  obtain ⟨s', hA⟩ : ∃ z, z = (T.setVm s.vm).setFrames (.invoking m #[Value.ref b] :: below) := ⟨_, rfl⟩
  rw [← hA] at Y
  have hvm : s'.vm = s.vm := by rw [hA]; rfl
  have hhp : s'.heap = H := by rw [hA]; exact hT
  have hW0 : s.WarmedH s'.vm := by rw [hvm]; exact State.WarmedH.refl s
  have hts' : ∀ w ∈ W0, w.before #[Value.ref b] s' = true := fun w hw => word_at hW0 (good_of_word (List.mem_filter.mp hw).2) (hts w hw)
  have hG' : GF G s' s'.heap := by rw [hhp]; exact hG.at hS hW0
  obtain ⟨t2, a1, o, b1, b2, b3⟩ := hw G l p e s' m #[Value.ref b] below meth c ⟨hx, hb, hml, hr, hlk, by rw [hvm]; exact hown, hts', hG', hst, htab⟩ H [] ls hP (by rw [hhp]; exact va_S.rf) hl T hT Y
  rcases b3 with ⟨⟨⟨v, S', e1, e2, e3⟩, hF⟩, L9, ⟨⟨w, hw9⟩, hW, hsame⟩, hL⟩ | ⟨q, e1, E, ce, L9, ⟨⟨S', e2, e3⟩, e4⟩, e5⟩
  · have hv : v = some (.int 1) := by injection e2
    subst hv
    refine ⟨t2, a1, o, b1, b2, e1, ⟨w, hw9⟩, State.WarmedH.trans hW0 hW, ?_⟩
    subst hA
    obtain ⟨f1, f2⟩ := hsame
    rw [State.setFrames_setFrames] at f1
    have h2 : (T.setVm s.vm).sameButNew ({ t2 with vm := s.vm } : State) L9 512 (6 * 512) := ⟨f1, f2⟩
    have h3 := X.same.trans h2
    exact h3.weaken (fun y hy hlt => by
      rcases List.mem_append.mp hy with h | h
      · exact absurd hlt (Nat.not_lt.mpr (hgA _ (hS.2.2 y h)))
      · exact absurd hlt (Nat.not_lt.mpr (hgA _ (hL y h)))) hc hs
  · cases e2
