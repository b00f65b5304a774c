/-! ===== contracts and calls ===== -/
/-- the method j, called with av in the world S, comes back with Q, in depth d and with at most M cells -/
def CT (j : MT) (d M : Nat) (av : List Value) (S : PS) (Q : OQ) : Prop :=
  ∀ (G : Geo) (l : Launch), l.stackTraces = false → vx_Met l j.1 (wsj j) (rmd d M) (va_Pc (av.map (cv G)) (fun U => GF G U U.heap ∧ PW G S U.heap)) (mQ G Q) (mX G Q) M (6 * M) (gA G)
theorem tableOf_nil : tableOf [] = [] := rfl
theorem ct_of {j : MT} {d M : Nat} {av : List Value} {S : PS} {Q : OQ} (L0 : List (Option Value)) (hy : plainName j.1.cls = true) (hl : ∀ G, lva G 0 L0 = lv_args 0 (av.map (cv G))) (hn : ∀ G, (lg_sl (av.map (cv G))).length ≤ j.2.2.1) (h : WP [] j d M Q 0 L0 [] S 0) : CT j d M av S Q := by
  intro G l hst
  refine vx_ofW (cc := j.2.1) (maxL := j.2.2.1) (ret := j.2.2.2) hy rfl ?_
  intro p e s m args below meth c s₁ B hml ht hv
  obtain ⟨rfl, hG, hP⟩ := hv
  have hts : ∀ w ∈ W0, w.before (av.map (cv G)).toArray s = true := fun w hw => atoms_spec (ws := wsj j) B.pre w (List.mem_cons_of_mem _ hw)
  have hle := lv_entry (av.map (cv G)) (n := j.2.2.1) (hn G)
  rw [lg_entry_eq]
  rw [← hl] at hle
  have htab : c.exceptionTable.toList = tableOf [] := by
    rw [tableOf_nil]
    cases hq : c.exceptionTable.toList with
    | nil => rfl
    | cons a b => exact (ht a (by rw [hq]; exact List.mem_cons_self)).elim
  exact h G l p e s m _ below meth c ⟨B.exec, B.bytes, hml, B.returns, B.notSynchronized, findClass_of_methodNamed B.named, hts, hG, hst, htab⟩ s.heap [] _ hP va_S.rf hle
theorem ct_mono {j : MT} {d M : Nat} {av : List Value} {S : PS} {Q Q' : OQ} (h : CT j d M av S Q) (hq : ∀ o S', Q o S' → Q' o S') : CT j d M av S Q' := by
  intro G l hst p e ha hc hk s m args below hf happ hP hK
  obtain ⟨n, o, h1, h2, h3, h4⟩ := h G l hst p e ha hc hk s m args below hf happ hP hK
  refine ⟨n, o, h1, h2, h3, ?_⟩
  rcases h4 with ⟨⟨⟨v, S', e1, e2, e3⟩, e4⟩, e5⟩ | ⟨q, e1, E, ce, L, ⟨⟨S', e2, e3⟩, e4⟩, e5⟩
  · exact Or.inl ⟨⟨⟨v, S', e1, hq _ _ e2, e3⟩, e4⟩, e5⟩
  · exact Or.inr ⟨q, e1, E, ce, L, ⟨⟨S', hq _ _ e2, e3⟩, e4⟩, e5⟩
/-- in more depth -/
theorem blind {G : Geo} {av : List Value} {S : PS} : FrameBlind (va_Pc av (fun U => GF G U U.heap ∧ PW G S U.heap)) := by
  intro a U g mk h
  obtain ⟨h1, h2, h3⟩ := h
  exact ⟨h1, GF.same (u := U) (U := U.calling g mk a) rfl h2, h3⟩
theorem good_W0 {y : MT} (hc : Cond.code y.1 y.2.1 y.2.2.1 y.2.2.2 ∈ W0) : GoodIn W0 (wsj y) := by
  intro w hw
  rcases List.mem_cons.mp hw with rfl | h
  · exact ⟨hc, good_of_word (List.mem_filter.mp hc).2⟩
  · exact ⟨h, good_of_word (List.mem_filter.mp h).2⟩
/-- the constant i of own names the method y of n parameters -/
def CL (y : MT) (n : Nat) : Prop := Cond.initialized y.1.cls ∈ W0 ∧ Cond.code y.1 y.2.1 y.2.2.1 y.2.2.2 ∈ W0 ∧ (y.1.cls ≠ "java/lang/invoke/MethodHandle" ∧ y.1.cls ≠ "java/lang/invoke/VarHandle" ∧ (parseMethodDescriptor y.1.desc).map (fun d => d.parameters.length) = some n) ∧ y.2.2.1 ≤ 45
def CLV (y : MT) (n : Nat) : Prop := CL y n ∧ Cond.instanceMethod y.1 ∈ W0 ∧ Cond.selects y.1.cls y.1 y.1 ∈ W0
def CLS (y : MT) (n : Nat) : Prop := CL y n ∧ Cond.static y.1 ∈ W0
section CallRules
variable {j : MT} {d M pc u : Nat} {Q : OQ} {L : List (Option Value)} {st : List Value} {S : PS}
theorem callB_W0 {own : String} {i : Nat} {y : MT} {n dy My : Nat} {s : State} {args : Array Value} (hts : ∀ w ∈ W0, w.before args s = true) (hc : CL y n) (hl : Cond.methodLink own i y.1 ∈ W0) (hdp : dy + 1 ≤ d) : CallB (rmd d M) s args own i y.1 y.2.1 y.2.2.1 y.2.2.2 (wsj y) (rmd dy My) My (6 * My) n :=
  callB_of n hts (good_W0 hc.2.1) rfl rfl rfl (hts _ hc.1) (hts _ hl) hc.2.2.1 ⟨hdp, by have := hc.2.2.2; simp only [rmd]; omega⟩
/-- behind a call, whatever it was: back, or thrown out (no table here) -/
theorem call_core {G : Geo} {l : Launch} {p : Program} {e : Env} {s : State} {m : MethodId} {args : Array Value} {below : List Frame} {meth : Method} {c : Code} {H : Heap} {locs : List Loc} {ls : Array Slot} {rest : List Value} {My : Nat} {Qy : OQ} {a : Array Value} {g : JFrame} (hg : g = F0 m pc ls (st.map (cv G)))
    (C : CX [] G l j p s m args meth c) (hS : va_S (gA G) s.heap H locs) (hl : lv_has ls j.2.2.1 (lva G 0 L)) (hM : u + My ≤ M)
    (hr : vx_Run p l e (rmd d M) s m args below meth c H locs u (6 * u) My (6 * My) g (rest.map (cv G)) (mQ G Qy a) (mX G Qy) (gA G))
    (k : ∀ v S', Qy (.inl v) S' → WP [] j d M Q (pc + 3) L (v.toList ++ rest) S' (u + My)) (kx : ∀ E S', Qy (.inr E) S' → Q (.inr E) S') :
    W p l e (rmd d M) s m args below meth c H locs u (6 * u) (vx_MQ below (mQ G Q) (mX G Q) args s M (6 * M) (gA G)) g := by
  subst hg
  intro T hT X
  rcases hr T hT X with ⟨v, st₀, t, T', L9, h0, X', hL, e1, e2, ⟨⟨w, S', hv, hq, hb⟩, hF⟩, hst⟩ | ⟨q, st₀, t, T', L9, E, ce, h0, X', hL, e1, e2, ⟨⟨S', hq, hb⟩, hF⟩, hce, hcv, hcl, hst⟩
  · cases hv
    obtain ⟨k1, k2, k3⟩ := vx_keep h0 e1 hS (fun q _ h => h) (fun q h => h) hL hF
    have X2 : Stand p l e (rmd d M) s m args below meth c T' (locs ++ L9) (u + My) (6 * (u + My)) := by rw [Nat.mul_add]; exact X'
    obtain ⟨t2, a1, b1⟩ := k w S' hq G l p e s m args below meth c C T'.heap (locs ++ L9) ls (by rw [e1]; exact hb) k3 hl T' rfl X2
    refine ⟨t2, hst t2 ?_, b1⟩
    have : (Option.map (cv G) w).toList ++ rest.map (cv G) = (w.toList ++ rest).map (cv G) := by cases w <;> simp
    rw [this]
    exact a1
  · obtain ⟨k1, k2, k3⟩ := vx_keep h0 e1 hS (fun q _ h => h) (fun q h => h) hL hF
    have X2 : Stand p l e (rmd d M) s m args below meth c T' (locs ++ L9) (u + My) (6 * (u + My)) := by rw [Nat.mul_add]; exact X'
    have hw : vx_W p l e (rmd d M) s m args below meth c T'.heap (locs ++ L9) (u + My) (6 * (u + My)) (vx_MQ below (mQ G Q) (mX G Q) args s M (6 * M) (gA G)) (F0 m pc ls (rest.map (cv G))) q :=
      vx_out (E := E) (ce := ce) (fun x hx => by rw [C.2.2.2.2.2.2.2.2.2, tableOf_nil] at hx; cases hx) C.2.2.2.2.1 (by rw [e1]; exact hce) hcv hcl (fun t2 ht2 _ => ⟨⟨S', kx E S' hq, by rw [ht2, e1]; exact hb⟩, k3.F ht2⟩) k3.2.2 hM (Nat.mul_le_mul_left 6 hM)
    obtain ⟨t2, a1, b1⟩ := hw T' rfl X2
    exact ⟨t2, hst.trans a1, b1⟩
theorem r_callV {i o c9 : Nat} {y : MT} {As rest : List Value} {dy My n : Nat} {Qy : OQ} {q9 : vw_C} (hd : decode j.2.1 pc = .ok (.invokevirtual i, 3)) (hw : Cond.methodLink j.1.cls i y.1 ∈ W0) (hc : CLV y n) (hn : As.length = n) (ho : ck o = (0, c9)) (hq9 : vwCl[c9]? = some q9) (hcl : q9.1 = y.1.cls) (hon : o < nC) (hct : CT y dy My (.ref o :: As) S Qy) (hdp : dy + 1 ≤ d) (hM : u + My ≤ M) (hst : st = As.reverse ++ .ref o :: rest) (h8 : (rest.map fun v => v.category).sum ≤ 8)
    (k : ∀ v S', Qy (.inl v) S' → WP [] j d M Q (pc + 3) L (v.toList ++ rest) S' (u + My)) (kx : ∀ E S', Qy (.inr E) S' → Q (.inr E) S') : WP [] j d M Q pc L st S u := by
  intro G l p e s m args below meth c C H locs ls hP hS hl
  obtain ⟨hx, hb, hml, hr, hlk, hown, hts, hG, hst9, htab⟩ := id C
  refine call_core (a := (Value.ref (G.1 o) :: As.map (cv G)).toArray) rfl C hS hl hM ?_ k kx
  refine vx_runV (b := G.1 o) (As := As.map (cv G)) (rest := rest.map (cv G)) (C := y.1.cls) ⟨hx, hb, hml, hown, hts⟩ (hct G l hst9) ⟨callB_W0 hts hc.1 hw hdp, hts _ hc.2.1, hts _ hc.2.2⟩ ⟨blind, ?_, ?_⟩ rfl (by rw [List.length_map]; exact hn) hl.1 (by rw [hst]; simp [cv]) ?_ hd ?_
  · have h1 := va_recv hG.1 hP.1 (q0 := o) (ci := c9) hq9 (wl_get hon |>.trans (by rw [ent_obj ho]))
    rw [hcl] at h1
    exact h1
  · intro U hU hW
    exact ⟨rfl, by rw [hU]; exact hG.at hS hW, by rw [hU]; exact hP⟩
  · refine lv_room ?_
    rw [List.map_map]
    have : ((fun v => v.category) ∘ cv G) = (fun v : Value => v.category) := by funext v; exact cv_cat
    rw [this]; exact h8
  · exact ⟨hM, by simp only [rmd]; omega⟩
theorem r_callS {i : Nat} {y : MT} {As rest : List Value} {dy My n : Nat} {Qy : OQ} (hd : decode j.2.1 pc = .ok (.invokestatic i, 3)) (hw : Cond.methodLink j.1.cls i y.1 ∈ W0) (hc : CLS y n) (hn : As.length = n) (hct : CT y dy My As S Qy) (hdp : dy + 1 ≤ d) (hM : u + My ≤ M) (hst : st = As.reverse ++ rest) (h8 : (rest.map fun v => v.category).sum ≤ 8)
    (k : ∀ v S', Qy (.inl v) S' → WP [] j d M Q (pc + 3) L (v.toList ++ rest) S' (u + My)) (kx : ∀ E S', Qy (.inr E) S' → Q (.inr E) S') : WP [] j d M Q pc L st S u := by
  intro G l p e s m args below meth c C H locs ls hP hS hl
  obtain ⟨hx, hb, hml, hr, hlk, hown, hts, hG, hst9, htab⟩ := id C
  refine call_core (a := (As.map (cv G)).toArray) rfl C hS hl hM ?_ k kx
  refine vx_runS (As := As.map (cv G)) (rest := rest.map (cv G)) ⟨hx, hb, hml, hown, hts⟩ (hct G l hst9) ⟨callB_W0 hts hc.1 hw hdp, hts _ hc.2⟩ ⟨blind, ?_⟩ rfl (by rw [List.length_map]; exact hn) hl.1 (by rw [hst]; simp) ?_ hd ?_
  · intro U hU hW
    exact ⟨rfl, by rw [hU]; exact hG.at hS hW, by rw [hU]; exact hP⟩
  · refine lv_room ?_
    rw [List.map_map]
    have : ((fun v => v.category) ∘ cv G) = (fun v : Value => v.category) := by funext v; exact cv_cat
    rw [this]; exact h8
  · exact ⟨hM, by simp only [rmd]; omega⟩
/-- a contract that never throws, as the kit's own -/
theorem ct_met {y : MT} {dy My : Nat} {av : List Value} {Qy : OQ} (h : CT y dy My av S Qy) (hno : ∀ E S', ¬ Qy (.inr E) S') {G : Geo} {l : Launch} (hl : l.stackTraces = false) : Met l y.1 (wsj y) (rmd dy My) (va_Pc (av.map (cv G)) (fun U => GF G U U.heap ∧ PW G S U.heap)) (mQ G Qy) My (6 * My) (gA G) := by
  intro p e ha hc hk s m args below hf happ hP hK
  obtain ⟨n, o, h1, h2, h3, h4⟩ := h G l hl p e ha hc hk s m args below hf happ hP hK
  refine ⟨n, o, h1, h2, h3, ?_⟩
  rcases h4 with h5 | ⟨q, e1, E, ce, L9, ⟨⟨S', e2, e3⟩, e4⟩, e5⟩
  · exact h5
  · exact (hno _ _ e2).elim
/-- a nest mate's static method that never throws -/
theorem r_callSN {i : Nat} {y : MT} {As rest : List Value} {dy My n : Nat} {Qy : OQ} {host : String} (hd : decode j.2.1 pc = .ok (.invokestatic i, 3)) (hw : (j.1.cls, i, y.1, host) ∈ nestW) (hc : CLS y n) (hn : As.length = n) (hct : CT y dy My As S Qy) (hdp : dy + 1 ≤ d) (hM : u + My ≤ M) (hst : st = As.reverse ++ rest) (h8 : (rest.map fun v => v.category).sum ≤ 8)
    (hno : ∀ E S', ¬ Qy (.inr E) S') (k : ∀ v S', Qy (.inl v) S' → WP [] j d M Q (pc + 3) L (v.toList ++ rest) S' (u + My)) : WP [] j d M Q pc L st S u := by
  intro G l p e s m args below meth c C H locs ls hP hS hl
  obtain ⟨hx, hb, hml, hr, hlk, hown, hts, hG, hst9, htab⟩ := id C
  have hlink : va_Nw (.methodLinkNest j.1.cls i y.1 host) s := hG.2.2.2.2.2.2.1 _ hw
  have hrun : va_Run p l e (rmd d M) s m args below meth c H locs u (6 * u) My (6 * My) (F0 m pc ls (st.map (cv G))) (rest.map (cv G)) (mQ G Qy (As.map (cv G)).toArray) (gA G) := by
    refine va_runSN (As := As.map (cv G)) (rest := rest.map (cv G)) (host := host) ⟨hx, hb, hml, hown, hts⟩ (ct_met hct hno hst9) ⟨va_cnB n hts (good_W0 hc.1.2.1) rfl rfl rfl hlink (hts _ hc.1.1) hc.1.2.2.1 ⟨hdp, by have := hc.1.2.2.2; simp only [rmd]; omega⟩, hts _ hc.2, trivial⟩ ⟨blind, ?_⟩ rfl (by rw [List.length_map]; exact hn) hl.1 (by rw [hst]; simp) ?_ hd ?_
    · intro U hU hW
      exact ⟨rfl, by rw [hU]; exact hG.at hS hW, by rw [hU]; exact hP⟩
    · refine lv_room ?_
      rw [List.map_map]
      have : ((fun v => v.category) ∘ cv G) = (fun v : Value => v.category) := by funext v; exact cv_cat
      rw [this]; exact h8
    · exact ⟨hM, by simp only [rmd]; omega⟩
  refine call_core (a := (As.map (cv G)).toArray) (Qy := Qy) rfl C hS hl hM ?_ k (fun E S' h => (hno E S' h).elim)
  intro T hT X
  obtain ⟨v, st₀, t, T', L9, h⟩ := hrun T hT X
  exact Or.inl ⟨v, st₀, t, T', L9, h⟩
end CallRules
