/-! ===== methods with handlers ===== -/
def wsH (hh : List (Nat × Nat × Nat × Nat)) (j : MT) : List Cond := .codeWith j.1 j.2.1 j.2.2.1 j.2.2.2 hh :: W0
def CTW (hh : List (Nat × Nat × Nat × Nat)) (j : MT) (d M : Nat) (av : List Value) (S : PS) (Q : OQ) : Prop :=
  ∀ (G : Geo) (l : Launch), l.stackTraces = false → vx_Met l j.1 (wsH hh j) (rmd d M) (va_Pc (av.map (cv G)) (fun U => GF G U U.heap ∧ PW G S U.heap)) (mQ G Q) (mX G Q) M (6 * M) (gA G)
theorem ctw_of {hh : List (Nat × Nat × Nat × Nat)} {j : MT} {d M : Nat} {av : List Value} {S : PS} {Q : OQ} (L0 : List (Option Value)) (hy : plainName j.1.cls = true) (hl : ∀ G, lva G 0 L0 = lv_args 0 (av.map (cv G))) (hn : ∀ G, (lg_sl (av.map (cv G))).length ≤ j.2.2.1) (h : WP hh j d M Q 0 L0 [] S 0) : CTW hh j d M av S Q := by
  intro G l hst
  refine vx_ofWH (cc := j.2.1) (maxL := j.2.2.1) (ret := j.2.2.2) (hh := hh) hy rfl ?_
  intro p e s m args below meth c s₁ B hml hv
  obtain ⟨rfl, hG, hP⟩ := hv
  have hts : ∀ w ∈ W0, w.before (av.map (cv G)).toArray s = true := fun w hw => atoms_spec (ws := wsH hh j) B.pre w (List.mem_cons_of_mem _ hw)
  have hle := lv_entry (av.map (cv G)) (n := j.2.2.1) (hn G)
  rw [lg_entry_eq]
  rw [← hl] at hle
  have htab : c.exceptionTable.toList = tableOf hh := vx_table (x := j.1) B (atoms_spec (ws := wsH hh j) B.pre _ List.mem_cons_self)
  exact h G l p e s m _ below meth c ⟨B.exec, B.bytes, hml, B.returns, B.notSynchronized, findClass_of_methodNamed B.named, hts, hG, hst, htab⟩ s.heap [] _ hP va_S.rf hle
section HR
variable {tb : List (Nat × Nat × Nat × Nat)} {j : MT} {d M pc u : Nat} {Q : OQ} {L : List (Option Value)} {st : List Value} {S : PS}
theorem call_coreH {G : Geo} {l : Launch} {p : Program} {e : Env} {s : State} {m : MethodId} {args : Array Value} {below : List Frame} {meth : Method} {c : Code} {H : Heap} {locs : List Loc} {ls : Array Slot} {rest : List Value} {My : Nat} {Qy : OQ} {a : Array Value} {g : JFrame} (hg : g = F0 m pc ls (st.map (cv G)))
    (C : CX tb G l j p s m args meth c) (hS : va_S (gA G) s.heap H locs) (hl : lv_has ls j.2.2.1 (lva G 0 L))
    (hr : vx_Run p l e (rmd d M) s m args below meth c H locs u (6 * u) My (6 * My) g (rest.map (cv G)) (mQ G Qy a) (mX G Qy) (gA G))
    (k : ∀ v S', Qy (.inl v) S' → WP tb j d M Q (pc + 3) L (v.toList ++ rest) S' (u + My))
    (kx : ∀ (E : String) (S' : PS), Qy (.inr E) S' → ∀ (H1 : Heap) (locs1 : List Loc) (q : Addr) (ce : Cell), PW G S' H1 → va_S (gA G) s.heap H1 locs1 → H1[q]? = some ce → ce.vm = .none → s.vm.findClass E = some ce.cls → vx_W p l e (rmd d M) s m args below meth c H1 locs1 (u + My) (6 * (u + My)) (vx_MQ below (mQ G Q) (mX G Q) args s M (6 * M) (gA G)) (F0 m pc ls (rest.map (cv G))) q) :
    W p l e (rmd d M) s m args below meth c H locs u (6 * u) (vx_MQ below (mQ G Q) (mX G Q) args s M (6 * M) (gA G)) g := by
  subst hg
  intro T hT X
  rcases hr T hT X with ⟨v, st₀, t, T', L9, h0, X', hL, e1, e2, ⟨⟨w, S', hv, hq, hb⟩, hF⟩, hst⟩ | ⟨q, st₀, t, T', L9, E, ce, h0, X', hL, e1, e2, ⟨⟨S', hq, hb⟩, hF⟩, hce, hcv, hcl, hst⟩
  · cases hv
    obtain ⟨k1, k2, k3⟩ := vx_keep h0 e1 hS (fun q _ h => h) (fun q h => h) hL hF
    have X2 : Stand p l e (rmd d M) s m args below meth c T' (locs ++ L9) (u + My) (6 * (u + My)) := by rw [Nat.mul_add]; exact X'
    obtain ⟨t2, a1, b1⟩ := k w S' hq G l p e s m args below meth c C T'.heap (locs ++ L9) ls (by rw [e1]; exact hb) k3 hl T' rfl X2
    refine ⟨t2, hst t2 ?_, b1⟩
    have : (Option.map (cv G) w).toList ++ rest.map (cv G) = (w.toList ++ rest).map (cv G) := by cases w <;> simp
    rw [this]
    exact a1
  · obtain ⟨k1, k2, k3⟩ := vx_keep h0 e1 hS (fun q _ h => h) (fun q h => h) hL hF
    have X2 : Stand p l e (rmd d M) s m args below meth c T' (locs ++ L9) (u + My) (6 * (u + My)) := by rw [Nat.mul_add]; exact X'
    obtain ⟨t2, a1, b1⟩ := kx E S' hq T'.heap (locs ++ L9) q ce (by rw [e1]; exact hb) k3 (by rw [e1]; exact hce) hcv hcl T' rfl X2
    exact ⟨t2, hst.trans a1, b1⟩
/-- to the handler x, whose first instruction stores the exception in a local that is then forgotten -/
theorem catch_to {G : Geo} {l : Launch} {p : Program} {e : Env} {s : State} {m : MethodId} {args : Array Value} {below : List Frame} {meth : Method} {c : Code} {H : Heap} {locs : List Loc} {ls : Array Slot} {rest : List Value} {E nm : String} {ce : Cell} {q : Addr} {i : Nat} {L' : List (Option Value)}
    (C : CX tb G l j p s m args meth c) (pre : List ExceptionTableEntry) (x : ExceptionTableEntry) (suf : List ExceptionTableEntry) (hsplit : tableOf tb = pre ++ x :: suf) (hpass : ∀ z ∈ pre, covers z pc = false ∨ (z.catchType ≠ 0 ∧ ∃ nm : String, (Cond.classLink j.1.cls z.catchType nm).before args s = true ∧ va_Nc E nm s)) (hx : covers x pc = true) (h0 : x.catchType ≠ 0)
    (hlink : Cond.classLink j.1.cls x.catchType nm ∈ W0) (hcast : (Cond.castable E nm).before args s = true) (hcell : H[q]? = some ce) (hv : ce.vm = .none) (hcl : s.vm.findClass E = some ce.cls) (hP : PW G S H) (hS : va_S (gA G) s.heap H locs) (hl : lv_has ls j.2.2.1 (lva G 0 L))
    {len : Nat} (hd : (∃ k9 : Fin 4, (k9 : Nat) = i ∧ len = 1 ∧ decode j.2.1 x.handlerPc = .ok (.astore_n k9, 1)) ∨ (len = 2 ∧ decode j.2.1 x.handlerPc = .ok (.astore i, 2))) (hn : i < j.2.2.1) (hc : lcl L i = true) (hL : L.set i none = L')
    (k : WP tb j d M Q (x.handlerPc + len) L' [] S u) : vx_W p l e (rmd d M) s m args below meth c H locs u (6 * u) (vx_MQ below (mQ G Q) (mX G Q) args s M (6 * M) (gA G)) (F0 m pc ls rest) q := by
  obtain ⟨hx1, hb, hml, hr, hlk, hown, hts, hG, hst9, htab⟩ := id C
  refine vx_catch hown pre x suf (htab.trans hsplit) hpass hx h0 (hts _ hlink) hcast hcell hv hcl ?_
  have drop : ∀ ls2 : Array Slot, lv_has ls2 j.2.2.1 ((i, Value.ref q) :: (lva G 0 L).filter (fun q => !(q.1 == i) && !(q.1 + 1 == i && q.2.category == 2))) → lv_has ls2 j.2.2.1 (lva G 0 L') := by
    intro ls2 h2
    refine ⟨h2.1, h2.2.1, fun z hz => h2.2.2 z (List.mem_cons_of_mem _ ?_)⟩
    obtain ⟨k0, w0, hk0, rfl⟩ := (lva_mem L' 0).mp hz
    rw [← hL] at hk0
    have hne : k0 ≠ i := by
      intro e0
      subst e0
      by_cases hlt : k0 < L.length
      · rw [List.getElem?_set_self hlt] at hk0; cases hk0
      · rw [List.getElem?_eq_none_iff.mpr (by simp; omega)] at hk0; cases hk0
    rw [List.getElem?_set_ne (Ne.symm hne)] at hk0
    refine List.mem_filter.mpr ⟨(lva_mem L 0).mpr ⟨k0, w0, hk0, rfl⟩, ?_⟩
    rw [Nat.zero_add]
    have h1 : (k0 == i) = false := by simpa using hne
    simp only [h1, Bool.not_false, Bool.true_and]
    by_cases hk2 : k0 + 1 = i
    · subst hk2
      simp only [lcl, hk0] at hc
      simp only [beq_self_eq_true, Bool.true_and, cv_cat]
      have : w0.category = 1 := by simpa using hc
      simp [this]
    · have h2 : (k0 + 1 == i) = false := by simpa using hk2
      simp [h2]
  rcases hd with ⟨k9, hk9, rfl, hd⟩ | ⟨rfl, hd⟩
  · exact lv_astore_n hx1 hb hd hk9 hl hn rfl (fun ls2 hl2 => k G l p e s m args below meth c C H locs ls2 hP hS (drop ls2 hl2))
  · exact lv_astore hx1 hb hd hl hn rfl (fun ls2 hl2 => k G l p e s m args below meth c C H locs ls2 hP hS (drop ls2 hl2))
/-- a call of a method of the class (object 0) that may throw, its throws caught here: NoSuchElementException at hN, IllegalArgumentException at hI (no row: 0) -/
theorem r_callH {i n dy My sl len e0 hN hI : Nat} {y : MT} {As rest : List Value} {r : Int32 ⊕ String} {T : PS} {L' : List (Option Value)} (hj : j.1.cls = "DripCupsLaw") (hd : decode j.2.1 pc = .ok (.invokevirtual i, 3)) (hw : Cond.methodLink j.1.cls i y.1 ∈ W0) (hc : CLV y n) (hn : As.length = n) (hcl : y.1.cls = "DripCups") (hct : CT y dy My (.ref 0 :: As) S (qE r T)) (hdp : dy + 1 ≤ d) (hM : u + My ≤ M) (hst : st = As.reverse ++ .ref 0 :: rest) (h8 : (rest.map fun v => v.category).sum ≤ 8)
    (htb : (tb = [(0, e0, hN, 18)] ∧ hI = 0) ∨ (tb = [(0, e0, hI, 13)] ∧ hN = 0) ∨ tb = [(0, e0, hN, 18), (0, e0, hI, 13)]) (hpc : pc < e0)
    (hdN : hN ≠ 0 → (∃ k9 : Fin 4, (k9 : Nat) = sl ∧ len = 1 ∧ decode j.2.1 hN = .ok (.astore_n k9, 1)) ∨ (len = 2 ∧ decode j.2.1 hN = .ok (.astore sl, 2))) (hdI : hI ≠ 0 → (∃ k9 : Fin 4, (k9 : Nat) = sl ∧ len = 1 ∧ decode j.2.1 hI = .ok (.astore_n k9, 1)) ∨ (len = 2 ∧ decode j.2.1 hI = .ok (.astore sl, 2))) (hsl : sl < j.2.2.1) (hlc : lcl L sl = true) (hL : L.set sl none = L')
    (k : ∀ v, r = .inl v → WP tb j d M Q (pc + 3) L (.int v :: rest) T (u + My))
    (kx : ∀ E, r = .inr E → (E = nNSE ∧ hN ≠ 0 ∧ WP tb j d M Q (hN + len) L' [] T (u + My)) ∨ (E = nIAE ∧ hI ≠ 0 ∧ WP tb j d M Q (hI + len) L' [] T (u + My))) : WP tb j d M Q pc L st S u := by
  intro G l p e s m args below meth c C H locs ls hP hS hl
  obtain ⟨hx, hb, hml, hr, hlk, hown, hts, hG, hst9, htab⟩ := id C
  refine call_coreH (rest := rest) (a := (Value.ref (G.1 0) :: As.map (cv G)).toArray) (My := My) (Qy := qE r T) rfl C hS hl ?_ (fun v S' h => ?_) (fun E S' h H1 locs1 q ce hP1 hS1 hce hcv hclE => ?_)
  · refine vx_runV (b := G.1 0) (As := As.map (cv G)) (rest := rest.map (cv G)) (C := y.1.cls) ⟨hx, hb, hml, hown, hts⟩ (hct G l hst9) ⟨callB_W0 hts hc.1 hw hdp, hts _ hc.2.1, hts _ hc.2.2⟩ ⟨blind, ?_, ?_⟩ rfl (by rw [List.length_map]; exact hn) hl.1 (by rw [hst]; simp [cv]) ?_ hd ?_
    · have h1 := va_recv hG.1 hP.1 (q0 := 0) (ci := 11) vc11 (wl_get nC0 |>.trans (by rw [ent_obj ck0]))
      rw [hcl]
      exact h1
    · intro U hU hW
      exact ⟨rfl, by rw [hU]; exact hG.at hS hW, by rw [hU]; exact hP⟩
    · refine lv_room ?_
      rw [List.map_map]
      have : ((fun v => v.category) ∘ cv G) = (fun v : Value => v.category) := by funext v; exact cv_cat
      rw [this]; exact h8
    · exact ⟨hM, by simp only [rmd]; omega⟩
  · obtain ⟨h1, h2⟩ := h
    subst h2
    cases r with
    | inl x => cases h1; exact k x rfl
    | inr E => cases h1
  · obtain ⟨h1, h2⟩ := h
    subst h2
    cases r with
    | inl x => cases h1
    | inr E2 =>
      cases h1
      rcases kx _ rfl with ⟨rfl, hN0, hk⟩ | ⟨rfl, hI0, hk⟩
      · have hcast := va_Nw.use (A := args) rfl (hG.2.2.2.2.2.2.2.2.1 (nNSE, nNSE) (by decide))
        rcases htb with ⟨rfl, -⟩ | ⟨-, h9⟩ | rfl
        · exact catch_to (i := sl) C [] ⟨0, e0, hN, 18⟩ [] rfl (fun z hz => by cases hz) (by simp [covers]; omega) (by simp) (by rw [hj]; exact (mt4 (List.mem_of_getElem? (i := 100) rfl) rfl)) hcast hce hcv hclE hP1 hS1 hl (hdN hN0) hsl hlc hL hk
        · exact absurd h9 hN0
        · exact catch_to (i := sl) C [] ⟨0, e0, hN, 18⟩ [⟨0, e0, hI, 13⟩] rfl (fun z hz => by cases hz) (by simp [covers]; omega) (by simp) (by rw [hj]; exact (mt4 (List.mem_of_getElem? (i := 100) rfl) rfl)) hcast hce hcv hclE hP1 hS1 hl (hdN hN0) hsl hlc hL hk
      · have hcast := va_Nw.use (A := args) rfl (hG.2.2.2.2.2.2.2.2.1 (nIAE, nIAE) (by decide))
        rcases htb with ⟨-, h9⟩ | ⟨rfl, -⟩ | rfl
        · exact absurd h9 hI0
        · exact catch_to (i := sl) C [] ⟨0, e0, hI, 13⟩ [] rfl (fun z hz => by cases hz) (by simp [covers]; omega) (by simp) (by rw [hj]; exact (mt3 (List.mem_of_getElem? (i := 77) rfl) rfl)) hcast hce hcv hclE hP1 hS1 hl (hdI hI0) hsl hlc hL hk
        · exact catch_to (i := sl) C [⟨0, e0, hN, 18⟩] ⟨0, e0, hI, 13⟩ [] rfl (fun z hz => by
            rw [List.mem_singleton.mp hz]
            exact Or.inr ⟨by simp, nNSE, by rw [hj]; exact hts _ (mt4 (List.mem_of_getElem? (i := 100) rfl) rfl), hG.2.2.2.2.2.2.2.2.2.2.2.2.2.2⟩) (by simp [covers]; omega) (by simp) (by rw [hj]; exact (mt3 (List.mem_of_getElem? (i := 77) rfl) rfl)) hcast hce hcv hclE hP1 hS1 hl (hdI hI0) hsl hlc hL hk
end HR
def bH {β : Type} (m : Option ((Int32 ⊕ String) × PS)) (f : Int32 → PS → Option β) (fN fI : PS → Option β) : Option β := match m with
  | some (.inl x, S) => f x S
  | some (.inr E, S) => if E = nNSE then fN S else if E = nIAE then fI S else none
  | none => none
theorem bH_e {β : Type} {m : Option ((Int32 ⊕ String) × PS)} {f : Int32 → PS → Option β} {fN fI : PS → Option β} {o : β} (h : bH m f fN fI = some o) : ∃ r T, m = some (r, T) ∧ (∀ x, r = .inl x → f x T = some o) ∧ ∀ E, r = .inr E → (E = nNSE ∧ fN T = some o) ∨ (E = nIAE ∧ fI T = some o) := by
  cases m with
  | none => cases h
  | some q =>
    obtain ⟨r, T⟩ := q
    refine ⟨r, T, rfl, ?_, ?_⟩
    · intro x hr; subst hr; exact h
    · intro E hr
      subst hr
      have h2 : (if E = nNSE then fN T else if E = nIAE then fI T else none) = some o := h
      by_cases hE : E = nNSE
      · rw [if_pos hE] at h2; exact Or.inl ⟨hE, h2⟩
      · rw [if_neg hE] at h2
        by_cases hE2 : E = nIAE
        · rw [if_pos hE2] at h2; exact Or.inr ⟨hE2, h2⟩
        · rw [if_neg hE2] at h2; cases h2
