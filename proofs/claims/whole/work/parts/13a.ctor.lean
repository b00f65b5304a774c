/-! ===== constructors: worlds that grow ===== -/
def kT (ty : Nat → ClassId) : List (ClassId × FieldType) := [(ty 1, .int), (ty 2, .byte), (ty 3, .boolean), (ty 4, .long)]
def nestI : List (String × Nat × MethodName × String) := [("DripCups", 9, ⟨"DripCups$Reader", "<init>", "()V"⟩, "DripCups"), ("DripCups$Reader", 11, ⟨"DripCups$Tokens", "<init>", "()V"⟩, "DripCups"), ("DripCups$Reader", 20, ⟨"DripCups$Cave", "<init>", "()V"⟩, "DripCups"), ("DripCups$Cave", 24, ⟨"DripCups$Rule", "<init>", "()V"⟩, "DripCups"), ("DripCups", 18, ⟨"DripCups$Minutes", "<init>", "()V"⟩, "DripCups"), ("DripCups$Minutes", 18, ⟨"DripCups$Acts", "<init>", "()V"⟩, "DripCups"), ("DripCups$Minutes", 25, ⟨"DripCups$Heard", "<init>", "()V"⟩, "DripCups"), ("DripCups", 28, ⟨"DripCups$Drip", "<init>", "()V"⟩, "DripCups"), ("DripCups$Drip", 27, ⟨"DripCups$Cave", "<init>", "()V"⟩, "DripCups"), ("DripCups", 35, ⟨"DripCups$Floors", "<init>", "()V"⟩, "DripCups"), ("DripCups", 42, ⟨"DripCups$Suspicion", "<init>", "()V"⟩, "DripCups")]
def KG (D : va_G) (ty : Nat → ClassId) (base : Nat) (U : State) : Prop := va_K D vwCl (kT ty) U ∧ base ≤ U.heap.size ∧ ∀ q ∈ nestI, va_Nw (.methodLinkNest q.1 q.2.1 q.2.2.1 q.2.2.2) U
abbrev kA (base : Nat) : Nat → Prop := fun q => base ≤ q
def rmk (d mc ms : Nat) : Room := { frames := d, cells := mc, slots := ms, locals := 64 * d }
def kQ (D : va_G) (base : Nat) (Post : va_W → Prop) : Array Value → State → Outcome → State → Prop := fun _ st oc t => (oc = .returned none ∧ ∃ W2, Post W2 ∧ va_P D vwCl W2 t.heap ∧ va_D (kA base) W2) ∧ va_F (kA base) st t
abbrev kN : String → State → State → Prop := fun _ _ _ => False
def KC (j : MT) (d mc ms : Nat) (D : va_G) (ty : Nat → ClassId) (base : Nat) (av : List Value) (W1 : va_W) (Post : va_W → Prop) : Prop :=
  ∀ l : Launch, vx_Met l j.1 (wsj j) (rmk d mc ms) (va_Pc av (fun U => KG D ty base U ∧ va_P D vwCl W1 U.heap ∧ va_D (kA base) W1)) (kQ D base Post) kN mc ms (kA base)
def KX (D : va_G) (ty : Nat → ClassId) (base : Nat) (j : MT) (p : Program) (s : State) (m : MethodId) (args : Array Value) (meth : Method) (c : Code) : Prop :=
  p.tables.exec = Jvm.exec ∧ c.code = j.2.1 ∧ c.maxLocals = j.2.2.1 ∧ meth.sig.returnType = j.2.2.2 ∧ meth.locks = false ∧ s.vm.findClass j.1.cls = some m.cls ∧ (∀ w ∈ W0, w.before args s = true) ∧ KG D ty base s ∧ meth.name = j.1.name
def KW (j : MT) (d mc ms : Nat) (D : va_G) (ty : Nat → ClassId) (base : Nat) (Post : va_W → Prop) (pc : Nat) (L : List (Nat × Value)) (st : List Value) (W1 : va_W) (u v : Nat) : Prop :=
  ∀ (l : Launch) (p : Program) (e : Env) (s : State) (m : MethodId) (args : Array Value) (below : List Frame) (meth : Method) (c : Code), KX D ty base j p s m args meth c → ∀ (H : Heap) (locs : List Loc) (ls : Array Slot), va_P D vwCl W1 H → va_D (kA base) W1 → va_S (kA base) s.heap H locs → lv_has ls j.2.2.1 L →
    W p l e (rmk d mc ms) s m args below meth c H locs u v (vx_MQ below (kQ D base Post) kN args s mc ms (kA base)) (F0 m pc ls st)
theorem KG.same {D : va_G} {ty : Nat → ClassId} {base : Nat} {u U : State} (hv : u.vm = U.vm) (hh : u.heap.size ≤ U.heap.size) (h : KG D ty base u) : KG D ty base U := by
  have hal : u.vm.Alike U.vm := by rw [← hv]; exact Vm.Alike.refl u.vm
  exact ⟨va_K.moved hal h.1, Nat.le_trans h.2.1 hh, fun q hq => va_Nw.same rfl hv (h.2.2 q hq)⟩
theorem KG.at {D : va_G} {ty : Nat → ClassId} {base : Nat} {s U : State} {H : Heap} {locs : List Loc} (h : KG D ty base s) (hS : va_S (kA base) s.heap H locs) (hU : U.heap = H) (hW : s.WarmedH U.vm) : KG D ty base U :=
  ⟨va_K.moved hW.alike h.1, by rw [hU]; exact Nat.le_trans h.2.1 hS.1, fun q hq => va_Nw.warmM hW (h.2.2 q hq)⟩
theorem kblind {D : va_G} {ty : Nat → ClassId} {base : Nat} {av : List Value} {W1 : va_W} : FrameBlind (va_Pc av (fun U => KG D ty base U ∧ va_P D vwCl W1 U.heap ∧ va_D (kA base) W1)) := by
  intro a U g mk h
  obtain ⟨h1, h2, h3⟩ := h
  exact ⟨h1, KG.same (u := U) (U := U.calling g mk a) rfl (Nat.le_refl _) h2, h3⟩
theorem kc_of {j : MT} {d mc ms : Nat} {D : va_G} {ty : Nat → ClassId} {base : Nat} {av : List Value} {W1 : va_W} {Post : va_W → Prop} (hy : plainName j.1.cls = true) (hn : (lg_sl av).length ≤ j.2.2.1) (h : KW j d mc ms D ty base Post 0 (lv_args 0 av) [] W1 0 0) : KC j d mc ms D ty base av W1 Post := by
  intro l
  refine vx_ofW (cc := j.2.1) (maxL := j.2.2.1) (ret := j.2.2.2) hy rfl ?_
  intro p e s m args below meth c s₁ B hml ht hv
  obtain ⟨rfl, hG, hP, hD⟩ := hv
  have hts : ∀ w ∈ W0, w.before av.toArray s = true := fun w hw => atoms_spec (ws := wsj j) B.pre w (List.mem_cons_of_mem _ hw)
  have hle := lv_entry av (n := j.2.2.1) hn
  rw [lg_entry_eq]
  exact h l p e s m _ below meth c ⟨B.exec, B.bytes, hml, B.returns, B.notSynchronized, findClass_of_methodNamed B.named, hts, hG, (name_of_methodNamed B.named B.method).1⟩ s.heap [] _ hP hD va_S.rf hle
theorem kc_met {j : MT} {d mc ms : Nat} {D : va_G} {ty : Nat → ClassId} {base : Nat} {av : List Value} {W1 : va_W} {Post : va_W → Prop} (h : KC j d mc ms D ty base av W1 Post) (l : Launch) : Met l j.1 (wsj j) (rmk d mc ms) (va_Pc av (fun U => KG D ty base U ∧ va_P D vwCl W1 U.heap ∧ va_D (kA base) W1)) (kQ D base Post) mc ms (kA base) := by
  intro p e ha hc hk s m args below hf happ hP hK
  obtain ⟨n, o, h1, h2, h3, h4⟩ := h l p e ha hc hk s m args below hf happ hP hK
  refine ⟨n, o, h1, h2, h3, ?_⟩
  rcases h4 with h5 | ⟨q, e1, E, ce, L9, e2, e5⟩
  · exact h5
  · exact e2.elim
theorem wObjI : Cond.instanceMethod objectInit ∈ W0 := (mt1 (List.mem_of_getElem? (i := 34) rfl) rfl)
theorem wObjC : Cond.code objectInit ⟨#[0xb1]⟩ 1 none ∈ W0 := (mt1 (List.mem_of_getElem? (i := 35) rfl) rfl)
section KR
variable {j : MT} {d mc ms : Nat} {D : va_G} {ty : Nat → ClassId} {base : Nat} {Post : va_W → Prop} {pc u v : Nat} {L : List (Nat × Value)} {st : List Value} {W1 : va_W}
theorem k_aload {x : Nat} (hd : decode j.2.1 pc = .ok (.aload_n 0, 1)) (h0 : (0, Value.ref x) ∈ L) (k : KW j d mc ms D ty base Post (pc + 1) L (.ref x :: st) W1 u v) : KW j d mc ms D ty base Post pc L st W1 u v := by
  intro l p e s m args below meth c C H locs ls hP hD hS hl
  exact lv_aload_n C.1 C.2.1 hd rfl (hl.2.2 _ h0) (k l p e s m args below meth c C H locs ls hP hD hS hl)
theorem k_iconst {n : Int} {x : Int32} (hd : decode j.2.1 pc = .ok (.iconst n, 1)) (hv : Int32.ofInt n = x) (k : KW j d mc ms D ty base Post (pc + 1) L (.int x :: st) W1 u v) : KW j d mc ms D ty base Post pc L st W1 u v := by
  intro l p e s m args below meth c C H locs ls hP hD hS hl
  exact lv_iconst C.1 C.2.1 hd hv (k l p e s m args below meth c C H locs ls hP hD hS hl)
theorem k_bipush {n : Int} {x : Int32} (hd : decode j.2.1 pc = .ok (.bipush n, 2)) (hv : (Int8.ofInt n).toInt32 = x) (k : KW j d mc ms D ty base Post (pc + 2) L (.int x :: st) W1 u v) : KW j d mc ms D ty base Post pc L st W1 u v := by
  intro l p e s m args below meth c C H locs ls hP hD hS hl
  exact lv_bipush C.1 C.2.1 hd hv (k l p e s m args below meth c C H locs ls hP hD hS hl)
theorem k_sipush {n : Int} {x : Int32} (hd : decode j.2.1 pc = .ok (.sipush n, 3)) (hv : (Int16.ofInt n).toInt32 = x) (k : KW j d mc ms D ty base Post (pc + 3) L (.int x :: st) W1 u v) : KW j d mc ms D ty base Post pc L st W1 u v := by
  intro l p e s m args below meth c C H locs ls hP hD hS hl
  exact lv_sipush C.1 C.2.1 hd hv (k l p e s m args below meth c C H locs ls hP hD hS hl)
theorem k_dup {x : Nat} (hd : decode j.2.1 pc = .ok (.dup, 1)) (k : KW j d mc ms D ty base Post (pc + 1) L (.ref x :: .ref x :: st) W1 u v) : KW j d mc ms D ty base Post pc L (.ref x :: st) W1 u v := by
  intro l p e s m args below meth c C H locs ls hP hD hS hl
  exact lv_dup C.1 C.2.1 hd rfl (k l p e s m args below meth c C H locs ls hP hD hS hl)
theorem k_obj {x i : Nat} (hd : decode j.2.1 pc = .ok (.invokespecial i, 3)) (hw : Cond.methodLink j.1.cls i objectInit ∈ W0) (hd1 : 1 ≤ d) (h8 : (st.map fun v => v.category).sum ≤ 8) (k : KW j d mc ms D ty base Post (pc + 3) L st W1 u v) : KW j d mc ms D ty base Post pc L (.ref x :: st) W1 u v := by
  intro l p e s m args below meth c C H locs ls hP hD hS hl
  obtain ⟨hx, hb, hml, hr, hlk, hown, hts, hG, hnm⟩ := id C
  refine W.objInit hx hb hown (hts _ hw) (hts _ wObjI) (hts _ wObjC) rfl (by rw [hml]; exact hl.1) rfl hd hd1 (by simp only [rmk]; omega) ?_
  exact W.eq (g2 := F0 m (pc + 3) ls st) rfl (k l p e s m args below meth c C H locs ls hP hD hS hl)
theorem k_newa {atype : ArrayType} {fty : FieldType} {tn : Nat} {n : Int32} {N : Nat} {a0 : vp_A} (hd : decode j.2.1 pc = .ok (.newarray atype, 2)) (hw : Cond.arrayClass (newarray.typeOf atype) ∈ W0) (hty : newarray.typeOf atype = fty) (htk : ∀ z, (kT ty ++ z)[tn]? = some (ty (tn + 1), fty)) (hprim : ∀ (U : State) (cA : ClassId), va_RA U cA fty → U.vm.findClass ("[" ++ fty.toString) = some cA)
    (ha : ∀ cA : ClassId, vp_cell cA a0 = arrV cA N (fun _ => defaultValue fty)) (hn : ¬ n < 0) (hN : n.toNatClampNeg = N) (hbytes : N * componentBytes fty ≤ 536870912) (hu : u + 1 ≤ mc) (hv : v + N ≤ ms)
    (k : ∀ q, KW j d mc ms D ty base Post (pc + 2) L (.ref q :: st) (W1 ++ [(q, .inl (ty (tn + 1), a0))]) (u + 1) (v + N)) : KW j d mc ms D ty base Post pc L (.int n :: st) W1 u v := by
  intro l p e s m args below meth c C H locs ls hP hD hS hl
  obtain ⟨hx, hb, hml, hr, hlk, hown, hts, hG, hnm⟩ := id C
  refine va_newa hx hb (hts _ hw) hty hG.1 hP hD hS (fun q hq => Nat.le_trans hG.2.1 hq) ha hn hN hbytes hu hv hd (fun q cA H1 hK1 hP1 hD1 hS1 => ?_)
  have h1 := hprim _ _ (hK1.2 4 (cA, fty) rfl).2
  have h2 := hprim _ _ (hK1.2 tn _ (htk _)).2
  have e9 : cA = ty (tn + 1) := Option.some.inj (h1.symm.trans h2)
  subst e9
  exact k q l p e s m args below meth c C H1 locs ls hP1 hD1 hS1 hl
/-- the thing at place i of the tail -/
theorem tl_get {α : Type} {ws tl : List α} {i : Nat} {x : α} (h : tl[i]? = some x) : (ws ++ tl)[ws.length + i]? = some x := by
  rw [List.getElem?_append_right (by omega), show ws.length + i - ws.length = i by omega]
  exact h
theorem tl_set {α : Type} {ws tl tl' : List α} {i : Nat} {x : α} (h : tl.set i x = tl') : (ws ++ tl).set (ws.length + i) x = ws ++ tl' := by
  rw [List.set_append_right _ _ (by omega), show ws.length + i - ws.length = i by omega, h]
theorem k_put {ws tl tl' : va_W} {i o a c k9 t : Nat} {fs : List Value} {x : Value} (hd : decode j.2.1 pc = .ok (.putfield i, 3)) (hf : FL j.1.cls i c k9 t) (ht3 : t ≠ 3) (hx : (t = 0 ∧ ∃ z, x = .int z) ∨ (t = 1 ∧ x = .int 0) ∨ (t = 2 ∧ ∃ z, x = .long z) ∨ (t = 4 ∧ ∃ z, x = .ref z)) (he : tl[o]? = some (a, .inr (c, fs))) (hl9 : k9 < fs.length) (hs : tl.set o (a, .inr (c, fs.set k9 x)) = tl')
    (k : KW j d mc ms D ty base Post (pc + 3) L st (ws ++ tl') u v) : KW j d mc ms D ty base Post pc L (x :: .ref a :: st) (ws ++ tl) u v := by
  intro l p e s m args below meth c9 C H locs ls hP hD hS hl
  obtain ⟨hxx, hb, hml, hr, hlk, hown, hts, hG, hnm⟩ := id C
  obtain ⟨C1, T, N, ty0, h1, h2, h3, h4, h5, h6, h7, h8, h9, ha, hb9, hc, hd4⟩ := hf
  have hnf : narrow (ty0 k9) x = x ∧ fits (ty0 k9) x = true := by
    rcases hx with ⟨rfl, z, rfl⟩ | ⟨rfl, rfl⟩ | ⟨rfl, z, rfl⟩ | ⟨rfl, z, rfl⟩
    · rw [ha rfl]; exact ⟨rfl, rfl⟩
    · rw [hb9 rfl]; exact ⟨rfl, rfl⟩
    · rw [hc rfl]; exact ⟨rfl, rfl⟩
    · obtain ⟨n, hn⟩ := hd4 rfl; rw [hn]; exact ⟨rfl, rfl⟩
  refine va_put (ci := c) (ty := ty0 k9) (C := C1) (T := T) (N := N) (fs := fs) hxx hb hts h2 ty0 h7 h8 hown hG.1 hP hD hS (ws.length + o) (tl_get he) h1 k9 h3 (hts _ h6) (fun x hx => by rw [h5] at hx; exact hx) (h9 ht3) (h7 k9 h3) hnf.1 hnf.2 hl9 hd (fun H1 locs1 hP1 hD1 hS1 => ?_)
  rw [tl_set hs] at hP1 hD1
  exact k l p e s m args below meth c9 C H1 locs1 ls hP1 hD1 hS1 hl
theorem k_putF {ws tl tl' : va_W} {i o a c k9 z N : Nat} {fs : List Value} {T : u_T} {ty0 : Nat → FieldType} {fty : FieldType} (hd : decode j.2.1 pc = .ok (.putfield i, 3)) (hq : vwCl[c]? = some (j.1.cls, T, N)) (hin : ∀ w ∈ u_ws j.1.cls T N, w ∈ W0) (hty : ∀ a, a < N → parseFieldDescriptor (T a).2.2.1 = some (ty0 a)) (hnms : ∀ a, a < N → ∀ b, b < N → a ≠ b → (T a).2.1 ≠ (T b).2.1) (hk : k9 < N) (hlink : Cond.fieldLink j.1.cls i j.1.cls (T k9).2.1 (T k9).2.2.1 ∈ W0) (hfin : (T k9).2.2.2 = true) (hdecl : (T k9).1 = j.1.cls) (hini : j.1.name = "<init>") (hft : ty0 k9 = fty) (hnar : narrow fty (.ref z) = .ref z) (hfit : fits fty (.ref z) = true) (he : tl[o]? = some (a, .inr (c, fs))) (hl9 : k9 < fs.length) (hs : tl.set o (a, .inr (c, fs.set k9 (.ref z))) = tl')
    (k : KW j d mc ms D ty base Post (pc + 3) L st (ws ++ tl') u v) : KW j d mc ms D ty base Post pc L (.ref z :: .ref a :: st) (ws ++ tl) u v := by
  intro l p e s m args below meth c9 C H locs ls hP hD hS hl
  obtain ⟨hxx, hb, hml, hr, hlk, hown, hts, hG, hnm⟩ := id C
  refine va_putF (ci := c) (ty := fty) (C := j.1.cls) (T := T) (N := N) (fs := fs) hxx hb hts hin ty0 hty hnms hown hG.1 hP hD hS (ws.length + o) (tl_get he) hq k9 hk (hts _ hlink) (fun x hx => by rw [hdecl] at hx; exact hx) hfin (hnm.trans hini) hdecl (by rw [hty k9 hk, hft]) hnar hfit hl9 hd (fun H1 locs1 hP1 hD1 hS1 => ?_)
  rw [tl_set hs] at hP1 hD1
  exact k l p e s m args below meth c9 C H1 locs1 ls hP1 hD1 hS1 hl
theorem k_get {ws tl : va_W} {i o a c k9 t : Nat} {fs : List Value} {x : Value} (hd : decode j.2.1 pc = .ok (.getfield i, 3)) (hf : FL j.1.cls i c k9 t) (he : tl[o]? = some (a, .inr (c, fs))) (hx : fs[k9]? = some x) (k : KW j d mc ms D ty base Post (pc + 3) L (x :: st) (ws ++ tl) u v) : KW j d mc ms D ty base Post pc L (.ref a :: st) (ws ++ tl) u v := by
  intro l p e s m args below meth c9 C H locs ls hP hD hS hl
  obtain ⟨hxx, hb, hml, hr, hlk, hown, hts, hG, hnm⟩ := id C
  obtain ⟨C1, T, N, ty0, h1, h2, h3, h4, h5, h6, -⟩ := hf
  exact va_get (ci := c) (v := x) (C := C1) (T := T) (N := N) hxx hb hts h2 hown hG.1 hP (ws.length + o) (tl_get he) h1 k9 h3 (hts _ h6) (fun x hx => by rw [h5] at hx; exact hx) hx hd (k l p e s m args below meth c9 C H locs ls hP hD hS hl)
theorem k_new {i c N : Nat} {Cn : String} {T : u_T} {ty0 : Nat → FieldType} {fs : List Value} (hd : decode j.2.1 pc = .ok (.new i, 3)) (hq : vwCl[c]? = some (Cn, T, N)) (hin : ∀ w ∈ u_ws Cn T N, w ∈ W0) (hty : ∀ a, a < N → parseFieldDescriptor (T a).2.2.1 = some (ty0 a)) (hcl : Cond.classLink j.1.cls i Cn ∈ W0) (hinst : Cond.instantiable Cn N ∈ W0) (hini : Cond.initialized Cn ∈ W0) (hfs : ∀ a, a < N → defaultValue (ty0 a) = vp_V fs a) (hu : u + 1 ≤ mc) (hv : v + N ≤ ms)
    (k : ∀ q, KW j d mc ms D ty base Post (pc + 3) L (.ref q :: st) (W1 ++ [(q, .inr (c, fs))]) (u + 1) (v + N)) : KW j d mc ms D ty base Post pc L st W1 u v := by
  intro l p e s m args below meth c9 C H locs ls hP hD hS hl
  obtain ⟨hxx, hb, hml, hr, hlk, hown, hts, hG, hnm⟩ := id C
  exact va_new (ci := c) (fs := fs) (C := Cn) (T := T) (N := N) hxx hb hts hin ty0 hty hown (hts _ hcl) (hts _ hinst) (hts _ hini) hG.1 hP hD hS (fun q hq => Nat.le_trans hG.2.1 hq) hq hfs hu hv hd (fun q H1 hP1 hD1 hS1 => k q l p e s m args below meth c9 C H1 locs ls hP1 hD1 hS1 hl)
theorem k_ret (hd : decode j.2.1 pc = .ok (.return_, 1)) (hr : j.2.2.2 = none) (hu : u ≤ mc) (hv : v ≤ ms) (hq : Post W1) : KW j d mc ms D ty base Post pc L [] W1 u v := by
  intro l p e s m args below meth c C H locs ls hP hD hS hl
  refine W.widen (k := mc) (n := ms) hu hv (vx_ret ?_)
  exact W.vret C.1 C.2.1 (C.2.2.2.1.trans hr) (fun t ht _ => ⟨⟨rfl, W1, hq, by rw [ht]; exact hP, hD⟩, hS.F ht⟩) hS.2.2 hd C.2.2.2.2.1
theorem kcat {rest : List Value} (h8 : (rest.map fun v => v.category).sum ≤ 8) {m : MethodId} {ls : Array Slot} {st : List Value} : 2 * (F0 m pc ls st).monitorRoom + (rest.map fun v => v.category).sum ≤ 8 := lv_room h8
theorem k_core {PostY : va_W → Prop} {mcy msy : Nat} {rest : List Value} {aa : Array Value} {l : Launch} {p : Program} {e : Env} {s : State} {m : MethodId} {args : Array Value} {below : List Frame} {meth : Method} {c : Code} {H : Heap} {locs : List Loc} {ls : Array Slot} (C : KX D ty base j p s m args meth c) (hS : va_S (kA base) s.heap H locs) (hl : lv_has ls j.2.2.1 L)
    (hr : va_Run p l e (rmk d mc ms) s m args below meth c H locs u v mcy msy (F0 m pc ls st) rest (kQ D base PostY aa) (kA base)) (k : ∀ W2, PostY W2 → KW j d mc ms D ty base Post (pc + 3) L rest W2 (u + mcy) (v + msy)) :
    W p l e (rmk d mc ms) s m args below meth c H locs u v (vx_MQ below (kQ D base Post) kN args s mc ms (kA base)) (F0 m pc ls st) := by
  intro T hT X
  obtain ⟨v9, st₀, t, T', L9, h0, X', hL, e1, e2, ⟨⟨hv9, W2, hpost, hP2, hD2⟩, hF⟩, hst⟩ := hr T hT X
  cases hv9
  obtain ⟨k1, k2, k3⟩ := vx_keep h0 e1 hS (fun q _ h => h) (fun q h => h) hL hF
  obtain ⟨t2, a1, b1⟩ := k W2 hpost l p e s m args below meth c C T'.heap (locs ++ L9) ls (by rw [e1]; exact hP2) hD2 k3 hl T' rfl X'
  exact ⟨t2, hst t2 a1, b1⟩
/-- a constructor of another class, by a plain link -/
theorem k_callI {i a dy mcy msy : Nat} {y : MT} {PostY : va_W → Prop} (hd : decode j.2.1 pc = .ok (.invokespecial i, 3)) (hw : Cond.methodLink j.1.cls i y.1 ∈ W0) (hc : CL y 0) (hret : y.2.2.2 = none) (hini : y.1.name = "<init>") (hin : Cond.instanceMethod y.1 ∈ W0) (hct : KC y dy mcy msy D ty base [.ref a] W1 PostY) (hdp : dy + 1 ≤ d) (hu : u + mcy ≤ mc) (hv : v + msy ≤ ms) (h8 : (st.map fun v => v.category).sum ≤ 8)
    (k : ∀ W2, PostY W2 → KW j d mc ms D ty base Post (pc + 3) L st W2 (u + mcy) (v + msy)) : KW j d mc ms D ty base Post pc L (.ref a :: st) W1 u v := by
  intro l p e s m args below meth c C H locs ls hP hD hS hl
  obtain ⟨hx, hb, hml, hr, hlk, hown, hts, hG, hnm⟩ := id C
  obtain ⟨y1, y2, y3, y4⟩ := y
  dsimp only at hret
  subst hret
  have hy9 : y3 ≤ 45 := hc.2.2.2
  refine k_core (aa := (Value.ref a :: ([] : List Value)).toArray) C hS hl ?_ k
  refine va_runI (b := a) (As := []) (rest := st) ⟨hx, hb, hml, hown, hts⟩ (kc_met hct l) ⟨callB_of 0 hts (good_W0 hc.2.1) rfl rfl rfl (hts _ hc.1) (hts _ hw) hc.2.2.1 ⟨hdp, by simp only [rmk]; omega⟩, hini, hts _ hin⟩ ⟨kblind, ?_⟩ rfl rfl hl.1 rfl (lv_room h8) hd ⟨hu, hv⟩
  intro U hU hW
  exact ⟨rfl, hG.at hS hU hW, by rw [hU]; exact hP, hD⟩
/-- a nest mate's constructor -/
theorem k_callIN {i a dy mcy msy : Nat} {y : MT} {host : String} {PostY : va_W → Prop} (hd : decode j.2.1 pc = .ok (.invokespecial i, 3)) (hw : (j.1.cls, i, y.1, host) ∈ nestI) (hc : CL y 0) (hret : y.2.2.2 = none) (hini : y.1.name = "<init>") (hin : Cond.instanceMethod y.1 ∈ W0) (hct : KC y dy mcy msy D ty base [.ref a] W1 PostY) (hdp : dy + 1 ≤ d) (hu : u + mcy ≤ mc) (hv : v + msy ≤ ms) (h8 : (st.map fun v => v.category).sum ≤ 8)
    (k : ∀ W2, PostY W2 → KW j d mc ms D ty base Post (pc + 3) L st W2 (u + mcy) (v + msy)) : KW j d mc ms D ty base Post pc L (.ref a :: st) W1 u v := by
  intro l p e s m args below meth c C H locs ls hP hD hS hl
  obtain ⟨hx, hb, hml, hr, hlk, hown, hts, hG, hnm⟩ := id C
  obtain ⟨y1, y2, y3, y4⟩ := y
  dsimp only at hret
  subst hret
  have hy9 : y3 ≤ 45 := hc.2.2.2
  refine k_core (aa := (Value.ref a :: ([] : List Value)).toArray) C hS hl ?_ k
  refine va_runIN (b := a) (As := []) (rest := st) (host := host) ⟨hx, hb, hml, hown, hts⟩ (kc_met hct l) ⟨va_cnB 0 hts (good_W0 hc.2.1) rfl rfl rfl (hG.2.2 _ hw) (hts _ hc.1) hc.2.2.1 ⟨hdp, by simp only [rmk]; omega⟩, hini, hts _ hin⟩ ⟨kblind, ?_⟩ rfl rfl hl.1 rfl (lv_room h8) hd ⟨hu, hv⟩
  intro U hU hW
  exact ⟨rfl, hG.at hS hU hW, by rw [hU]; exact hP, hD⟩
theorem run_met {PostY : va_W → Prop} {mcy msy : Nat} {rest : List Value} {aa : Array Value} {l : Launch} {p : Program} {e : Env} {R : Room} {s : State} {m : MethodId} {args : Array Value} {below : List Frame} {meth : Method} {c : Code} {H : Heap} {locs : List Loc} {g : JFrame} (hr : vx_Run p l e R s m args below meth c H locs u v mcy msy g rest (kQ D base PostY aa) kN (kA base)) : va_Run p l e R s m args below meth c H locs u v mcy msy g rest (kQ D base PostY aa) (kA base) := by
  intro T hT X
  rcases hr T hT X with h | ⟨q, st₀, t, T', L9, E, ce, h0, X', hL, e1, e2, h9, h10⟩
  · exact h
  · exact h9.elim
theorem k_callV {i a o c9 dy mcy msy : Nat} {y : MT} {q9 : vw_C} {fs : List Value} {PostY : va_W → Prop} {ws tl : va_W} (hd : decode j.2.1 pc = .ok (.invokevirtual i, 3)) (hw : Cond.methodLink j.1.cls i y.1 ∈ W0) (hc : CLV y 0) (he : tl[o]? = some (a, .inr (c9, fs))) (hq9 : vwCl[c9]? = some q9) (hcl : q9.1 = y.1.cls) (hct : KC y dy mcy msy D ty base [.ref a] (ws ++ tl) PostY) (hdp : dy + 1 ≤ d) (hu : u + mcy ≤ mc) (hv : v + msy ≤ ms) (h8 : (st.map fun v => v.category).sum ≤ 8)
    (k : ∀ W2, PostY W2 → KW j d mc ms D ty base Post (pc + 3) L st W2 (u + mcy) (v + msy)) : KW j d mc ms D ty base Post pc L (.ref a :: st) (ws ++ tl) u v := by
  intro l p e s m args below meth c C H locs ls hP hD hS hl
  obtain ⟨hx, hb, hml, hr, hlk, hown, hts, hG, hnm⟩ := id C
  refine k_core (aa := (Value.ref a :: ([] : List Value)).toArray) C hS hl (run_met ?_) k
  refine vx_runV (b := a) (As := []) (rest := st) (C := y.1.cls) ⟨hx, hb, hml, hown, hts⟩ (hct l) ⟨callB_of 0 hts (good_W0 hc.1.2.1) rfl rfl rfl (hts _ hc.1.1) (hts _ hw) hc.1.2.2.1 ⟨hdp, by have := hc.1.2.2.2; simp only [rmk]; omega⟩, hts _ hc.2.1, hts _ hc.2.2⟩ ⟨kblind, ?_, ?_⟩ rfl rfl hl.1 rfl (lv_room h8) hd ⟨hu, hv⟩
  · have h1 := va_recv hG.1 hP (q0 := ws.length + o) (ci := c9) hq9 (tl_get he)
    rw [hcl] at h1
    exact h1
  · intro U hU hW
    exact ⟨rfl, hG.at hS hU hW, by rw [hU]; exact hP, hD⟩
theorem k_callS {i dy mcy msy n : Nat} {y : MT} {As rest : List Value} {PostY : va_W → Prop} (hd : decode j.2.1 pc = .ok (.invokestatic i, 3)) (hw : Cond.methodLink j.1.cls i y.1 ∈ W0) (hc : CLS y n) (hn : As.length = n) (hst : st = As.reverse ++ rest) (hct : KC y dy mcy msy D ty base As W1 PostY) (hdp : dy + 1 ≤ d) (hu : u + mcy ≤ mc) (hv : v + msy ≤ ms) (h8 : (rest.map fun v => v.category).sum ≤ 8)
    (k : ∀ W2, PostY W2 → KW j d mc ms D ty base Post (pc + 3) L rest W2 (u + mcy) (v + msy)) : KW j d mc ms D ty base Post pc L st W1 u v := by
  intro l p e s m args below meth c C H locs ls hP hD hS hl
  obtain ⟨hx, hb, hml, hr, hlk, hown, hts, hG, hnm⟩ := id C
  refine k_core (aa := As.toArray) C hS hl (run_met ?_) k
  refine vx_runS (As := As) (rest := rest) ⟨hx, hb, hml, hown, hts⟩ (hct l) ⟨callB_of n hts (good_W0 hc.1.2.1) rfl rfl rfl (hts _ hc.1.1) (hts _ hw) hc.1.2.2.1 ⟨hdp, by have := hc.1.2.2.2; simp only [rmk]; omega⟩, hts _ hc.2⟩ ⟨kblind, ?_⟩ rfl hn hl.1 hst (lv_room h8) hd ⟨hu, hv⟩
  intro U hU hW
  exact ⟨rfl, hG.at hS hU hW, by rw [hU]; exact hP, hD⟩
end KR
