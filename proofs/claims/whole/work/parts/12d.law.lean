/-! ===== the law's own body ===== -/
abbrev mL_law : MT := (yL_law, cL_law, 7, some .boolean)
theorem wIniL : Cond.initialized "DripCupsLaw" ∈ W0 := (mt1 (List.mem_of_getElem? (i := 0) rfl) rfl)
/-- the script's row and length -/
def SC (xs : Nat → Int32) (len : Nat) (S : PS) : Prop := S.1 1000 = xs ∧ S.2.2 1000 0 = len
def SS (S S' : PS) : Prop := S'.1 1000 = S.1 1000 ∧ S'.2.2 1000 0 = S.2.2 1000 0
/-- the six places of a call, as ints and as places of the script -/
abbrev IB (i : Int32) (len b : Nat) : Prop := IX i len b ∧ IX (i + 1) len (b + 1) ∧ IX (i + 2) len (b + 2) ∧ IX (i + 3) len (b + 3) ∧ IX (i + 4) len (b + 4) ∧ IX (i + 5) len (b + 5)
theorem ct_sv {j : MT} {d M : Nat} {av : List Value} {S : PS} {Q : OQ} (h : CT j d M av S Q) : CT j d M av S (fun o S' => Q o S' ∧ SS S S') := by
  intro G l hst p e ha hc hk s m args below hf happ hP hK
  have hs : SV G S := hP.2.2.2
  obtain ⟨n, o, h1, h2, h3, h4⟩ := h G l hst p e ha hc hk s m args below hf happ hP hK
  refine ⟨n, o, h1, h2, h3, ?_⟩
  rcases h4 with ⟨⟨⟨v, S', e1, e2, e3⟩, e4⟩, e5⟩ | ⟨q, e1, E, ce, L, ⟨⟨S', e2, e3⟩, e4⟩, e5⟩
  · exact Or.inl ⟨⟨⟨v, S', e1, ⟨e2, e3.2.1.trans hs.1.symm, e3.2.2.trans hs.2.symm⟩, e3⟩, e4⟩, e5⟩
  · exact Or.inr ⟨q, e1, E, ce, L, ⟨⟨S', ⟨e2, e3.2.1.trans hs.1.symm, e3.2.2.trans hs.2.symm⟩, e3⟩, e4⟩, e5⟩
theorem ctw_sv {hh : List (Nat × Nat × Nat × Nat)} {j : MT} {d M : Nat} {av : List Value} {S : PS} {Q : OQ} (h : CTW hh j d M av S Q) : CTW hh j d M av S (fun o S' => Q o S' ∧ SS S S') := by
  intro G l hst p e ha hc hk s m args below hf happ hP hK
  have hs : SV G S := hP.2.2.2
  obtain ⟨n, o, h1, h2, h3, h4⟩ := h G l hst p e ha hc hk s m args below hf happ hP hK
  refine ⟨n, o, h1, h2, h3, ?_⟩
  rcases h4 with ⟨⟨⟨v, S', e1, e2, e3⟩, e4⟩, e5⟩ | ⟨q, e1, E, ce, L, ⟨⟨S', e2, e3⟩, e4⟩, e5⟩
  · exact Or.inl ⟨⟨⟨v, S', e1, ⟨e2, e3.2.1.trans hs.1.symm, e3.2.2.trans hs.2.symm⟩, e3⟩, e4⟩, e5⟩
  · exact Or.inr ⟨q, e1, E, ce, L, ⟨⟨S', ⟨e2, e3.2.1.trans hs.1.symm, e3.2.2.trans hs.2.symm⟩, e3⟩, e4⟩, e5⟩
section LR
variable {j : MT} {d M pc u : Nat} {Q : OQ} {L : List (Option Value)} {st : List Value} {S : PS} {xs : Nat → Int32} {len : Nat}
theorem r_sld {i : Int32} {k9 : Nat} (hd : decode j.2.1 pc = .ok (.iaload, 1)) (sc : SC xs len S) (hi : IX i len k9) (k : WP [] j d M Q (pc + 1) L (.int (xs k9) :: st) S u) : WP [] j d M Q pc L (.int i :: .ref 1000 :: st) S u := by
  intro G l p e s m args below meth c C H locs ls hP hS hl
  have h0 := k G l p e s m args below meth c C H locs ls hP hS hl
  have hX := C.2.2.2.2.2.2.2.1.2.2.2.2.2.1
  have e1 : G.2.2.2.2.2.2 = xs := hP.2.1.symm.trans sc.1
  have e2 : G.2.2.2.2.2.1 = len := hP.2.2.symm.trans sc.2
  rw [← e1, ← hi.cl] at h0
  exact va_sld C.1 C.2.1 hX.1 hX.2.1 hX.2.2 hS (by rw [e2]; exact hi.in) hd h0
theorem r_sle {v : Int32} (hd : decode j.2.1 pc = .ok (.arraylength, 1)) (sc : SC xs len S) (hv : Int32.ofNat len = v) (k : WP [] j d M Q (pc + 1) L (.int v :: st) S u) : WP [] j d M Q pc L (.ref 1000 :: st) S u := by
  intro G l p e s m args below meth c C H locs ls hP hS hl
  have h0 := k G l p e s m args below meth c C H locs ls hP hS hl
  have hX := C.2.2.2.2.2.2.2.1.2.2.2.2.2.1
  have e2 : G.2.2.2.2.2.1 = len := hP.2.2.symm.trans sc.2
  rw [← hv, ← e2] at h0
  exact va_slen C.1 C.2.1 hX.1 hX.2.1 hX.2.2 hS hd h0
theorem r_lVI {i o c9 : Nat} {y : MT} {As rest : List Value} {dy n : Nat} {q9 : vw_C} {r : Int32} {T : PS} (sc : SC xs len S) (hd : decode j.2.1 pc = .ok (.invokevirtual i, 3)) (hw : Cond.methodLink j.1.cls i y.1 ∈ W0) (hc : CLV y n) (hn : As.length = n) (ho : obj o c9) (hq9 : vwCl[c9]? = some q9) (hcl : q9.1 = y.1.cls) (hct : CT y dy 0 (.ref o :: As) S (qI r T)) (hdp : dy + 1 ≤ d) (hu : u ≤ M) (hst : st = As.reverse ++ .ref o :: rest) (h8 : (rest.map fun v => v.category).sum ≤ 8)
    (k : SC xs len T → WP [] j d M Q (pc + 3) L (.int r :: rest) T u) : WP [] j d M Q pc L st S u :=
  r_callV hd hw hc hn ho.1 hq9 hcl ho.2 (ct_sv hct) hdp hu hst h8 (fun v S' h => by obtain ⟨⟨h1, h2⟩, h3⟩ := h; cases h1; subst h2; exact k ⟨h3.1.trans sc.1, h3.2.trans sc.2⟩) (fun E S' h => by cases h.1.1)
theorem r_lVV {i o c9 : Nat} {y : MT} {As rest : List Value} {dy n : Nat} {q9 : vw_C} {T : PS} (sc : SC xs len S) (hd : decode j.2.1 pc = .ok (.invokevirtual i, 3)) (hw : Cond.methodLink j.1.cls i y.1 ∈ W0) (hc : CLV y n) (hn : As.length = n) (ho : obj o c9) (hq9 : vwCl[c9]? = some q9) (hcl : q9.1 = y.1.cls) (hct : CT y dy 0 (.ref o :: As) S (qV T)) (hdp : dy + 1 ≤ d) (hu : u ≤ M) (hst : st = As.reverse ++ .ref o :: rest) (h8 : (rest.map fun v => v.category).sum ≤ 8)
    (k : SC xs len T → WP [] j d M Q (pc + 3) L rest T u) : WP [] j d M Q pc L st S u :=
  r_callV hd hw hc hn ho.1 hq9 hcl ho.2 (ct_sv hct) hdp hu hst h8 (fun v S' h => by obtain ⟨⟨h1, h2⟩, h3⟩ := h; cases h1; subst h2; exact k ⟨h3.1.trans sc.1, h3.2.trans sc.2⟩) (fun E S' h => by cases h.1.1)
theorem r_lSW {i n dy My : Nat} {hh : List (Nat × Nat × Nat × Nat)} {y : MT} {As rest : List Value} {r : Int32} {T : PS} (sc : SC xs len S) (hd : decode j.2.1 pc = .ok (.invokestatic i, 3)) (hw : Cond.methodLink j.1.cls i y.1 ∈ W0) (hcw : Cond.codeWith y.1 y.2.1 y.2.2.1 y.2.2.2 hh ∈ W0) (hs : Cond.static y.1 ∈ W0) (hini : Cond.initialized y.1.cls ∈ W0) (hdsc : y.1.cls ≠ "java/lang/invoke/MethodHandle" ∧ y.1.cls ≠ "java/lang/invoke/VarHandle" ∧ (parseMethodDescriptor y.1.desc).map (fun d => d.parameters.length) = some n) (hmx : y.2.2.1 ≤ 45) (hn : As.length = n) (hct : CTW hh y dy My As S (qI r T)) (hdp : dy + 1 ≤ d) (hM : u + My ≤ M) (hst : st = As.reverse ++ rest) (h8 : (rest.map fun v => v.category).sum ≤ 8)
    (k : SC xs len T → WP [] j d M Q (pc + 3) L (.int r :: rest) T (u + My)) : WP [] j d M Q pc L st S u := by
  intro G l p e s m args below meth c C H locs ls hP hS hl
  obtain ⟨hx, hb, hml, hr, hlk, hown, hts, hG, hst9, htab⟩ := id C
  have hT : GoodIn W0 (va_wsS j.1.cls i y.1 (wsH hh y)) := by
    intro w hw9
    have h9 : w ∈ W0 := by
      unfold va_wsS at hw9
      rcases List.mem_append.mp hw9 with h1 | h1
      · simp only [List.mem_cons, List.not_mem_nil, or_false] at h1
        rcases h1 with rfl | rfl | rfl
        · exact hw
        · exact hs
        · exact hini
      · rcases List.mem_cons.mp h1 with rfl | h2
        · exact hcw
        · exact h2
    exact ⟨h9, good_of_word (List.mem_filter.mp h9).2⟩
  refine call_core (a := (As.map (cv G)).toArray) (Qy := fun o S' => qI r T o S' ∧ SS S S') rfl C hS hl hM ?_ (fun v S' h => by obtain ⟨⟨h1, h2⟩, h3⟩ := h; cases h1; subst h2; exact k ⟨h3.1.trans sc.1, h3.2.trans sc.2⟩) (fun E S' h => by cases h.1.1)
  refine vx_runSX (As := As.map (cv G)) (rest := rest.map (cv G)) (hh := hh) ⟨hx, hb, hml, hown, hts⟩ (ctw_sv hct G l hst9) (vx_cwSW n hts hT rfl rfl rfl hdsc ⟨hdp, by simp only [rmd]; omega⟩) ⟨blind, ?_⟩ rfl (by rw [List.length_map]; exact hn) hl.1 (by rw [hst]; simp) ?_ hd ?_
  · intro U hU hW
    exact ⟨rfl, by rw [hU]; exact hG.at hS hW, by rw [hU]; exact hP⟩
  · refine lv_room ?_
    rw [List.map_map]
    have : ((fun v => v.category) ∘ cv G) = (fun v : Value => v.category) := by funext v; exact cv_cat
    rw [this]; exact h8
  · exact ⟨hM, by simp only [rmd]; omega⟩
end LR
def fC0 (N : Nat) (xs : Nat → Int32) (b : Nat) (S : PS) : Option PS :=
  bI (fX11_feed N (xs (b + 1)) (xs (b + 2)) (xs (b + 3)) (xs (b + 4)) (xs (b + 5)) S) fun x1 S2 =>
  bI (fX12_feed N (xs (b + 1)) (xs (b + 2)) (xs (b + 3)) (xs (b + 4)) (xs (b + 5)) S2) fun x4 S5 =>
  (if x1 = x4 then
    some S5
  else
    none)
set_option maxHeartbeats 4000000 in
set_option maxRecDepth 100000 in
theorem okC0 (N : Nat) (xs : Nat → Int32) (len b : Nat) (i : Int32) (Q : OQ) (M u : Nat) (S T : PS) (h : fC0 N xs b S = some T) (scS : SC xs len S) (hb : IB i len b) (hM : u + 8 ≤ M) (k : SC xs len T → ∀ u9, u9 ≤ u + 8 → WP [] mL_law 100 M Q 2706 [some (.ref 1000), some (.ref 0), some (.ref 80), some (.ref 111), some (.int i), none, none] [] T u9) : WP [] mL_law 100 M Q 224 [some (.ref 1000), some (.ref 0), some (.ref 80), some (.ref 111), some (.int i), none, none] [] S u := by
  unfold fC0 at h
  refine r_aload_n (x := 0) dL_law_224 rfl ?_
  refine r_aload_n (x := 1000) dL_law_225 rfl ?_
  refine r_iload (x := i) dL_law_226 rfl ?_
  refine r_iconst (v := 1) dL_law_228 rfl ?_
  refine r_iadd dL_law_229 ?_
  refine r_sld (k9 := b + 1) dL_law_230 scS hb.2.1 ?_
  refine r_aload_n (x := 1000) dL_law_231 rfl ?_
  refine r_iload (x := i) dL_law_232 rfl ?_
  refine r_iconst (v := 2) dL_law_234 rfl ?_
  refine r_iadd dL_law_235 ?_
  refine r_sld (k9 := b + 2) dL_law_236 scS hb.2.2.1 ?_
  refine r_aload_n (x := 1000) dL_law_237 rfl ?_
  refine r_iload (x := i) dL_law_238 rfl ?_
  refine r_iconst (v := 3) dL_law_240 rfl ?_
  refine r_iadd dL_law_241 ?_
  refine r_sld (k9 := b + 3) dL_law_242 scS hb.2.2.2.1 ?_
  refine r_aload_n (x := 1000) dL_law_243 rfl ?_
  refine r_iload (x := i) dL_law_244 rfl ?_
  refine r_iconst (v := 4) dL_law_246 rfl ?_
  refine r_iadd dL_law_247 ?_
  refine r_sld (k9 := b + 4) dL_law_248 scS hb.2.2.2.2.1 ?_
  refine r_aload_n (x := 1000) dL_law_249 rfl ?_
  refine r_iload (x := i) dL_law_250 rfl ?_
  refine r_iconst (v := 5) dL_law_252 rfl ?_
  refine r_iadd dL_law_253 ?_
  refine r_sld (k9 := b + 5) dL_law_254 scS hb.2.2.2.2.2 ?_
  obtain ⟨x1, S2, h3, h⟩ := bI_e h
  refine r_lVI (y := mX11_feed) (As := [.int (xs (b + 1)), .int (xs (b + 2)), .int (xs (b + 3)), .int (xs (b + 4)), .int (xs (b + 5))]) (rest := []) scS dL_law_255 qL_126 kX11_feed rfl ob0 vc11 rfl (okX11_feed N (xs (b + 1)) (xs (b + 2)) (xs (b + 3)) (xs (b + 4)) (xs (b + 5)) S x1 S2 h3) (by decide) (by omega) rfl (Nat.le_of_ble_eq_true rfl) (fun scS2 => ?_)
  refine r_aload_n (x := 80) dL_law_258 rfl ?_
  refine r_aload_n (x := 1000) dL_law_259 rfl ?_
  refine r_iload (x := i) dL_law_260 rfl ?_
  refine r_iconst (v := 1) dL_law_262 rfl ?_
  refine r_iadd dL_law_263 ?_
  refine r_sld (k9 := b + 1) dL_law_264 scS2 hb.2.1 ?_
  refine r_aload_n (x := 1000) dL_law_265 rfl ?_
  refine r_iload (x := i) dL_law_266 rfl ?_
  refine r_iconst (v := 2) dL_law_268 rfl ?_
  refine r_iadd dL_law_269 ?_
  refine r_sld (k9 := b + 2) dL_law_270 scS2 hb.2.2.1 ?_
  refine r_aload_n (x := 1000) dL_law_271 rfl ?_
  refine r_iload (x := i) dL_law_272 rfl ?_
  refine r_iconst (v := 3) dL_law_274 rfl ?_
  refine r_iadd dL_law_275 ?_
  refine r_sld (k9 := b + 3) dL_law_276 scS2 hb.2.2.2.1 ?_
  refine r_aload_n (x := 1000) dL_law_277 rfl ?_
  refine r_iload (x := i) dL_law_278 rfl ?_
  refine r_iconst (v := 4) dL_law_280 rfl ?_
  refine r_iadd dL_law_281 ?_
  refine r_sld (k9 := b + 4) dL_law_282 scS2 hb.2.2.2.2.1 ?_
  refine r_aload_n (x := 1000) dL_law_283 rfl ?_
  refine r_iload (x := i) dL_law_284 rfl ?_
  refine r_iconst (v := 5) dL_law_286 rfl ?_
  refine r_iadd dL_law_287 ?_
  refine r_sld (k9 := b + 5) dL_law_288 scS2 hb.2.2.2.2.2 ?_
  obtain ⟨x4, S5, h6, h⟩ := bI_e h
  refine r_lVI (y := mX12_feed) (As := [.int (xs (b + 1)), .int (xs (b + 2)), .int (xs (b + 3)), .int (xs (b + 4)), .int (xs (b + 5))]) (rest := [.int x1]) scS2 dL_law_289 qL_130 kX12_feed rfl ob80 vc12 rfl (okX12_feed N (xs (b + 1)) (xs (b + 2)) (xs (b + 3)) (xs (b + 4)) (xs (b + 5)) S2 x4 S5 h6) (by decide) (by omega) rfl (Nat.le_of_ble_eq_true rfl) (fun scS5 => ?_)
  refine r_icmp_eq (tgt := 2706) dL_law_292 (by decide) (fun c7 => ?_) (fun c7 => ?_)
  · rw [if_pos c7] at h
    cases h
    exact k scS5 _ (by omega)
  · rw [if_neg c7] at h
    refine r_iconst (v := 0) dL_law_295 rfl ?_
    cases h
def fC1 (N : Nat) (xs : Nat → Int32) (b : Nat) (S : PS) : Option PS :=
  bI (fL_cave N (xs (b + 1)) S) fun x1 S2 =>
  bI (fX12_cave N (xs (b + 1)) S2) fun x4 S5 =>
  bI (fX12_thrown N S5) fun x7 S8 =>
  (if x7 = x1 then
    (if x1 = 0 then
      (if (lg_cmp (S8.2.1 111 0) x4.toInt64) = 0 then
        some S8
      else
        none)
    else
      some S8)
  else
    none)
set_option maxHeartbeats 4000000 in
set_option maxRecDepth 100000 in
theorem okC1 (N : Nat) (xs : Nat → Int32) (len b : Nat) (i : Int32) (Q : OQ) (M u : Nat) (S T : PS) (h : fC1 N xs b S = some T) (scS : SC xs len S) (hb : IB i len b) (hM : u + 8 ≤ M) (k : SC xs len T → ∀ u9, u9 ≤ u + 8 → WP [] mL_law 100 M Q 2706 [some (.ref 1000), some (.ref 0), some (.ref 80), some (.ref 111), some (.int i), none, none] [] T u9) : WP [] mL_law 100 M Q 297 [some (.ref 1000), some (.ref 0), some (.ref 80), some (.ref 111), some (.int i), none, none] [] S u := by
  unfold fC1 at h
  refine r_aload_n (x := 0) dL_law_297 rfl ?_
  refine r_aload_n (x := 1000) dL_law_298 rfl ?_
  refine r_iload (x := i) dL_law_299 rfl ?_
  refine r_iconst (v := 1) dL_law_301 rfl ?_
  refine r_iadd dL_law_302 ?_
  refine r_sld (k9 := b + 1) dL_law_303 scS hb.2.1 ?_
  refine r_aload_n (x := 111) dL_law_304 rfl ?_
  obtain ⟨x1, S2, h3, h⟩ := bI_e h
  refine r_lSW (n := 3) (y := mL_cave) (As := [.ref 0, .int (xs (b + 1)), .ref 111]) (rest := []) scS dL_law_305 qL_131 wL_cave sL_cave wIniL ⟨by decide, by decide, by decide +kernel⟩ (by decide) rfl (okL_cave N (xs (b + 1)) S x1 S2 h3) (by decide) hM rfl (Nat.le_of_ble_eq_true rfl) (fun scS2 => ?_)
  refine r_istore (L' := [some (.ref 1000), some (.ref 0), some (.ref 80), some (.ref 111), some (.int i), some (.int x1), none]) dL_law_308 (Nat.le_of_ble_eq_true rfl) rfl rfl ?_
  refine r_aload_n (x := 80) dL_law_310 rfl ?_
  refine r_aload_n (x := 1000) dL_law_311 rfl ?_
  refine r_iload (x := i) dL_law_312 rfl ?_
  refine r_iconst (v := 1) dL_law_314 rfl ?_
  refine r_iadd dL_law_315 ?_
  refine r_sld (k9 := b + 1) dL_law_316 scS2 hb.2.1 ?_
  obtain ⟨x4, S5, h6, h⟩ := bI_e h
  refine r_lVI (y := mX12_cave) (As := [.int (xs (b + 1))]) (rest := []) scS2 dL_law_317 qL_136 kX12_cave rfl ob80 vc12 rfl (okX12_cave N (xs (b + 1)) S2 x4 S5 h6) (by decide) (by omega) rfl (Nat.le_of_ble_eq_true rfl) (fun scS5 => ?_)
  refine r_istore (L' := [some (.ref 1000), some (.ref 0), some (.ref 80), some (.ref 111), some (.int i), some (.int x1), some (.int x4)]) dL_law_320 (Nat.le_of_ble_eq_true rfl) rfl rfl ?_
  refine r_aload_n (x := 80) dL_law_322 rfl ?_
  obtain ⟨x7, S8, h9, h⟩ := bI_e h
  refine r_lVI (y := mX12_thrown) (As := []) (rest := []) scS5 dL_law_323 qL_137 kX12_thrown rfl ob80 vc12 rfl (okX12_thrown N  S5 x7 S8 h9) (by decide) (by omega) rfl (Nat.le_of_ble_eq_true rfl) (fun scS8 => ?_)
  refine r_iload (x := x1) dL_law_326 rfl ?_
  refine r_icmp_eq (tgt := 333) dL_law_328 (by decide) (fun c10 => ?_) (fun c10 => ?_)
  · rw [if_pos c10] at h
    refine r_iload (x := x1) dL_law_333 rfl ?_
    refine r_if_ne (tgt := 350) dL_law_335 (by decide) (fun c11 => ?_) (fun c11 => ?_)
    · rw [if_neg c11] at h
      refine r_goto (tgt := 2706) dL_law_350 (by decide) ?_
      cases h
      refine r_drop [true, true, true, true, true, false, false] rfl ?_
      exact k scS8 _ (by omega)
    · rw [if_pos c11] at h
      refine r_aload_n (x := 111) dL_law_338 rfl ?_
      refine r_iconst (v := 0) dL_law_339 rfl ?_
      refine r_laload (a := 111) (k9 := 0) dL_law_340 ck111 nC111 ⟨by decide, by decide⟩ ?_
      refine r_iload (x := x4) dL_law_341 rfl ?_
      refine r_i2l dL_law_343 ?_
      refine r_lcmp dL_law_344 ?_
      refine r_if_eq (tgt := 350) dL_law_345 (by decide) (fun c12 => ?_) (fun c12 => ?_)
      · rw [if_pos c12] at h
        refine r_goto (tgt := 2706) dL_law_350 (by decide) ?_
        cases h
        refine r_drop [true, true, true, true, true, false, false] rfl ?_
        exact k scS8 _ (by omega)
      · rw [if_neg c12] at h
        refine r_iconst (v := 0) dL_law_348 rfl ?_
        cases h
  · rw [if_neg c10] at h
    refine r_iconst (v := 0) dL_law_331 rfl ?_
    cases h
def fC2 (N : Nat) (xs : Nat → Int32) (b : Nat) (S : PS) : Option PS :=
  bI (fX11_fault N S) fun x1 S2 =>
  bI (fX12_fault N S2) fun x4 S5 =>
  (if x1 = x4 then
    some S5
  else
    none)
set_option maxHeartbeats 4000000 in
set_option maxRecDepth 100000 in
theorem okC2 (N : Nat) (xs : Nat → Int32) (len b : Nat) (i : Int32) (Q : OQ) (M u : Nat) (S T : PS) (h : fC2 N xs b S = some T) (scS : SC xs len S) (hb : IB i len b) (hM : u + 8 ≤ M) (k : SC xs len T → ∀ u9, u9 ≤ u + 8 → WP [] mL_law 100 M Q 2706 [some (.ref 1000), some (.ref 0), some (.ref 80), some (.ref 111), some (.int i), none, none] [] T u9) : WP [] mL_law 100 M Q 353 [some (.ref 1000), some (.ref 0), some (.ref 80), some (.ref 111), some (.int i), none, none] [] S u := by
  unfold fC2 at h
  refine r_aload_n (x := 0) dL_law_353 rfl ?_
  obtain ⟨x1, S2, h3, h⟩ := bI_e h
  refine r_lVI (y := mX11_fault) (As := []) (rest := []) scS dL_law_354 qL_141 kX11_fault rfl ob0 vc11 rfl (okX11_fault N  S x1 S2 h3) (by decide) (by omega) rfl (Nat.le_of_ble_eq_true rfl) (fun scS2 => ?_)
  refine r_aload_n (x := 80) dL_law_357 rfl ?_
  obtain ⟨x4, S5, h6, h⟩ := bI_e h
  refine r_lVI (y := mX12_fault) (As := []) (rest := [.int x1]) scS2 dL_law_358 qL_144 kX12_fault rfl ob80 vc12 rfl (okX12_fault N  S2 x4 S5 h6) (by decide) (by omega) rfl (Nat.le_of_ble_eq_true rfl) (fun scS5 => ?_)
  refine r_icmp_eq (tgt := 2706) dL_law_361 (by decide) (fun c7 => ?_) (fun c7 => ?_)
  · rw [if_pos c7] at h
    cases h
    exact k scS5 _ (by omega)
  · rw [if_neg c7] at h
    refine r_iconst (v := 0) dL_law_364 rfl ?_
    cases h
def fC3 (N : Nat) (xs : Nat → Int32) (b : Nat) (S : PS) : Option PS :=
  bI (fL_count N (xs (b + 1)) S) fun x1 S2 =>
  bI (fX12_count N (xs (b + 1)) S2) fun x4 S5 =>
  bI (fX12_thrown N S5) fun x7 S8 =>
  (if x7 = x1 then
    (if x1 = 0 then
      (if (lg_cmp (S8.2.1 111 0) x4.toInt64) = 0 then
        some S8
      else
        none)
    else
      some S8)
  else
    none)
set_option maxHeartbeats 4000000 in
set_option maxRecDepth 100000 in
theorem okC3 (N : Nat) (xs : Nat → Int32) (len b : Nat) (i : Int32) (Q : OQ) (M u : Nat) (S T : PS) (h : fC3 N xs b S = some T) (scS : SC xs len S) (hb : IB i len b) (hM : u + 8 ≤ M) (k : SC xs len T → ∀ u9, u9 ≤ u + 8 → WP [] mL_law 100 M Q 2706 [some (.ref 1000), some (.ref 0), some (.ref 80), some (.ref 111), some (.int i), none, none] [] T u9) : WP [] mL_law 100 M Q 366 [some (.ref 1000), some (.ref 0), some (.ref 80), some (.ref 111), some (.int i), none, none] [] S u := by
  unfold fC3 at h
  refine r_aload_n (x := 0) dL_law_366 rfl ?_
  refine r_aload_n (x := 1000) dL_law_367 rfl ?_
  refine r_iload (x := i) dL_law_368 rfl ?_
  refine r_iconst (v := 1) dL_law_370 rfl ?_
  refine r_iadd dL_law_371 ?_
  refine r_sld (k9 := b + 1) dL_law_372 scS hb.2.1 ?_
  refine r_aload_n (x := 111) dL_law_373 rfl ?_
  obtain ⟨x1, S2, h3, h⟩ := bI_e h
  refine r_lSW (n := 3) (y := mL_count) (As := [.ref 0, .int (xs (b + 1)), .ref 111]) (rest := []) scS dL_law_374 qL_145 wL_count sL_count wIniL ⟨by decide, by decide, by decide +kernel⟩ (by decide) rfl (okL_count N (xs (b + 1)) S x1 S2 h3) (by decide) hM rfl (Nat.le_of_ble_eq_true rfl) (fun scS2 => ?_)
  refine r_istore (L' := [some (.ref 1000), some (.ref 0), some (.ref 80), some (.ref 111), some (.int i), some (.int x1), none]) dL_law_377 (Nat.le_of_ble_eq_true rfl) rfl rfl ?_
  refine r_aload_n (x := 80) dL_law_379 rfl ?_
  refine r_aload_n (x := 1000) dL_law_380 rfl ?_
  refine r_iload (x := i) dL_law_381 rfl ?_
  refine r_iconst (v := 1) dL_law_383 rfl ?_
  refine r_iadd dL_law_384 ?_
  refine r_sld (k9 := b + 1) dL_law_385 scS2 hb.2.1 ?_
  obtain ⟨x4, S5, h6, h⟩ := bI_e h
  refine r_lVI (y := mX12_count) (As := [.int (xs (b + 1))]) (rest := []) scS2 dL_law_386 qL_147 kX12_count rfl ob80 vc12 rfl (okX12_count N (xs (b + 1)) S2 x4 S5 h6) (by decide) (by omega) rfl (Nat.le_of_ble_eq_true rfl) (fun scS5 => ?_)
  refine r_istore (L' := [some (.ref 1000), some (.ref 0), some (.ref 80), some (.ref 111), some (.int i), some (.int x1), some (.int x4)]) dL_law_389 (Nat.le_of_ble_eq_true rfl) rfl rfl ?_
  refine r_aload_n (x := 80) dL_law_391 rfl ?_
  obtain ⟨x7, S8, h9, h⟩ := bI_e h
  refine r_lVI (y := mX12_thrown) (As := []) (rest := []) scS5 dL_law_392 qL_137 kX12_thrown rfl ob80 vc12 rfl (okX12_thrown N  S5 x7 S8 h9) (by decide) (by omega) rfl (Nat.le_of_ble_eq_true rfl) (fun scS8 => ?_)
  refine r_iload (x := x1) dL_law_395 rfl ?_
  refine r_icmp_eq (tgt := 402) dL_law_397 (by decide) (fun c10 => ?_) (fun c10 => ?_)
  · rw [if_pos c10] at h
    refine r_iload (x := x1) dL_law_402 rfl ?_
    refine r_if_ne (tgt := 419) dL_law_404 (by decide) (fun c11 => ?_) (fun c11 => ?_)
    · rw [if_neg c11] at h
      refine r_goto (tgt := 2706) dL_law_419 (by decide) ?_
      cases h
      refine r_drop [true, true, true, true, true, false, false] rfl ?_
      exact k scS8 _ (by omega)
    · rw [if_pos c11] at h
      refine r_aload_n (x := 111) dL_law_407 rfl ?_
      refine r_iconst (v := 0) dL_law_408 rfl ?_
      refine r_laload (a := 111) (k9 := 0) dL_law_409 ck111 nC111 ⟨by decide, by decide⟩ ?_
      refine r_iload (x := x4) dL_law_410 rfl ?_
      refine r_i2l dL_law_412 ?_
      refine r_lcmp dL_law_413 ?_
      refine r_if_eq (tgt := 419) dL_law_414 (by decide) (fun c12 => ?_) (fun c12 => ?_)
      · rw [if_pos c12] at h
        refine r_goto (tgt := 2706) dL_law_419 (by decide) ?_
        cases h
        refine r_drop [true, true, true, true, true, false, false] rfl ?_
        exact k scS8 _ (by omega)
      · rw [if_neg c12] at h
        refine r_iconst (v := 0) dL_law_417 rfl ?_
        cases h
  · rw [if_neg c10] at h
    refine r_iconst (v := 0) dL_law_400 rfl ?_
    cases h
def fC4 (N : Nat) (xs : Nat → Int32) (b : Nat) (S : PS) : Option PS :=
  bI (fL_cup N (xs (b + 1)) (xs (b + 2)) S) fun x1 S2 =>
  bI (fX12_cup N (xs (b + 1)) (xs (b + 2)) S2) fun x4 S5 =>
  bI (fX12_thrown N S5) fun x7 S8 =>
  (if x7 = x1 then
    (if x1 = 0 then
      (if (lg_cmp (S8.2.1 111 0) x4.toInt64) = 0 then
        some S8
      else
        none)
    else
      some S8)
  else
    none)
set_option maxHeartbeats 4000000 in
set_option maxRecDepth 100000 in
theorem okC4 (N : Nat) (xs : Nat → Int32) (len b : Nat) (i : Int32) (Q : OQ) (M u : Nat) (S T : PS) (h : fC4 N xs b S = some T) (scS : SC xs len S) (hb : IB i len b) (hM : u + 8 ≤ M) (k : SC xs len T → ∀ u9, u9 ≤ u + 8 → WP [] mL_law 100 M Q 2706 [some (.ref 1000), some (.ref 0), some (.ref 80), some (.ref 111), some (.int i), none, none] [] T u9) : WP [] mL_law 100 M Q 422 [some (.ref 1000), some (.ref 0), some (.ref 80), some (.ref 111), some (.int i), none, none] [] S u := by
  unfold fC4 at h
  refine r_aload_n (x := 0) dL_law_422 rfl ?_
  refine r_aload_n (x := 1000) dL_law_423 rfl ?_
  refine r_iload (x := i) dL_law_424 rfl ?_
  refine r_iconst (v := 1) dL_law_426 rfl ?_
  refine r_iadd dL_law_427 ?_
  refine r_sld (k9 := b + 1) dL_law_428 scS hb.2.1 ?_
  refine r_aload_n (x := 1000) dL_law_429 rfl ?_
  refine r_iload (x := i) dL_law_430 rfl ?_
  refine r_iconst (v := 2) dL_law_432 rfl ?_
  refine r_iadd dL_law_433 ?_
  refine r_sld (k9 := b + 2) dL_law_434 scS hb.2.2.1 ?_
  refine r_aload_n (x := 111) dL_law_435 rfl ?_
  obtain ⟨x1, S2, h3, h⟩ := bI_e h
  refine r_lSW (n := 4) (y := mL_cup) (As := [.ref 0, .int (xs (b + 1)), .int (xs (b + 2)), .ref 111]) (rest := []) scS dL_law_436 qL_148 wL_cup sL_cup wIniL ⟨by decide, by decide, by decide +kernel⟩ (by decide) rfl (okL_cup N (xs (b + 1)) (xs (b + 2)) S x1 S2 h3) (by decide) hM rfl (Nat.le_of_ble_eq_true rfl) (fun scS2 => ?_)
  refine r_istore (L' := [some (.ref 1000), some (.ref 0), some (.ref 80), some (.ref 111), some (.int i), some (.int x1), none]) dL_law_439 (Nat.le_of_ble_eq_true rfl) rfl rfl ?_
  refine r_aload_n (x := 80) dL_law_441 rfl ?_
  refine r_aload_n (x := 1000) dL_law_442 rfl ?_
  refine r_iload (x := i) dL_law_443 rfl ?_
  refine r_iconst (v := 1) dL_law_445 rfl ?_
  refine r_iadd dL_law_446 ?_
  refine r_sld (k9 := b + 1) dL_law_447 scS2 hb.2.1 ?_
  refine r_aload_n (x := 1000) dL_law_448 rfl ?_
  refine r_iload (x := i) dL_law_449 rfl ?_
  refine r_iconst (v := 2) dL_law_451 rfl ?_
  refine r_iadd dL_law_452 ?_
  refine r_sld (k9 := b + 2) dL_law_453 scS2 hb.2.2.1 ?_
  obtain ⟨x4, S5, h6, h⟩ := bI_e h
  refine r_lVI (y := mX12_cup) (As := [.int (xs (b + 1)), .int (xs (b + 2))]) (rest := []) scS2 dL_law_454 qL_151 kX12_cup rfl ob80 vc12 rfl (okX12_cup N (xs (b + 1)) (xs (b + 2)) S2 x4 S5 h6) (by decide) (by omega) rfl (Nat.le_of_ble_eq_true rfl) (fun scS5 => ?_)
  refine r_istore (L' := [some (.ref 1000), some (.ref 0), some (.ref 80), some (.ref 111), some (.int i), some (.int x1), some (.int x4)]) dL_law_457 (Nat.le_of_ble_eq_true rfl) rfl rfl ?_
  refine r_aload_n (x := 80) dL_law_459 rfl ?_
  obtain ⟨x7, S8, h9, h⟩ := bI_e h
  refine r_lVI (y := mX12_thrown) (As := []) (rest := []) scS5 dL_law_460 qL_137 kX12_thrown rfl ob80 vc12 rfl (okX12_thrown N  S5 x7 S8 h9) (by decide) (by omega) rfl (Nat.le_of_ble_eq_true rfl) (fun scS8 => ?_)
  refine r_iload (x := x1) dL_law_463 rfl ?_
  refine r_icmp_eq (tgt := 470) dL_law_465 (by decide) (fun c10 => ?_) (fun c10 => ?_)
  · rw [if_pos c10] at h
    refine r_iload (x := x1) dL_law_470 rfl ?_
    refine r_if_ne (tgt := 487) dL_law_472 (by decide) (fun c11 => ?_) (fun c11 => ?_)
    · rw [if_neg c11] at h
      refine r_goto (tgt := 2706) dL_law_487 (by decide) ?_
      cases h
      refine r_drop [true, true, true, true, true, false, false] rfl ?_
      exact k scS8 _ (by omega)
    · rw [if_pos c11] at h
      refine r_aload_n (x := 111) dL_law_475 rfl ?_
      refine r_iconst (v := 0) dL_law_476 rfl ?_
      refine r_laload (a := 111) (k9 := 0) dL_law_477 ck111 nC111 ⟨by decide, by decide⟩ ?_
      refine r_iload (x := x4) dL_law_478 rfl ?_
      refine r_i2l dL_law_480 ?_
      refine r_lcmp dL_law_481 ?_
      refine r_if_eq (tgt := 487) dL_law_482 (by decide) (fun c12 => ?_) (fun c12 => ?_)
      · rw [if_pos c12] at h
        refine r_goto (tgt := 2706) dL_law_487 (by decide) ?_
        cases h
        refine r_drop [true, true, true, true, true, false, false] rfl ?_
        exact k scS8 _ (by omega)
      · rw [if_neg c12] at h
        refine r_iconst (v := 0) dL_law_485 rfl ?_
        cases h
  · rw [if_neg c10] at h
    refine r_iconst (v := 0) dL_law_468 rfl ?_
    cases h
def fC5 (N : Nat) (xs : Nat → Int32) (b : Nat) (S : PS) : Option PS :=
  bI (fX11_hours N (xs (b + 1)) S) fun x1 S2 =>
  bI (fX12_hours N (xs (b + 1)) S2) fun x4 S5 =>
  (if x1 = x4 then
    some S5
  else
    none)
set_option maxHeartbeats 4000000 in
set_option maxRecDepth 100000 in
theorem okC5 (N : Nat) (xs : Nat → Int32) (len b : Nat) (i : Int32) (Q : OQ) (M u : Nat) (S T : PS) (h : fC5 N xs b S = some T) (scS : SC xs len S) (hb : IB i len b) (hM : u + 8 ≤ M) (k : SC xs len T → ∀ u9, u9 ≤ u + 8 → WP [] mL_law 100 M Q 2706 [some (.ref 1000), some (.ref 0), some (.ref 80), some (.ref 111), some (.int i), none, none] [] T u9) : WP [] mL_law 100 M Q 490 [some (.ref 1000), some (.ref 0), some (.ref 80), some (.ref 111), some (.int i), none, none] [] S u := by
  unfold fC5 at h
  refine r_aload_n (x := 0) dL_law_490 rfl ?_
  refine r_aload_n (x := 1000) dL_law_491 rfl ?_
  refine r_iload (x := i) dL_law_492 rfl ?_
  refine r_iconst (v := 1) dL_law_494 rfl ?_
  refine r_iadd dL_law_495 ?_
  refine r_sld (k9 := b + 1) dL_law_496 scS hb.2.1 ?_
  obtain ⟨x1, S2, h3, h⟩ := bI_e h
  refine r_lVI (y := mX11_hours) (As := [.int (xs (b + 1))]) (rest := []) scS dL_law_497 qL_152 kX11_hours rfl ob0 vc11 rfl (okX11_hours N (xs (b + 1)) S x1 S2 h3) (by decide) (by omega) rfl (Nat.le_of_ble_eq_true rfl) (fun scS2 => ?_)
  refine r_aload_n (x := 80) dL_law_500 rfl ?_
  refine r_aload_n (x := 1000) dL_law_501 rfl ?_
  refine r_iload (x := i) dL_law_502 rfl ?_
  refine r_iconst (v := 1) dL_law_504 rfl ?_
  refine r_iadd dL_law_505 ?_
  refine r_sld (k9 := b + 1) dL_law_506 scS2 hb.2.1 ?_
  obtain ⟨x4, S5, h6, h⟩ := bI_e h
  refine r_lVI (y := mX12_hours) (As := [.int (xs (b + 1))]) (rest := [.int x1]) scS2 dL_law_507 qL_155 kX12_hours rfl ob80 vc12 rfl (okX12_hours N (xs (b + 1)) S2 x4 S5 h6) (by decide) (by omega) rfl (Nat.le_of_ble_eq_true rfl) (fun scS5 => ?_)
  refine r_icmp_eq (tgt := 2706) dL_law_510 (by decide) (fun c7 => ?_) (fun c7 => ?_)
  · rw [if_pos c7] at h
    cases h
    exact k scS5 _ (by omega)
  · rw [if_neg c7] at h
    refine r_iconst (v := 0) dL_law_513 rfl ?_
    cases h
def fC6 (N : Nat) (xs : Nat → Int32) (b : Nat) (S : PS) : Option PS :=
  bI (fL_lead N (xs (b + 1)) (xs (b + 2)) S) fun x1 S2 =>
  bI (fX12_lead N (xs (b + 1)) (xs (b + 2)) S2) fun x4 S5 =>
  bI (fX12_thrown N S5) fun x7 S8 =>
  (if x7 = x1 then
    (if x1 = 0 then
      (if x4 = 0 then
        (if (lg_cmp (S8.2.1 111 0) 0) = 0 then
          some S8
        else
          none)
      else
        (if (lg_cmp (S8.2.1 111 0) 1) = 0 then
          some S8
        else
          none))
    else
      some S8)
  else
    none)
set_option maxHeartbeats 4000000 in
set_option maxRecDepth 100000 in
theorem okC6 (N : Nat) (xs : Nat → Int32) (len b : Nat) (i : Int32) (Q : OQ) (M u : Nat) (S T : PS) (h : fC6 N xs b S = some T) (scS : SC xs len S) (hb : IB i len b) (hM : u + 8 ≤ M) (k : SC xs len T → ∀ u9, u9 ≤ u + 8 → WP [] mL_law 100 M Q 2706 [some (.ref 1000), some (.ref 0), some (.ref 80), some (.ref 111), some (.int i), none, none] [] T u9) : WP [] mL_law 100 M Q 515 [some (.ref 1000), some (.ref 0), some (.ref 80), some (.ref 111), some (.int i), none, none] [] S u := by
  unfold fC6 at h
  refine r_aload_n (x := 0) dL_law_515 rfl ?_
  refine r_aload_n (x := 1000) dL_law_516 rfl ?_
  refine r_iload (x := i) dL_law_517 rfl ?_
  refine r_iconst (v := 1) dL_law_519 rfl ?_
  refine r_iadd dL_law_520 ?_
  refine r_sld (k9 := b + 1) dL_law_521 scS hb.2.1 ?_
  refine r_aload_n (x := 1000) dL_law_522 rfl ?_
  refine r_iload (x := i) dL_law_523 rfl ?_
  refine r_iconst (v := 2) dL_law_525 rfl ?_
  refine r_iadd dL_law_526 ?_
  refine r_sld (k9 := b + 2) dL_law_527 scS hb.2.2.1 ?_
  refine r_aload_n (x := 111) dL_law_528 rfl ?_
  obtain ⟨x1, S2, h3, h⟩ := bI_e h
  refine r_lSW (n := 4) (y := mL_lead) (As := [.ref 0, .int (xs (b + 1)), .int (xs (b + 2)), .ref 111]) (rest := []) scS dL_law_529 qL_156 wL_lead sL_lead wIniL ⟨by decide, by decide, by decide +kernel⟩ (by decide) rfl (okL_lead N (xs (b + 1)) (xs (b + 2)) S x1 S2 h3) (by decide) hM rfl (Nat.le_of_ble_eq_true rfl) (fun scS2 => ?_)
  refine r_istore (L' := [some (.ref 1000), some (.ref 0), some (.ref 80), some (.ref 111), some (.int i), some (.int x1), none]) dL_law_532 (Nat.le_of_ble_eq_true rfl) rfl rfl ?_
  refine r_aload_n (x := 80) dL_law_534 rfl ?_
  refine r_aload_n (x := 1000) dL_law_535 rfl ?_
  refine r_iload (x := i) dL_law_536 rfl ?_
  refine r_iconst (v := 1) dL_law_538 rfl ?_
  refine r_iadd dL_law_539 ?_
  refine r_sld (k9 := b + 1) dL_law_540 scS2 hb.2.1 ?_
  refine r_aload_n (x := 1000) dL_law_541 rfl ?_
  refine r_iload (x := i) dL_law_542 rfl ?_
  refine r_iconst (v := 2) dL_law_544 rfl ?_
  refine r_iadd dL_law_545 ?_
  refine r_sld (k9 := b + 2) dL_law_546 scS2 hb.2.2.1 ?_
  obtain ⟨x4, S5, h6, h⟩ := bI_e h
  refine r_lVI (y := mX12_lead) (As := [.int (xs (b + 1)), .int (xs (b + 2))]) (rest := []) scS2 dL_law_547 qL_158 kX12_lead rfl ob80 vc12 rfl (okX12_lead N (xs (b + 1)) (xs (b + 2)) S2 x4 S5 h6) (by decide) (by omega) rfl (Nat.le_of_ble_eq_true rfl) (fun scS5 => ?_)
  refine r_istore (L' := [some (.ref 1000), some (.ref 0), some (.ref 80), some (.ref 111), some (.int i), some (.int x1), some (.int x4)]) dL_law_550 (Nat.le_of_ble_eq_true rfl) rfl rfl ?_
  refine r_aload_n (x := 80) dL_law_552 rfl ?_
  obtain ⟨x7, S8, h9, h⟩ := bI_e h
  refine r_lVI (y := mX12_thrown) (As := []) (rest := []) scS5 dL_law_553 qL_137 kX12_thrown rfl ob80 vc12 rfl (okX12_thrown N  S5 x7 S8 h9) (by decide) (by omega) rfl (Nat.le_of_ble_eq_true rfl) (fun scS8 => ?_)
  refine r_iload (x := x1) dL_law_556 rfl ?_
  refine r_icmp_eq (tgt := 563) dL_law_558 (by decide) (fun c10 => ?_) (fun c10 => ?_)
  · rw [if_pos c10] at h
    refine r_iload (x := x1) dL_law_563 rfl ?_
    refine r_if_ne (tgt := 587) dL_law_565 (by decide) (fun c11 => ?_) (fun c11 => ?_)
    · rw [if_neg c11] at h
      refine r_goto (tgt := 2706) dL_law_587 (by decide) ?_
      cases h
      refine r_drop [true, true, true, true, true, false, false] rfl ?_
      exact k scS8 _ (by omega)
    · rw [if_pos c11] at h
      refine r_aload_n (x := 111) dL_law_568 rfl ?_
      refine r_iconst (v := 0) dL_law_569 rfl ?_
      refine r_laload (a := 111) (k9 := 0) dL_law_570 ck111 nC111 ⟨by decide, by decide⟩ ?_
      refine r_iload (x := x4) dL_law_571 rfl ?_
      refine r_if_eq (tgt := 580) dL_law_573 (by decide) (fun c12 => ?_) (fun c12 => ?_)
      · rw [if_pos c12] at h
        refine r_lconst (v := 0) dL_law_580 rfl ?_
        refine r_lcmp dL_law_581 ?_
        refine r_if_eq (tgt := 587) dL_law_582 (by decide) (fun c13 => ?_) (fun c13 => ?_)
        · rw [if_pos c13] at h
          refine r_goto (tgt := 2706) dL_law_587 (by decide) ?_
          cases h
          refine r_drop [true, true, true, true, true, false, false] rfl ?_
          exact k scS8 _ (by omega)
        · rw [if_neg c13] at h
          refine r_iconst (v := 0) dL_law_585 rfl ?_
          cases h
      · rw [if_neg c12] at h
        refine r_lconst (v := 1) dL_law_576 rfl ?_
        refine r_goto (tgt := 581) dL_law_577 (by decide) ?_
        refine r_lcmp dL_law_581 ?_
        refine r_if_eq (tgt := 587) dL_law_582 (by decide) (fun c14 => ?_) (fun c14 => ?_)
        · rw [if_pos c14] at h
          refine r_goto (tgt := 2706) dL_law_587 (by decide) ?_
          cases h
          refine r_drop [true, true, true, true, true, false, false] rfl ?_
          exact k scS8 _ (by omega)
        · rw [if_neg c14] at h
          refine r_iconst (v := 0) dL_law_585 rfl ?_
          cases h
  · rw [if_neg c10] at h
    refine r_iconst (v := 0) dL_law_561 rfl ?_
    cases h
def fC7 (N : Nat) (xs : Nat → Int32) (b : Nat) (S : PS) : Option PS :=
  lt ((if (xs (b + 2)) = 0 then 0 else 1) : Int32) fun x2 =>
  bI (fL_plug N (xs (b + 1)) x2 S) fun x3 S4 =>
  lt ((if (xs (b + 2)) = 0 then 0 else 1) : Int32) fun x7 =>
  bI (fX12_plug N (xs (b + 1)) x7 S4) fun x8 S9 =>
  bI (fX12_thrown N S9) fun x11 S12 =>
  (if x11 = x3 then
    (if x3 = 0 then
      (if x8 = 0 then
        (if (lg_cmp (S12.2.1 111 0) 0) = 0 then
          some S12
        else
          none)
      else
        (if (lg_cmp (S12.2.1 111 0) 1) = 0 then
          some S12
        else
          none))
    else
      some S12)
  else
    none)
set_option maxHeartbeats 4000000 in
set_option maxRecDepth 100000 in
theorem okC7 (N : Nat) (xs : Nat → Int32) (len b : Nat) (i : Int32) (Q : OQ) (M u : Nat) (S T : PS) (h : fC7 N xs b S = some T) (scS : SC xs len S) (hb : IB i len b) (hM : u + 8 ≤ M) (k : SC xs len T → ∀ u9, u9 ≤ u + 8 → WP [] mL_law 100 M Q 2706 [some (.ref 1000), some (.ref 0), some (.ref 80), some (.ref 111), some (.int i), none, none] [] T u9) : WP [] mL_law 100 M Q 590 [some (.ref 1000), some (.ref 0), some (.ref 80), some (.ref 111), some (.int i), none, none] [] S u := by
  unfold fC7 at h
  refine r_aload_n (x := 0) dL_law_590 rfl ?_
  refine r_aload_n (x := 1000) dL_law_591 rfl ?_
  refine r_iload (x := i) dL_law_592 rfl ?_
  refine r_iconst (v := 1) dL_law_594 rfl ?_
  refine r_iadd dL_law_595 ?_
  refine r_sld (k9 := b + 1) dL_law_596 scS hb.2.1 ?_
  refine r_aload_n (x := 1000) dL_law_597 rfl ?_
  refine r_iload (x := i) dL_law_598 rfl ?_
  refine r_iconst (v := 2) dL_law_600 rfl ?_
  refine r_iadd dL_law_601 ?_
  refine r_sld (k9 := b + 2) dL_law_602 scS hb.2.2.1 ?_
  obtain ⟨x2, hx2⟩ : ∃ y : Int32, y = ((if (xs (b + 2)) = 0 then 0 else 1) : Int32) := ⟨_, rfl⟩
  replace h := lt_e hx2 h
  have keyx2 : WP [] mL_law 100 M Q 611 [some (.ref 1000), some (.ref 0), some (.ref 80), some (.ref 111), some (.int i), none, none] (.int x2 :: [.int (xs (b + 1)), .ref 0]) S u := by
    refine r_aload_n (x := 111) dL_law_611 rfl ?_
    obtain ⟨x3, S4, h5, h⟩ := bI_e h
    refine r_lSW (n := 4) (y := mL_plug) (As := [.ref 0, .int (xs (b + 1)), .int x2, .ref 111]) (rest := []) scS dL_law_612 qL_159 wL_plug sL_plug wIniL ⟨by decide, by decide, by decide +kernel⟩ (by decide) rfl (okL_plug N (xs (b + 1)) x2 S x3 S4 h5) (by decide) hM rfl (Nat.le_of_ble_eq_true rfl) (fun scS4 => ?_)
    refine r_istore (L' := [some (.ref 1000), some (.ref 0), some (.ref 80), some (.ref 111), some (.int i), some (.int x3), none]) dL_law_615 (Nat.le_of_ble_eq_true rfl) rfl rfl ?_
    refine r_aload_n (x := 80) dL_law_617 rfl ?_
    refine r_aload_n (x := 1000) dL_law_618 rfl ?_
    refine r_iload (x := i) dL_law_619 rfl ?_
    refine r_iconst (v := 1) dL_law_621 rfl ?_
    refine r_iadd dL_law_622 ?_
    refine r_sld (k9 := b + 1) dL_law_623 scS4 hb.2.1 ?_
    refine r_aload_n (x := 1000) dL_law_624 rfl ?_
    refine r_iload (x := i) dL_law_625 rfl ?_
    refine r_iconst (v := 2) dL_law_627 rfl ?_
    refine r_iadd dL_law_628 ?_
    refine r_sld (k9 := b + 2) dL_law_629 scS4 hb.2.2.1 ?_
    obtain ⟨x7, hx7⟩ : ∃ y : Int32, y = ((if (xs (b + 2)) = 0 then 0 else 1) : Int32) := ⟨_, rfl⟩
    replace h := lt_e hx7 h
    have keyx7 : WP [] mL_law 100 M Q 638 [some (.ref 1000), some (.ref 0), some (.ref 80), some (.ref 111), some (.int i), some (.int x3), none] (.int x7 :: [.int (xs (b + 1)), .ref 80]) S4 (u + 8) := by
      obtain ⟨x8, S9, h10, h⟩ := bI_e h
      refine r_lVI (y := mX12_plug) (As := [.int (xs (b + 1)), .int x7]) (rest := []) scS4 dL_law_638 qL_162 kX12_plug rfl ob80 vc12 rfl (okX12_plug N (xs (b + 1)) x7 S4 x8 S9 h10) (by decide) (by omega) rfl (Nat.le_of_ble_eq_true rfl) (fun scS9 => ?_)
      refine r_istore (L' := [some (.ref 1000), some (.ref 0), some (.ref 80), some (.ref 111), some (.int i), some (.int x3), some (.int x8)]) dL_law_641 (Nat.le_of_ble_eq_true rfl) rfl rfl ?_
      refine r_aload_n (x := 80) dL_law_643 rfl ?_
      obtain ⟨x11, S12, h13, h⟩ := bI_e h
      refine r_lVI (y := mX12_thrown) (As := []) (rest := []) scS9 dL_law_644 qL_137 kX12_thrown rfl ob80 vc12 rfl (okX12_thrown N  S9 x11 S12 h13) (by decide) (by omega) rfl (Nat.le_of_ble_eq_true rfl) (fun scS12 => ?_)
      refine r_iload (x := x3) dL_law_647 rfl ?_
      refine r_icmp_eq (tgt := 654) dL_law_649 (by decide) (fun c14 => ?_) (fun c14 => ?_)
      · rw [if_pos c14] at h
        refine r_iload (x := x3) dL_law_654 rfl ?_
        refine r_if_ne (tgt := 678) dL_law_656 (by decide) (fun c15 => ?_) (fun c15 => ?_)
        · rw [if_neg c15] at h
          refine r_goto (tgt := 2706) dL_law_678 (by decide) ?_
          cases h
          refine r_drop [true, true, true, true, true, false, false] rfl ?_
          exact k scS12 _ (by omega)
        · rw [if_pos c15] at h
          refine r_aload_n (x := 111) dL_law_659 rfl ?_
          refine r_iconst (v := 0) dL_law_660 rfl ?_
          refine r_laload (a := 111) (k9 := 0) dL_law_661 ck111 nC111 ⟨by decide, by decide⟩ ?_
          refine r_iload (x := x8) dL_law_662 rfl ?_
          refine r_if_eq (tgt := 671) dL_law_664 (by decide) (fun c16 => ?_) (fun c16 => ?_)
          · rw [if_pos c16] at h
            refine r_lconst (v := 0) dL_law_671 rfl ?_
            refine r_lcmp dL_law_672 ?_
            refine r_if_eq (tgt := 678) dL_law_673 (by decide) (fun c17 => ?_) (fun c17 => ?_)
            · rw [if_pos c17] at h
              refine r_goto (tgt := 2706) dL_law_678 (by decide) ?_
              cases h
              refine r_drop [true, true, true, true, true, false, false] rfl ?_
              exact k scS12 _ (by omega)
            · rw [if_neg c17] at h
              refine r_iconst (v := 0) dL_law_676 rfl ?_
              cases h
          · rw [if_neg c16] at h
            refine r_lconst (v := 1) dL_law_667 rfl ?_
            refine r_goto (tgt := 672) dL_law_668 (by decide) ?_
            refine r_lcmp dL_law_672 ?_
            refine r_if_eq (tgt := 678) dL_law_673 (by decide) (fun c18 => ?_) (fun c18 => ?_)
            · rw [if_pos c18] at h
              refine r_goto (tgt := 2706) dL_law_678 (by decide) ?_
              cases h
              refine r_drop [true, true, true, true, true, false, false] rfl ?_
              exact k scS12 _ (by omega)
            · rw [if_neg c18] at h
              refine r_iconst (v := 0) dL_law_676 rfl ?_
              cases h
      · rw [if_neg c14] at h
        refine r_iconst (v := 0) dL_law_652 rfl ?_
        cases h
    refine r_if_eq (tgt := 637) dL_law_630 (by decide) (fun c6 => ?_) (fun c6 => ?_)
    · refine r_iconst (v := 0) dL_law_637 rfl ?_
      exact r_tope (by rw [hx7, if_pos c6]) keyx7
    · refine r_iconst (v := 1) dL_law_633 rfl ?_
      refine r_goto (tgt := 638) dL_law_634 (by decide) ?_
      exact r_tope (by rw [hx7, if_neg c6]) keyx7
  refine r_if_eq (tgt := 610) dL_law_603 (by decide) (fun c1 => ?_) (fun c1 => ?_)
  · refine r_iconst (v := 0) dL_law_610 rfl ?_
    exact r_tope (by rw [hx2, if_pos c1]) keyx2
  · refine r_iconst (v := 1) dL_law_606 rfl ?_
    refine r_goto (tgt := 611) dL_law_607 (by decide) ?_
    exact r_tope (by rw [hx2, if_neg c1]) keyx2
def fC8 (N : Nat) (xs : Nat → Int32) (b : Nat) (S : PS) : Option PS :=
  bI (fL_pour N (xs (b + 1)) (xs (b + 2)) S) fun x1 S2 =>
  bI (fX12_pour N (xs (b + 1)) (xs (b + 2)) S2) fun x4 S5 =>
  bI (fX12_thrown N S5) fun x7 S8 =>
  (if x7 = x1 then
    (if x1 = 0 then
      (if (lg_cmp (S8.2.1 111 0) x4.toInt64) = 0 then
        some S8
      else
        none)
    else
      some S8)
  else
    none)
set_option maxHeartbeats 4000000 in
set_option maxRecDepth 100000 in
theorem okC8 (N : Nat) (xs : Nat → Int32) (len b : Nat) (i : Int32) (Q : OQ) (M u : Nat) (S T : PS) (h : fC8 N xs b S = some T) (scS : SC xs len S) (hb : IB i len b) (hM : u + 8 ≤ M) (k : SC xs len T → ∀ u9, u9 ≤ u + 8 → WP [] mL_law 100 M Q 2706 [some (.ref 1000), some (.ref 0), some (.ref 80), some (.ref 111), some (.int i), none, none] [] T u9) : WP [] mL_law 100 M Q 681 [some (.ref 1000), some (.ref 0), some (.ref 80), some (.ref 111), some (.int i), none, none] [] S u := by
  unfold fC8 at h
  refine r_aload_n (x := 0) dL_law_681 rfl ?_
  refine r_aload_n (x := 1000) dL_law_682 rfl ?_
  refine r_iload (x := i) dL_law_683 rfl ?_
  refine r_iconst (v := 1) dL_law_685 rfl ?_
  refine r_iadd dL_law_686 ?_
  refine r_sld (k9 := b + 1) dL_law_687 scS hb.2.1 ?_
  refine r_aload_n (x := 1000) dL_law_688 rfl ?_
  refine r_iload (x := i) dL_law_689 rfl ?_
  refine r_iconst (v := 2) dL_law_691 rfl ?_
  refine r_iadd dL_law_692 ?_
  refine r_sld (k9 := b + 2) dL_law_693 scS hb.2.2.1 ?_
  refine r_aload_n (x := 111) dL_law_694 rfl ?_
  obtain ⟨x1, S2, h3, h⟩ := bI_e h
  refine r_lSW (n := 4) (y := mL_pour) (As := [.ref 0, .int (xs (b + 1)), .int (xs (b + 2)), .ref 111]) (rest := []) scS dL_law_695 qL_163 wL_pour sL_pour wIniL ⟨by decide, by decide, by decide +kernel⟩ (by decide) rfl (okL_pour N (xs (b + 1)) (xs (b + 2)) S x1 S2 h3) (by decide) hM rfl (Nat.le_of_ble_eq_true rfl) (fun scS2 => ?_)
  refine r_istore (L' := [some (.ref 1000), some (.ref 0), some (.ref 80), some (.ref 111), some (.int i), some (.int x1), none]) dL_law_698 (Nat.le_of_ble_eq_true rfl) rfl rfl ?_
  refine r_aload_n (x := 80) dL_law_700 rfl ?_
  refine r_aload_n (x := 1000) dL_law_701 rfl ?_
  refine r_iload (x := i) dL_law_702 rfl ?_
  refine r_iconst (v := 1) dL_law_704 rfl ?_
  refine r_iadd dL_law_705 ?_
  refine r_sld (k9 := b + 1) dL_law_706 scS2 hb.2.1 ?_
  refine r_aload_n (x := 1000) dL_law_707 rfl ?_
  refine r_iload (x := i) dL_law_708 rfl ?_
  refine r_iconst (v := 2) dL_law_710 rfl ?_
  refine r_iadd dL_law_711 ?_
  refine r_sld (k9 := b + 2) dL_law_712 scS2 hb.2.2.1 ?_
  obtain ⟨x4, S5, h6, h⟩ := bI_e h
  refine r_lVI (y := mX12_pour) (As := [.int (xs (b + 1)), .int (xs (b + 2))]) (rest := []) scS2 dL_law_713 qL_165 kX12_pour rfl ob80 vc12 rfl (okX12_pour N (xs (b + 1)) (xs (b + 2)) S2 x4 S5 h6) (by decide) (by omega) rfl (Nat.le_of_ble_eq_true rfl) (fun scS5 => ?_)
  refine r_istore (L' := [some (.ref 1000), some (.ref 0), some (.ref 80), some (.ref 111), some (.int i), some (.int x1), some (.int x4)]) dL_law_716 (Nat.le_of_ble_eq_true rfl) rfl rfl ?_
  refine r_aload_n (x := 80) dL_law_718 rfl ?_
  obtain ⟨x7, S8, h9, h⟩ := bI_e h
  refine r_lVI (y := mX12_thrown) (As := []) (rest := []) scS5 dL_law_719 qL_137 kX12_thrown rfl ob80 vc12 rfl (okX12_thrown N  S5 x7 S8 h9) (by decide) (by omega) rfl (Nat.le_of_ble_eq_true rfl) (fun scS8 => ?_)
  refine r_iload (x := x1) dL_law_722 rfl ?_
  refine r_icmp_eq (tgt := 729) dL_law_724 (by decide) (fun c10 => ?_) (fun c10 => ?_)
  · rw [if_pos c10] at h
    refine r_iload (x := x1) dL_law_729 rfl ?_
    refine r_if_ne (tgt := 746) dL_law_731 (by decide) (fun c11 => ?_) (fun c11 => ?_)
    · rw [if_neg c11] at h
      refine r_goto (tgt := 2706) dL_law_746 (by decide) ?_
      cases h
      refine r_drop [true, true, true, true, true, false, false] rfl ?_
      exact k scS8 _ (by omega)
    · rw [if_pos c11] at h
      refine r_aload_n (x := 111) dL_law_734 rfl ?_
      refine r_iconst (v := 0) dL_law_735 rfl ?_
      refine r_laload (a := 111) (k9 := 0) dL_law_736 ck111 nC111 ⟨by decide, by decide⟩ ?_
      refine r_iload (x := x4) dL_law_737 rfl ?_
      refine r_i2l dL_law_739 ?_
      refine r_lcmp dL_law_740 ?_
      refine r_if_eq (tgt := 746) dL_law_741 (by decide) (fun c12 => ?_) (fun c12 => ?_)
      · rw [if_pos c12] at h
        refine r_goto (tgt := 2706) dL_law_746 (by decide) ?_
        cases h
        refine r_drop [true, true, true, true, true, false, false] rfl ?_
        exact k scS8 _ (by omega)
      · rw [if_neg c12] at h
        refine r_iconst (v := 0) dL_law_744 rfl ?_
        cases h
  · rw [if_neg c10] at h
    refine r_iconst (v := 0) dL_law_727 rfl ?_
    cases h
def fC9 (N : Nat) (xs : Nat → Int32) (b : Nat) (S : PS) : Option PS :=
  bI (fL_crack N (xs (b + 1)) (xs (b + 2)) S) fun x1 S2 =>
  bI (fX12_crack N (xs (b + 1)) (xs (b + 2)) S2) fun x4 S5 =>
  bI (fX12_thrown N S5) fun x7 S8 =>
  (if x7 = x1 then
    (if x1 = 0 then
      (if (lg_cmp (S8.2.1 111 0) x4.toInt64) = 0 then
        some S8
      else
        none)
    else
      some S8)
  else
    none)
set_option maxHeartbeats 4000000 in
set_option maxRecDepth 100000 in
theorem okC9 (N : Nat) (xs : Nat → Int32) (len b : Nat) (i : Int32) (Q : OQ) (M u : Nat) (S T : PS) (h : fC9 N xs b S = some T) (scS : SC xs len S) (hb : IB i len b) (hM : u + 8 ≤ M) (k : SC xs len T → ∀ u9, u9 ≤ u + 8 → WP [] mL_law 100 M Q 2706 [some (.ref 1000), some (.ref 0), some (.ref 80), some (.ref 111), some (.int i), none, none] [] T u9) : WP [] mL_law 100 M Q 749 [some (.ref 1000), some (.ref 0), some (.ref 80), some (.ref 111), some (.int i), none, none] [] S u := by
  unfold fC9 at h
  refine r_aload_n (x := 0) dL_law_749 rfl ?_
  refine r_aload_n (x := 1000) dL_law_750 rfl ?_
  refine r_iload (x := i) dL_law_751 rfl ?_
  refine r_iconst (v := 1) dL_law_753 rfl ?_
  refine r_iadd dL_law_754 ?_
  refine r_sld (k9 := b + 1) dL_law_755 scS hb.2.1 ?_
  refine r_aload_n (x := 1000) dL_law_756 rfl ?_
  refine r_iload (x := i) dL_law_757 rfl ?_
  refine r_iconst (v := 2) dL_law_759 rfl ?_
  refine r_iadd dL_law_760 ?_
  refine r_sld (k9 := b + 2) dL_law_761 scS hb.2.2.1 ?_
  refine r_aload_n (x := 111) dL_law_762 rfl ?_
  obtain ⟨x1, S2, h3, h⟩ := bI_e h
  refine r_lSW (n := 4) (y := mL_crack) (As := [.ref 0, .int (xs (b + 1)), .int (xs (b + 2)), .ref 111]) (rest := []) scS dL_law_763 qL_166 wL_crack sL_crack wIniL ⟨by decide, by decide, by decide +kernel⟩ (by decide) rfl (okL_crack N (xs (b + 1)) (xs (b + 2)) S x1 S2 h3) (by decide) hM rfl (Nat.le_of_ble_eq_true rfl) (fun scS2 => ?_)
  refine r_istore (L' := [some (.ref 1000), some (.ref 0), some (.ref 80), some (.ref 111), some (.int i), some (.int x1), none]) dL_law_766 (Nat.le_of_ble_eq_true rfl) rfl rfl ?_
  refine r_aload_n (x := 80) dL_law_768 rfl ?_
  refine r_aload_n (x := 1000) dL_law_769 rfl ?_
  refine r_iload (x := i) dL_law_770 rfl ?_
  refine r_iconst (v := 1) dL_law_772 rfl ?_
  refine r_iadd dL_law_773 ?_
  refine r_sld (k9 := b + 1) dL_law_774 scS2 hb.2.1 ?_
  refine r_aload_n (x := 1000) dL_law_775 rfl ?_
  refine r_iload (x := i) dL_law_776 rfl ?_
  refine r_iconst (v := 2) dL_law_778 rfl ?_
  refine r_iadd dL_law_779 ?_
  refine r_sld (k9 := b + 2) dL_law_780 scS2 hb.2.2.1 ?_
  obtain ⟨x4, S5, h6, h⟩ := bI_e h
  refine r_lVI (y := mX12_crack) (As := [.int (xs (b + 1)), .int (xs (b + 2))]) (rest := []) scS2 dL_law_781 qL_168 kX12_crack rfl ob80 vc12 rfl (okX12_crack N (xs (b + 1)) (xs (b + 2)) S2 x4 S5 h6) (by decide) (by omega) rfl (Nat.le_of_ble_eq_true rfl) (fun scS5 => ?_)
  refine r_istore (L' := [some (.ref 1000), some (.ref 0), some (.ref 80), some (.ref 111), some (.int i), some (.int x1), some (.int x4)]) dL_law_784 (Nat.le_of_ble_eq_true rfl) rfl rfl ?_
  refine r_aload_n (x := 80) dL_law_786 rfl ?_
  obtain ⟨x7, S8, h9, h⟩ := bI_e h
  refine r_lVI (y := mX12_thrown) (As := []) (rest := []) scS5 dL_law_787 qL_137 kX12_thrown rfl ob80 vc12 rfl (okX12_thrown N  S5 x7 S8 h9) (by decide) (by omega) rfl (Nat.le_of_ble_eq_true rfl) (fun scS8 => ?_)
  refine r_iload (x := x1) dL_law_790 rfl ?_
  refine r_icmp_eq (tgt := 797) dL_law_792 (by decide) (fun c10 => ?_) (fun c10 => ?_)
  · rw [if_pos c10] at h
    refine r_iload (x := x1) dL_law_797 rfl ?_
    refine r_if_ne (tgt := 814) dL_law_799 (by decide) (fun c11 => ?_) (fun c11 => ?_)
    · rw [if_neg c11] at h
      refine r_goto (tgt := 2706) dL_law_814 (by decide) ?_
      cases h
      refine r_drop [true, true, true, true, true, false, false] rfl ?_
      exact k scS8 _ (by omega)
    · rw [if_pos c11] at h
      refine r_aload_n (x := 111) dL_law_802 rfl ?_
      refine r_iconst (v := 0) dL_law_803 rfl ?_
      refine r_laload (a := 111) (k9 := 0) dL_law_804 ck111 nC111 ⟨by decide, by decide⟩ ?_
      refine r_iload (x := x4) dL_law_805 rfl ?_
      refine r_i2l dL_law_807 ?_
      refine r_lcmp dL_law_808 ?_
      refine r_if_eq (tgt := 814) dL_law_809 (by decide) (fun c12 => ?_) (fun c12 => ?_)
      · rw [if_pos c12] at h
        refine r_goto (tgt := 2706) dL_law_814 (by decide) ?_
        cases h
        refine r_drop [true, true, true, true, true, false, false] rfl ?_
        exact k scS8 _ (by omega)
      · rw [if_neg c12] at h
        refine r_iconst (v := 0) dL_law_812 rfl ?_
        cases h
  · rw [if_neg c10] at h
    refine r_iconst (v := 0) dL_law_795 rfl ?_
    cases h
def fC10 (N : Nat) (xs : Nat → Int32) (b : Nat) (S : PS) : Option PS :=
  bI (fX11_undo N S) fun x1 S2 =>
  bI (fX12_undo N S2) fun x4 S5 =>
  (if x1 = x4 then
    some S5
  else
    none)
set_option maxHeartbeats 4000000 in
set_option maxRecDepth 100000 in
theorem okC10 (N : Nat) (xs : Nat → Int32) (len b : Nat) (i : Int32) (Q : OQ) (M u : Nat) (S T : PS) (h : fC10 N xs b S = some T) (scS : SC xs len S) (hb : IB i len b) (hM : u + 8 ≤ M) (k : SC xs len T → ∀ u9, u9 ≤ u + 8 → WP [] mL_law 100 M Q 2706 [some (.ref 1000), some (.ref 0), some (.ref 80), some (.ref 111), some (.int i), none, none] [] T u9) : WP [] mL_law 100 M Q 817 [some (.ref 1000), some (.ref 0), some (.ref 80), some (.ref 111), some (.int i), none, none] [] S u := by
  unfold fC10 at h
  refine r_aload_n (x := 0) dL_law_817 rfl ?_
  obtain ⟨x1, S2, h3, h⟩ := bI_e h
  refine r_lVI (y := mX11_undo) (As := []) (rest := []) scS dL_law_818 qL_169 kX11_undo rfl ob0 vc11 rfl (okX11_undo N  S x1 S2 h3) (by decide) (by omega) rfl (Nat.le_of_ble_eq_true rfl) (fun scS2 => ?_)
  refine r_aload_n (x := 80) dL_law_821 rfl ?_
  obtain ⟨x4, S5, h6, h⟩ := bI_e h
  refine r_lVI (y := mX12_undo) (As := []) (rest := [.int x1]) scS2 dL_law_822 qL_172 kX12_undo rfl ob80 vc12 rfl (okX12_undo N  S2 x4 S5 h6) (by decide) (by omega) rfl (Nat.le_of_ble_eq_true rfl) (fun scS5 => ?_)
  refine r_icmp_eq (tgt := 2706) dL_law_825 (by decide) (fun c7 => ?_) (fun c7 => ?_)
  · rw [if_pos c7] at h
    cases h
    exact k scS5 _ (by omega)
  · rw [if_neg c7] at h
    refine r_iconst (v := 0) dL_law_828 rfl ?_
    cases h
def fC11 (N : Nat) (xs : Nat → Int32) (b : Nat) (S : PS) : Option PS :=
  bI (fL_then N (xs (b + 1)) (xs (b + 2)) (xs (b + 3)) S) fun x1 S2 =>
  bI (fX12_then N (xs (b + 1)) (xs (b + 2)) (xs (b + 3)) S2) fun x4 S5 =>
  bI (fX12_thrown N S5) fun x7 S8 =>
  (if x7 = x1 then
    (if x1 = 0 then
      (if (lg_cmp (S8.2.1 111 0) x4.toInt64) = 0 then
        some S8
      else
        none)
    else
      some S8)
  else
    none)
set_option maxHeartbeats 4000000 in
set_option maxRecDepth 100000 in
theorem okC11 (N : Nat) (xs : Nat → Int32) (len b : Nat) (i : Int32) (Q : OQ) (M u : Nat) (S T : PS) (h : fC11 N xs b S = some T) (scS : SC xs len S) (hb : IB i len b) (hM : u + 8 ≤ M) (k : SC xs len T → ∀ u9, u9 ≤ u + 8 → WP [] mL_law 100 M Q 2706 [some (.ref 1000), some (.ref 0), some (.ref 80), some (.ref 111), some (.int i), none, none] [] T u9) : WP [] mL_law 100 M Q 830 [some (.ref 1000), some (.ref 0), some (.ref 80), some (.ref 111), some (.int i), none, none] [] S u := by
  unfold fC11 at h
  refine r_aload_n (x := 0) dL_law_830 rfl ?_
  refine r_aload_n (x := 1000) dL_law_831 rfl ?_
  refine r_iload (x := i) dL_law_832 rfl ?_
  refine r_iconst (v := 1) dL_law_834 rfl ?_
  refine r_iadd dL_law_835 ?_
  refine r_sld (k9 := b + 1) dL_law_836 scS hb.2.1 ?_
  refine r_aload_n (x := 1000) dL_law_837 rfl ?_
  refine r_iload (x := i) dL_law_838 rfl ?_
  refine r_iconst (v := 2) dL_law_840 rfl ?_
  refine r_iadd dL_law_841 ?_
  refine r_sld (k9 := b + 2) dL_law_842 scS hb.2.2.1 ?_
  refine r_aload_n (x := 1000) dL_law_843 rfl ?_
  refine r_iload (x := i) dL_law_844 rfl ?_
  refine r_iconst (v := 3) dL_law_846 rfl ?_
  refine r_iadd dL_law_847 ?_
  refine r_sld (k9 := b + 3) dL_law_848 scS hb.2.2.2.1 ?_
  refine r_aload_n (x := 111) dL_law_849 rfl ?_
  obtain ⟨x1, S2, h3, h⟩ := bI_e h
  refine r_lSW (n := 5) (y := mL_then) (As := [.ref 0, .int (xs (b + 1)), .int (xs (b + 2)), .int (xs (b + 3)), .ref 111]) (rest := []) scS dL_law_850 qL_173 wL_then sL_then wIniL ⟨by decide, by decide, by decide +kernel⟩ (by decide) rfl (okL_then N (xs (b + 1)) (xs (b + 2)) (xs (b + 3)) S x1 S2 h3) (by decide) hM rfl (Nat.le_of_ble_eq_true rfl) (fun scS2 => ?_)
  refine r_istore (L' := [some (.ref 1000), some (.ref 0), some (.ref 80), some (.ref 111), some (.int i), some (.int x1), none]) dL_law_853 (Nat.le_of_ble_eq_true rfl) rfl rfl ?_
  refine r_aload_n (x := 80) dL_law_855 rfl ?_
  refine r_aload_n (x := 1000) dL_law_856 rfl ?_
  refine r_iload (x := i) dL_law_857 rfl ?_
  refine r_iconst (v := 1) dL_law_859 rfl ?_
  refine r_iadd dL_law_860 ?_
  refine r_sld (k9 := b + 1) dL_law_861 scS2 hb.2.1 ?_
  refine r_aload_n (x := 1000) dL_law_862 rfl ?_
  refine r_iload (x := i) dL_law_863 rfl ?_
  refine r_iconst (v := 2) dL_law_865 rfl ?_
  refine r_iadd dL_law_866 ?_
  refine r_sld (k9 := b + 2) dL_law_867 scS2 hb.2.2.1 ?_
  refine r_aload_n (x := 1000) dL_law_868 rfl ?_
  refine r_iload (x := i) dL_law_869 rfl ?_
  refine r_iconst (v := 3) dL_law_871 rfl ?_
  refine r_iadd dL_law_872 ?_
  refine r_sld (k9 := b + 3) dL_law_873 scS2 hb.2.2.2.1 ?_
  obtain ⟨x4, S5, h6, h⟩ := bI_e h
  refine r_lVI (y := mX12_then) (As := [.int (xs (b + 1)), .int (xs (b + 2)), .int (xs (b + 3))]) (rest := []) scS2 dL_law_874 qL_176 kX12_then rfl ob80 vc12 rfl (okX12_then N (xs (b + 1)) (xs (b + 2)) (xs (b + 3)) S2 x4 S5 h6) (by decide) (by omega) rfl (Nat.le_of_ble_eq_true rfl) (fun scS5 => ?_)
  refine r_istore (L' := [some (.ref 1000), some (.ref 0), some (.ref 80), some (.ref 111), some (.int i), some (.int x1), some (.int x4)]) dL_law_877 (Nat.le_of_ble_eq_true rfl) rfl rfl ?_
  refine r_aload_n (x := 80) dL_law_879 rfl ?_
  obtain ⟨x7, S8, h9, h⟩ := bI_e h
  refine r_lVI (y := mX12_thrown) (As := []) (rest := []) scS5 dL_law_880 qL_137 kX12_thrown rfl ob80 vc12 rfl (okX12_thrown N  S5 x7 S8 h9) (by decide) (by omega) rfl (Nat.le_of_ble_eq_true rfl) (fun scS8 => ?_)
  refine r_iload (x := x1) dL_law_883 rfl ?_
  refine r_icmp_eq (tgt := 890) dL_law_885 (by decide) (fun c10 => ?_) (fun c10 => ?_)
  · rw [if_pos c10] at h
    refine r_iload (x := x1) dL_law_890 rfl ?_
    refine r_if_ne (tgt := 907) dL_law_892 (by decide) (fun c11 => ?_) (fun c11 => ?_)
    · rw [if_neg c11] at h
      refine r_goto (tgt := 2706) dL_law_907 (by decide) ?_
      cases h
      refine r_drop [true, true, true, true, true, false, false] rfl ?_
      exact k scS8 _ (by omega)
    · rw [if_pos c11] at h
      refine r_aload_n (x := 111) dL_law_895 rfl ?_
      refine r_iconst (v := 0) dL_law_896 rfl ?_
      refine r_laload (a := 111) (k9 := 0) dL_law_897 ck111 nC111 ⟨by decide, by decide⟩ ?_
      refine r_iload (x := x4) dL_law_898 rfl ?_
      refine r_i2l dL_law_900 ?_
      refine r_lcmp dL_law_901 ?_
      refine r_if_eq (tgt := 907) dL_law_902 (by decide) (fun c12 => ?_) (fun c12 => ?_)
      · rw [if_pos c12] at h
        refine r_goto (tgt := 2706) dL_law_907 (by decide) ?_
        cases h
        refine r_drop [true, true, true, true, true, false, false] rfl ?_
        exact k scS8 _ (by omega)
      · rw [if_neg c12] at h
        refine r_iconst (v := 0) dL_law_905 rfl ?_
        cases h
  · rw [if_neg c10] at h
    refine r_iconst (v := 0) dL_law_888 rfl ?_
    cases h
def fC12 (N : Nat) (xs : Nat → Int32) (b : Nat) (S : PS) : Option PS :=
  bI (fL_tipping N (xs (b + 1)) S) fun x1 S2 =>
  bI (fX12_tipping N (xs (b + 1)) S2) fun x4 S5 =>
  bI (fX12_thrown N S5) fun x7 S8 =>
  (if x7 = x1 then
    (if x1 = 0 then
      (if (lg_cmp (S8.2.1 111 0) x4.toInt64) = 0 then
        some S8
      else
        none)
    else
      some S8)
  else
    none)
set_option maxHeartbeats 4000000 in
set_option maxRecDepth 100000 in
theorem okC12 (N : Nat) (xs : Nat → Int32) (len b : Nat) (i : Int32) (Q : OQ) (M u : Nat) (S T : PS) (h : fC12 N xs b S = some T) (scS : SC xs len S) (hb : IB i len b) (hM : u + 8 ≤ M) (k : SC xs len T → ∀ u9, u9 ≤ u + 8 → WP [] mL_law 100 M Q 2706 [some (.ref 1000), some (.ref 0), some (.ref 80), some (.ref 111), some (.int i), none, none] [] T u9) : WP [] mL_law 100 M Q 910 [some (.ref 1000), some (.ref 0), some (.ref 80), some (.ref 111), some (.int i), none, none] [] S u := by
  unfold fC12 at h
  refine r_aload_n (x := 0) dL_law_910 rfl ?_
  refine r_aload_n (x := 1000) dL_law_911 rfl ?_
  refine r_iload (x := i) dL_law_912 rfl ?_
  refine r_iconst (v := 1) dL_law_914 rfl ?_
  refine r_iadd dL_law_915 ?_
  refine r_sld (k9 := b + 1) dL_law_916 scS hb.2.1 ?_
  refine r_aload_n (x := 111) dL_law_917 rfl ?_
  obtain ⟨x1, S2, h3, h⟩ := bI_e h
  refine r_lSW (n := 3) (y := mL_tipping) (As := [.ref 0, .int (xs (b + 1)), .ref 111]) (rest := []) scS dL_law_918 qL_177 wL_tipping sL_tipping wIniL ⟨by decide, by decide, by decide +kernel⟩ (by decide) rfl (okL_tipping N (xs (b + 1)) S x1 S2 h3) (by decide) hM rfl (Nat.le_of_ble_eq_true rfl) (fun scS2 => ?_)
  refine r_istore (L' := [some (.ref 1000), some (.ref 0), some (.ref 80), some (.ref 111), some (.int i), some (.int x1), none]) dL_law_921 (Nat.le_of_ble_eq_true rfl) rfl rfl ?_
  refine r_aload_n (x := 80) dL_law_923 rfl ?_
  refine r_aload_n (x := 1000) dL_law_924 rfl ?_
  refine r_iload (x := i) dL_law_925 rfl ?_
  refine r_iconst (v := 1) dL_law_927 rfl ?_
  refine r_iadd dL_law_928 ?_
  refine r_sld (k9 := b + 1) dL_law_929 scS2 hb.2.1 ?_
  obtain ⟨x4, S5, h6, h⟩ := bI_e h
  refine r_lVI (y := mX12_tipping) (As := [.int (xs (b + 1))]) (rest := []) scS2 dL_law_930 qL_179 kX12_tipping rfl ob80 vc12 rfl (okX12_tipping N (xs (b + 1)) S2 x4 S5 h6) (by decide) (by omega) rfl (Nat.le_of_ble_eq_true rfl) (fun scS5 => ?_)
  refine r_istore (L' := [some (.ref 1000), some (.ref 0), some (.ref 80), some (.ref 111), some (.int i), some (.int x1), some (.int x4)]) dL_law_933 (Nat.le_of_ble_eq_true rfl) rfl rfl ?_
  refine r_aload_n (x := 80) dL_law_935 rfl ?_
  obtain ⟨x7, S8, h9, h⟩ := bI_e h
  refine r_lVI (y := mX12_thrown) (As := []) (rest := []) scS5 dL_law_936 qL_137 kX12_thrown rfl ob80 vc12 rfl (okX12_thrown N  S5 x7 S8 h9) (by decide) (by omega) rfl (Nat.le_of_ble_eq_true rfl) (fun scS8 => ?_)
  refine r_iload (x := x1) dL_law_939 rfl ?_
  refine r_icmp_eq (tgt := 946) dL_law_941 (by decide) (fun c10 => ?_) (fun c10 => ?_)
  · rw [if_pos c10] at h
    refine r_iload (x := x1) dL_law_946 rfl ?_
    refine r_if_ne (tgt := 963) dL_law_948 (by decide) (fun c11 => ?_) (fun c11 => ?_)
    · rw [if_neg c11] at h
      refine r_goto (tgt := 2706) dL_law_963 (by decide) ?_
      cases h
      refine r_drop [true, true, true, true, true, false, false] rfl ?_
      exact k scS8 _ (by omega)
    · rw [if_pos c11] at h
      refine r_aload_n (x := 111) dL_law_951 rfl ?_
      refine r_iconst (v := 0) dL_law_952 rfl ?_
      refine r_laload (a := 111) (k9 := 0) dL_law_953 ck111 nC111 ⟨by decide, by decide⟩ ?_
      refine r_iload (x := x4) dL_law_954 rfl ?_
      refine r_i2l dL_law_956 ?_
      refine r_lcmp dL_law_957 ?_
      refine r_if_eq (tgt := 963) dL_law_958 (by decide) (fun c12 => ?_) (fun c12 => ?_)
      · rw [if_pos c12] at h
        refine r_goto (tgt := 2706) dL_law_963 (by decide) ?_
        cases h
        refine r_drop [true, true, true, true, true, false, false] rfl ?_
        exact k scS8 _ (by omega)
      · rw [if_neg c12] at h
        refine r_iconst (v := 0) dL_law_961 rfl ?_
        cases h
  · rw [if_neg c10] at h
    refine r_iconst (v := 0) dL_law_944 rfl ?_
    cases h
def fC13 (N : Nat) (xs : Nat → Int32) (b : Nat) (S : PS) : Option PS :=
  bI (fL_next N (xs (b + 1)) S) fun x1 S2 =>
  bI (fX12_next N (xs (b + 1)) S2) fun x4 S5 =>
  bI (fX12_thrown N S5) fun x7 S8 =>
  (if x7 = x1 then
    (if x1 = 0 then
      (if (lg_cmp (S8.2.1 111 0) x4.toInt64) = 0 then
        some S8
      else
        none)
    else
      some S8)
  else
    none)
set_option maxHeartbeats 4000000 in
set_option maxRecDepth 100000 in
theorem okC13 (N : Nat) (xs : Nat → Int32) (len b : Nat) (i : Int32) (Q : OQ) (M u : Nat) (S T : PS) (h : fC13 N xs b S = some T) (scS : SC xs len S) (hb : IB i len b) (hM : u + 8 ≤ M) (k : SC xs len T → ∀ u9, u9 ≤ u + 8 → WP [] mL_law 100 M Q 2706 [some (.ref 1000), some (.ref 0), some (.ref 80), some (.ref 111), some (.int i), none, none] [] T u9) : WP [] mL_law 100 M Q 966 [some (.ref 1000), some (.ref 0), some (.ref 80), some (.ref 111), some (.int i), none, none] [] S u := by
  unfold fC13 at h
  refine r_aload_n (x := 0) dL_law_966 rfl ?_
  refine r_aload_n (x := 1000) dL_law_967 rfl ?_
  refine r_iload (x := i) dL_law_968 rfl ?_
  refine r_iconst (v := 1) dL_law_970 rfl ?_
  refine r_iadd dL_law_971 ?_
  refine r_sld (k9 := b + 1) dL_law_972 scS hb.2.1 ?_
  refine r_aload_n (x := 111) dL_law_973 rfl ?_
  obtain ⟨x1, S2, h3, h⟩ := bI_e h
  refine r_lSW (n := 3) (y := mL_next) (As := [.ref 0, .int (xs (b + 1)), .ref 111]) (rest := []) scS dL_law_974 qL_180 wL_next sL_next wIniL ⟨by decide, by decide, by decide +kernel⟩ (by decide) rfl (okL_next N (xs (b + 1)) S x1 S2 h3) (by decide) hM rfl (Nat.le_of_ble_eq_true rfl) (fun scS2 => ?_)
  refine r_istore (L' := [some (.ref 1000), some (.ref 0), some (.ref 80), some (.ref 111), some (.int i), some (.int x1), none]) dL_law_977 (Nat.le_of_ble_eq_true rfl) rfl rfl ?_
  refine r_aload_n (x := 80) dL_law_979 rfl ?_
  refine r_aload_n (x := 1000) dL_law_980 rfl ?_
  refine r_iload (x := i) dL_law_981 rfl ?_
  refine r_iconst (v := 1) dL_law_983 rfl ?_
  refine r_iadd dL_law_984 ?_
  refine r_sld (k9 := b + 1) dL_law_985 scS2 hb.2.1 ?_
  obtain ⟨x4, S5, h6, h⟩ := bI_e h
  refine r_lVI (y := mX12_next) (As := [.int (xs (b + 1))]) (rest := []) scS2 dL_law_986 qL_182 kX12_next rfl ob80 vc12 rfl (okX12_next N (xs (b + 1)) S2 x4 S5 h6) (by decide) (by omega) rfl (Nat.le_of_ble_eq_true rfl) (fun scS5 => ?_)
  refine r_istore (L' := [some (.ref 1000), some (.ref 0), some (.ref 80), some (.ref 111), some (.int i), some (.int x1), some (.int x4)]) dL_law_989 (Nat.le_of_ble_eq_true rfl) rfl rfl ?_
  refine r_aload_n (x := 80) dL_law_991 rfl ?_
  obtain ⟨x7, S8, h9, h⟩ := bI_e h
  refine r_lVI (y := mX12_thrown) (As := []) (rest := []) scS5 dL_law_992 qL_137 kX12_thrown rfl ob80 vc12 rfl (okX12_thrown N  S5 x7 S8 h9) (by decide) (by omega) rfl (Nat.le_of_ble_eq_true rfl) (fun scS8 => ?_)
  refine r_iload (x := x1) dL_law_995 rfl ?_
  refine r_icmp_eq (tgt := 1002) dL_law_997 (by decide) (fun c10 => ?_) (fun c10 => ?_)
  · rw [if_pos c10] at h
    refine r_iload (x := x1) dL_law_1002 rfl ?_
    refine r_if_ne (tgt := 1019) dL_law_1004 (by decide) (fun c11 => ?_) (fun c11 => ?_)
    · rw [if_neg c11] at h
      refine r_goto (tgt := 2706) dL_law_1019 (by decide) ?_
      cases h
      refine r_drop [true, true, true, true, true, false, false] rfl ?_
      exact k scS8 _ (by omega)
    · rw [if_pos c11] at h
      refine r_aload_n (x := 111) dL_law_1007 rfl ?_
      refine r_iconst (v := 0) dL_law_1008 rfl ?_
      refine r_laload (a := 111) (k9 := 0) dL_law_1009 ck111 nC111 ⟨by decide, by decide⟩ ?_
      refine r_iload (x := x4) dL_law_1010 rfl ?_
      refine r_i2l dL_law_1012 ?_
      refine r_lcmp dL_law_1013 ?_
      refine r_if_eq (tgt := 1019) dL_law_1014 (by decide) (fun c12 => ?_) (fun c12 => ?_)
      · rw [if_pos c12] at h
        refine r_goto (tgt := 2706) dL_law_1019 (by decide) ?_
        cases h
        refine r_drop [true, true, true, true, true, false, false] rfl ?_
        exact k scS8 _ (by omega)
      · rw [if_neg c12] at h
        refine r_iconst (v := 0) dL_law_1017 rfl ?_
        cases h
  · rw [if_neg c10] at h
    refine r_iconst (v := 0) dL_law_1000 rfl ?_
    cases h
def fC14 (N : Nat) (xs : Nat → Int32) (b : Nat) (S : PS) : Option PS :=
  bI (fL_together N (xs (b + 1)) S) fun x1 S2 =>
  bI (fX12_together N (xs (b + 1)) S2) fun x4 S5 =>
  bI (fX12_thrown N S5) fun x7 S8 =>
  (if x7 = x1 then
    (if x1 = 0 then
      (if (lg_cmp (S8.2.1 111 0) x4.toInt64) = 0 then
        some S8
      else
        none)
    else
      some S8)
  else
    none)
set_option maxHeartbeats 4000000 in
set_option maxRecDepth 100000 in
theorem okC14 (N : Nat) (xs : Nat → Int32) (len b : Nat) (i : Int32) (Q : OQ) (M u : Nat) (S T : PS) (h : fC14 N xs b S = some T) (scS : SC xs len S) (hb : IB i len b) (hM : u + 8 ≤ M) (k : SC xs len T → ∀ u9, u9 ≤ u + 8 → WP [] mL_law 100 M Q 2706 [some (.ref 1000), some (.ref 0), some (.ref 80), some (.ref 111), some (.int i), none, none] [] T u9) : WP [] mL_law 100 M Q 1022 [some (.ref 1000), some (.ref 0), some (.ref 80), some (.ref 111), some (.int i), none, none] [] S u := by
  unfold fC14 at h
  refine r_aload_n (x := 0) dL_law_1022 rfl ?_
  refine r_aload_n (x := 1000) dL_law_1023 rfl ?_
  refine r_iload (x := i) dL_law_1024 rfl ?_
  refine r_iconst (v := 1) dL_law_1026 rfl ?_
  refine r_iadd dL_law_1027 ?_
  refine r_sld (k9 := b + 1) dL_law_1028 scS hb.2.1 ?_
  refine r_aload_n (x := 111) dL_law_1029 rfl ?_
  obtain ⟨x1, S2, h3, h⟩ := bI_e h
  refine r_lSW (n := 3) (y := mL_together) (As := [.ref 0, .int (xs (b + 1)), .ref 111]) (rest := []) scS dL_law_1030 qL_183 wL_together sL_together wIniL ⟨by decide, by decide, by decide +kernel⟩ (by decide) rfl (okL_together N (xs (b + 1)) S x1 S2 h3) (by decide) hM rfl (Nat.le_of_ble_eq_true rfl) (fun scS2 => ?_)
  refine r_istore (L' := [some (.ref 1000), some (.ref 0), some (.ref 80), some (.ref 111), some (.int i), some (.int x1), none]) dL_law_1033 (Nat.le_of_ble_eq_true rfl) rfl rfl ?_
  refine r_aload_n (x := 80) dL_law_1035 rfl ?_
  refine r_aload_n (x := 1000) dL_law_1036 rfl ?_
  refine r_iload (x := i) dL_law_1037 rfl ?_
  refine r_iconst (v := 1) dL_law_1039 rfl ?_
  refine r_iadd dL_law_1040 ?_
  refine r_sld (k9 := b + 1) dL_law_1041 scS2 hb.2.1 ?_
  obtain ⟨x4, S5, h6, h⟩ := bI_e h
  refine r_lVI (y := mX12_together) (As := [.int (xs (b + 1))]) (rest := []) scS2 dL_law_1042 qL_185 kX12_together rfl ob80 vc12 rfl (okX12_together N (xs (b + 1)) S2 x4 S5 h6) (by decide) (by omega) rfl (Nat.le_of_ble_eq_true rfl) (fun scS5 => ?_)
  refine r_istore (L' := [some (.ref 1000), some (.ref 0), some (.ref 80), some (.ref 111), some (.int i), some (.int x1), some (.int x4)]) dL_law_1045 (Nat.le_of_ble_eq_true rfl) rfl rfl ?_
  refine r_aload_n (x := 80) dL_law_1047 rfl ?_
  obtain ⟨x7, S8, h9, h⟩ := bI_e h
  refine r_lVI (y := mX12_thrown) (As := []) (rest := []) scS5 dL_law_1048 qL_137 kX12_thrown rfl ob80 vc12 rfl (okX12_thrown N  S5 x7 S8 h9) (by decide) (by omega) rfl (Nat.le_of_ble_eq_true rfl) (fun scS8 => ?_)
  refine r_iload (x := x1) dL_law_1051 rfl ?_
  refine r_icmp_eq (tgt := 1058) dL_law_1053 (by decide) (fun c10 => ?_) (fun c10 => ?_)
  · rw [if_pos c10] at h
    refine r_iload (x := x1) dL_law_1058 rfl ?_
    refine r_if_ne (tgt := 1075) dL_law_1060 (by decide) (fun c11 => ?_) (fun c11 => ?_)
    · rw [if_neg c11] at h
      refine r_goto (tgt := 2706) dL_law_1075 (by decide) ?_
      cases h
      refine r_drop [true, true, true, true, true, false, false] rfl ?_
      exact k scS8 _ (by omega)
    · rw [if_pos c11] at h
      refine r_aload_n (x := 111) dL_law_1063 rfl ?_
      refine r_iconst (v := 0) dL_law_1064 rfl ?_
      refine r_laload (a := 111) (k9 := 0) dL_law_1065 ck111 nC111 ⟨by decide, by decide⟩ ?_
      refine r_iload (x := x4) dL_law_1066 rfl ?_
      refine r_i2l dL_law_1068 ?_
      refine r_lcmp dL_law_1069 ?_
      refine r_if_eq (tgt := 1075) dL_law_1070 (by decide) (fun c12 => ?_) (fun c12 => ?_)
      · rw [if_pos c12] at h
        refine r_goto (tgt := 2706) dL_law_1075 (by decide) ?_
        cases h
        refine r_drop [true, true, true, true, true, false, false] rfl ?_
        exact k scS8 _ (by omega)
      · rw [if_neg c12] at h
        refine r_iconst (v := 0) dL_law_1073 rfl ?_
        cases h
  · rw [if_neg c10] at h
    refine r_iconst (v := 0) dL_law_1056 rfl ?_
    cases h
def fC15 (N : Nat) (xs : Nat → Int32) (b : Nat) (S : PS) : Option PS :=
  bI (fL_sound N (xs (b + 1)) (xs (b + 2)) S) fun x1 S2 =>
  bI (fX12_sound N (xs (b + 1)) (xs (b + 2)) S2) fun x4 S5 =>
  bI (fX12_thrown N S5) fun x7 S8 =>
  (if x7 = x1 then
    (if x1 = 0 then
      (if (lg_cmp (S8.2.1 111 0) x4.toInt64) = 0 then
        some S8
      else
        none)
    else
      some S8)
  else
    none)
set_option maxHeartbeats 4000000 in
set_option maxRecDepth 100000 in
theorem okC15 (N : Nat) (xs : Nat → Int32) (len b : Nat) (i : Int32) (Q : OQ) (M u : Nat) (S T : PS) (h : fC15 N xs b S = some T) (scS : SC xs len S) (hb : IB i len b) (hM : u + 8 ≤ M) (k : SC xs len T → ∀ u9, u9 ≤ u + 8 → WP [] mL_law 100 M Q 2706 [some (.ref 1000), some (.ref 0), some (.ref 80), some (.ref 111), some (.int i), none, none] [] T u9) : WP [] mL_law 100 M Q 1078 [some (.ref 1000), some (.ref 0), some (.ref 80), some (.ref 111), some (.int i), none, none] [] S u := by
  unfold fC15 at h
  refine r_aload_n (x := 0) dL_law_1078 rfl ?_
  refine r_aload_n (x := 1000) dL_law_1079 rfl ?_
  refine r_iload (x := i) dL_law_1080 rfl ?_
  refine r_iconst (v := 1) dL_law_1082 rfl ?_
  refine r_iadd dL_law_1083 ?_
  refine r_sld (k9 := b + 1) dL_law_1084 scS hb.2.1 ?_
  refine r_aload_n (x := 1000) dL_law_1085 rfl ?_
  refine r_iload (x := i) dL_law_1086 rfl ?_
  refine r_iconst (v := 2) dL_law_1088 rfl ?_
  refine r_iadd dL_law_1089 ?_
  refine r_sld (k9 := b + 2) dL_law_1090 scS hb.2.2.1 ?_
  refine r_aload_n (x := 111) dL_law_1091 rfl ?_
  obtain ⟨x1, S2, h3, h⟩ := bI_e h
  refine r_lSW (n := 4) (y := mL_sound) (As := [.ref 0, .int (xs (b + 1)), .int (xs (b + 2)), .ref 111]) (rest := []) scS dL_law_1092 qL_186 wL_sound sL_sound wIniL ⟨by decide, by decide, by decide +kernel⟩ (by decide) rfl (okL_sound N (xs (b + 1)) (xs (b + 2)) S x1 S2 h3) (by decide) hM rfl (Nat.le_of_ble_eq_true rfl) (fun scS2 => ?_)
  refine r_istore (L' := [some (.ref 1000), some (.ref 0), some (.ref 80), some (.ref 111), some (.int i), some (.int x1), none]) dL_law_1095 (Nat.le_of_ble_eq_true rfl) rfl rfl ?_
  refine r_aload_n (x := 80) dL_law_1097 rfl ?_
  refine r_aload_n (x := 1000) dL_law_1098 rfl ?_
  refine r_iload (x := i) dL_law_1099 rfl ?_
  refine r_iconst (v := 1) dL_law_1101 rfl ?_
  refine r_iadd dL_law_1102 ?_
  refine r_sld (k9 := b + 1) dL_law_1103 scS2 hb.2.1 ?_
  refine r_aload_n (x := 1000) dL_law_1104 rfl ?_
  refine r_iload (x := i) dL_law_1105 rfl ?_
  refine r_iconst (v := 2) dL_law_1107 rfl ?_
  refine r_iadd dL_law_1108 ?_
  refine r_sld (k9 := b + 2) dL_law_1109 scS2 hb.2.2.1 ?_
  obtain ⟨x4, S5, h6, h⟩ := bI_e h
  refine r_lVI (y := mX12_sound) (As := [.int (xs (b + 1)), .int (xs (b + 2))]) (rest := []) scS2 dL_law_1110 qL_188 kX12_sound rfl ob80 vc12 rfl (okX12_sound N (xs (b + 1)) (xs (b + 2)) S2 x4 S5 h6) (by decide) (by omega) rfl (Nat.le_of_ble_eq_true rfl) (fun scS5 => ?_)
  refine r_istore (L' := [some (.ref 1000), some (.ref 0), some (.ref 80), some (.ref 111), some (.int i), some (.int x1), some (.int x4)]) dL_law_1113 (Nat.le_of_ble_eq_true rfl) rfl rfl ?_
  refine r_aload_n (x := 80) dL_law_1115 rfl ?_
  obtain ⟨x7, S8, h9, h⟩ := bI_e h
  refine r_lVI (y := mX12_thrown) (As := []) (rest := []) scS5 dL_law_1116 qL_137 kX12_thrown rfl ob80 vc12 rfl (okX12_thrown N  S5 x7 S8 h9) (by decide) (by omega) rfl (Nat.le_of_ble_eq_true rfl) (fun scS8 => ?_)
  refine r_iload (x := x1) dL_law_1119 rfl ?_
  refine r_icmp_eq (tgt := 1126) dL_law_1121 (by decide) (fun c10 => ?_) (fun c10 => ?_)
  · rw [if_pos c10] at h
    refine r_iload (x := x1) dL_law_1126 rfl ?_
    refine r_if_ne (tgt := 1143) dL_law_1128 (by decide) (fun c11 => ?_) (fun c11 => ?_)
    · rw [if_neg c11] at h
      refine r_goto (tgt := 2706) dL_law_1143 (by decide) ?_
      cases h
      refine r_drop [true, true, true, true, true, false, false] rfl ?_
      exact k scS8 _ (by omega)
    · rw [if_pos c11] at h
      refine r_aload_n (x := 111) dL_law_1131 rfl ?_
      refine r_iconst (v := 0) dL_law_1132 rfl ?_
      refine r_laload (a := 111) (k9 := 0) dL_law_1133 ck111 nC111 ⟨by decide, by decide⟩ ?_
      refine r_iload (x := x4) dL_law_1134 rfl ?_
      refine r_i2l dL_law_1136 ?_
      refine r_lcmp dL_law_1137 ?_
      refine r_if_eq (tgt := 1143) dL_law_1138 (by decide) (fun c12 => ?_) (fun c12 => ?_)
      · rw [if_pos c12] at h
        refine r_goto (tgt := 2706) dL_law_1143 (by decide) ?_
        cases h
        refine r_drop [true, true, true, true, true, false, false] rfl ?_
        exact k scS8 _ (by omega)
      · rw [if_neg c12] at h
        refine r_iconst (v := 0) dL_law_1141 rfl ?_
        cases h
  · rw [if_neg c10] at h
    refine r_iconst (v := 0) dL_law_1124 rfl ?_
    cases h
def fC16 (N : Nat) (xs : Nat → Int32) (b : Nat) (S : PS) : Option PS :=
  bI (fL_fallen N (xs (b + 1)) (xs (b + 2)) S) fun x1 S2 =>
  bI (fX12_fallen N (xs (b + 1)) (xs (b + 2)) S2) fun x4 S5 =>
  bI (fX12_thrown N S5) fun x7 S8 =>
  (if x7 = x1 then
    (if x1 = 0 then
      (if (lg_cmp (S8.2.1 111 0) x4.toInt64) = 0 then
        some S8
      else
        none)
    else
      some S8)
  else
    none)
set_option maxHeartbeats 4000000 in
set_option maxRecDepth 100000 in
theorem okC16 (N : Nat) (xs : Nat → Int32) (len b : Nat) (i : Int32) (Q : OQ) (M u : Nat) (S T : PS) (h : fC16 N xs b S = some T) (scS : SC xs len S) (hb : IB i len b) (hM : u + 8 ≤ M) (k : SC xs len T → ∀ u9, u9 ≤ u + 8 → WP [] mL_law 100 M Q 2706 [some (.ref 1000), some (.ref 0), some (.ref 80), some (.ref 111), some (.int i), none, none] [] T u9) : WP [] mL_law 100 M Q 1146 [some (.ref 1000), some (.ref 0), some (.ref 80), some (.ref 111), some (.int i), none, none] [] S u := by
  unfold fC16 at h
  refine r_aload_n (x := 0) dL_law_1146 rfl ?_
  refine r_aload_n (x := 1000) dL_law_1147 rfl ?_
  refine r_iload (x := i) dL_law_1148 rfl ?_
  refine r_iconst (v := 1) dL_law_1150 rfl ?_
  refine r_iadd dL_law_1151 ?_
  refine r_sld (k9 := b + 1) dL_law_1152 scS hb.2.1 ?_
  refine r_aload_n (x := 1000) dL_law_1153 rfl ?_
  refine r_iload (x := i) dL_law_1154 rfl ?_
  refine r_iconst (v := 2) dL_law_1156 rfl ?_
  refine r_iadd dL_law_1157 ?_
  refine r_sld (k9 := b + 2) dL_law_1158 scS hb.2.2.1 ?_
  refine r_aload_n (x := 111) dL_law_1159 rfl ?_
  obtain ⟨x1, S2, h3, h⟩ := bI_e h
  refine r_lSW (n := 4) (y := mL_fallen) (As := [.ref 0, .int (xs (b + 1)), .int (xs (b + 2)), .ref 111]) (rest := []) scS dL_law_1160 qL_189 wL_fallen sL_fallen wIniL ⟨by decide, by decide, by decide +kernel⟩ (by decide) rfl (okL_fallen N (xs (b + 1)) (xs (b + 2)) S x1 S2 h3) (by decide) hM rfl (Nat.le_of_ble_eq_true rfl) (fun scS2 => ?_)
  refine r_istore (L' := [some (.ref 1000), some (.ref 0), some (.ref 80), some (.ref 111), some (.int i), some (.int x1), none]) dL_law_1163 (Nat.le_of_ble_eq_true rfl) rfl rfl ?_
  refine r_aload_n (x := 80) dL_law_1165 rfl ?_
  refine r_aload_n (x := 1000) dL_law_1166 rfl ?_
  refine r_iload (x := i) dL_law_1167 rfl ?_
  refine r_iconst (v := 1) dL_law_1169 rfl ?_
  refine r_iadd dL_law_1170 ?_
  refine r_sld (k9 := b + 1) dL_law_1171 scS2 hb.2.1 ?_
  refine r_aload_n (x := 1000) dL_law_1172 rfl ?_
  refine r_iload (x := i) dL_law_1173 rfl ?_
  refine r_iconst (v := 2) dL_law_1175 rfl ?_
  refine r_iadd dL_law_1176 ?_
  refine r_sld (k9 := b + 2) dL_law_1177 scS2 hb.2.2.1 ?_
  obtain ⟨x4, S5, h6, h⟩ := bI_e h
  refine r_lVI (y := mX12_fallen) (As := [.int (xs (b + 1)), .int (xs (b + 2))]) (rest := []) scS2 dL_law_1178 qL_191 kX12_fallen rfl ob80 vc12 rfl (okX12_fallen N (xs (b + 1)) (xs (b + 2)) S2 x4 S5 h6) (by decide) (by omega) rfl (Nat.le_of_ble_eq_true rfl) (fun scS5 => ?_)
  refine r_istore (L' := [some (.ref 1000), some (.ref 0), some (.ref 80), some (.ref 111), some (.int i), some (.int x1), some (.int x4)]) dL_law_1181 (Nat.le_of_ble_eq_true rfl) rfl rfl ?_
  refine r_aload_n (x := 80) dL_law_1183 rfl ?_
  obtain ⟨x7, S8, h9, h⟩ := bI_e h
  refine r_lVI (y := mX12_thrown) (As := []) (rest := []) scS5 dL_law_1184 qL_137 kX12_thrown rfl ob80 vc12 rfl (okX12_thrown N  S5 x7 S8 h9) (by decide) (by omega) rfl (Nat.le_of_ble_eq_true rfl) (fun scS8 => ?_)
  refine r_iload (x := x1) dL_law_1187 rfl ?_
  refine r_icmp_eq (tgt := 1194) dL_law_1189 (by decide) (fun c10 => ?_) (fun c10 => ?_)
  · rw [if_pos c10] at h
    refine r_iload (x := x1) dL_law_1194 rfl ?_
    refine r_if_ne (tgt := 1211) dL_law_1196 (by decide) (fun c11 => ?_) (fun c11 => ?_)
    · rw [if_neg c11] at h
      refine r_goto (tgt := 2706) dL_law_1211 (by decide) ?_
      cases h
      refine r_drop [true, true, true, true, true, false, false] rfl ?_
      exact k scS8 _ (by omega)
    · rw [if_pos c11] at h
      refine r_aload_n (x := 111) dL_law_1199 rfl ?_
      refine r_iconst (v := 0) dL_law_1200 rfl ?_
      refine r_laload (a := 111) (k9 := 0) dL_law_1201 ck111 nC111 ⟨by decide, by decide⟩ ?_
      refine r_iload (x := x4) dL_law_1202 rfl ?_
      refine r_i2l dL_law_1204 ?_
      refine r_lcmp dL_law_1205 ?_
      refine r_if_eq (tgt := 1211) dL_law_1206 (by decide) (fun c12 => ?_) (fun c12 => ?_)
      · rw [if_pos c12] at h
        refine r_goto (tgt := 2706) dL_law_1211 (by decide) ?_
        cases h
        refine r_drop [true, true, true, true, true, false, false] rfl ?_
        exact k scS8 _ (by omega)
      · rw [if_neg c12] at h
        refine r_iconst (v := 0) dL_law_1209 rfl ?_
        cases h
  · rw [if_neg c10] at h
    refine r_iconst (v := 0) dL_law_1192 rfl ?_
    cases h
def fC17 (N : Nat) (xs : Nat → Int32) (b : Nat) (S : PS) : Option PS :=
  bI (fL_nth N (xs (b + 1)) (xs (b + 2)) S) fun x1 S2 =>
  bI (fX12_nth N (xs (b + 1)) (xs (b + 2)) S2) fun x4 S5 =>
  bI (fX12_thrown N S5) fun x7 S8 =>
  (if x7 = x1 then
    (if x1 = 0 then
      (if (lg_cmp (S8.2.1 111 0) x4.toInt64) = 0 then
        some S8
      else
        none)
    else
      some S8)
  else
    none)
set_option maxHeartbeats 4000000 in
set_option maxRecDepth 100000 in
theorem okC17 (N : Nat) (xs : Nat → Int32) (len b : Nat) (i : Int32) (Q : OQ) (M u : Nat) (S T : PS) (h : fC17 N xs b S = some T) (scS : SC xs len S) (hb : IB i len b) (hM : u + 8 ≤ M) (k : SC xs len T → ∀ u9, u9 ≤ u + 8 → WP [] mL_law 100 M Q 2706 [some (.ref 1000), some (.ref 0), some (.ref 80), some (.ref 111), some (.int i), none, none] [] T u9) : WP [] mL_law 100 M Q 1214 [some (.ref 1000), some (.ref 0), some (.ref 80), some (.ref 111), some (.int i), none, none] [] S u := by
  unfold fC17 at h
  refine r_aload_n (x := 0) dL_law_1214 rfl ?_
  refine r_aload_n (x := 1000) dL_law_1215 rfl ?_
  refine r_iload (x := i) dL_law_1216 rfl ?_
  refine r_iconst (v := 1) dL_law_1218 rfl ?_
  refine r_iadd dL_law_1219 ?_
  refine r_sld (k9 := b + 1) dL_law_1220 scS hb.2.1 ?_
  refine r_aload_n (x := 1000) dL_law_1221 rfl ?_
  refine r_iload (x := i) dL_law_1222 rfl ?_
  refine r_iconst (v := 2) dL_law_1224 rfl ?_
  refine r_iadd dL_law_1225 ?_
  refine r_sld (k9 := b + 2) dL_law_1226 scS hb.2.2.1 ?_
  refine r_aload_n (x := 111) dL_law_1227 rfl ?_
  obtain ⟨x1, S2, h3, h⟩ := bI_e h
  refine r_lSW (n := 4) (y := mL_nth) (As := [.ref 0, .int (xs (b + 1)), .int (xs (b + 2)), .ref 111]) (rest := []) scS dL_law_1228 qL_192 wL_nth sL_nth wIniL ⟨by decide, by decide, by decide +kernel⟩ (by decide) rfl (okL_nth N (xs (b + 1)) (xs (b + 2)) S x1 S2 h3) (by decide) hM rfl (Nat.le_of_ble_eq_true rfl) (fun scS2 => ?_)
  refine r_istore (L' := [some (.ref 1000), some (.ref 0), some (.ref 80), some (.ref 111), some (.int i), some (.int x1), none]) dL_law_1231 (Nat.le_of_ble_eq_true rfl) rfl rfl ?_
  refine r_aload_n (x := 80) dL_law_1233 rfl ?_
  refine r_aload_n (x := 1000) dL_law_1234 rfl ?_
  refine r_iload (x := i) dL_law_1235 rfl ?_
  refine r_iconst (v := 1) dL_law_1237 rfl ?_
  refine r_iadd dL_law_1238 ?_
  refine r_sld (k9 := b + 1) dL_law_1239 scS2 hb.2.1 ?_
  refine r_aload_n (x := 1000) dL_law_1240 rfl ?_
  refine r_iload (x := i) dL_law_1241 rfl ?_
  refine r_iconst (v := 2) dL_law_1243 rfl ?_
  refine r_iadd dL_law_1244 ?_
  refine r_sld (k9 := b + 2) dL_law_1245 scS2 hb.2.2.1 ?_
  obtain ⟨x4, S5, h6, h⟩ := bI_e h
  refine r_lVI (y := mX12_nth) (As := [.int (xs (b + 1)), .int (xs (b + 2))]) (rest := []) scS2 dL_law_1246 qL_194 kX12_nth rfl ob80 vc12 rfl (okX12_nth N (xs (b + 1)) (xs (b + 2)) S2 x4 S5 h6) (by decide) (by omega) rfl (Nat.le_of_ble_eq_true rfl) (fun scS5 => ?_)
  refine r_istore (L' := [some (.ref 1000), some (.ref 0), some (.ref 80), some (.ref 111), some (.int i), some (.int x1), some (.int x4)]) dL_law_1249 (Nat.le_of_ble_eq_true rfl) rfl rfl ?_
  refine r_aload_n (x := 80) dL_law_1251 rfl ?_
  obtain ⟨x7, S8, h9, h⟩ := bI_e h
  refine r_lVI (y := mX12_thrown) (As := []) (rest := []) scS5 dL_law_1252 qL_137 kX12_thrown rfl ob80 vc12 rfl (okX12_thrown N  S5 x7 S8 h9) (by decide) (by omega) rfl (Nat.le_of_ble_eq_true rfl) (fun scS8 => ?_)
  refine r_iload (x := x1) dL_law_1255 rfl ?_
  refine r_icmp_eq (tgt := 1262) dL_law_1257 (by decide) (fun c10 => ?_) (fun c10 => ?_)
  · rw [if_pos c10] at h
    refine r_iload (x := x1) dL_law_1262 rfl ?_
    refine r_if_ne (tgt := 1279) dL_law_1264 (by decide) (fun c11 => ?_) (fun c11 => ?_)
    · rw [if_neg c11] at h
      refine r_goto (tgt := 2706) dL_law_1279 (by decide) ?_
      cases h
      refine r_drop [true, true, true, true, true, false, false] rfl ?_
      exact k scS8 _ (by omega)
    · rw [if_pos c11] at h
      refine r_aload_n (x := 111) dL_law_1267 rfl ?_
      refine r_iconst (v := 0) dL_law_1268 rfl ?_
      refine r_laload (a := 111) (k9 := 0) dL_law_1269 ck111 nC111 ⟨by decide, by decide⟩ ?_
      refine r_iload (x := x4) dL_law_1270 rfl ?_
      refine r_i2l dL_law_1272 ?_
      refine r_lcmp dL_law_1273 ?_
      refine r_if_eq (tgt := 1279) dL_law_1274 (by decide) (fun c12 => ?_) (fun c12 => ?_)
      · rw [if_pos c12] at h
        refine r_goto (tgt := 2706) dL_law_1279 (by decide) ?_
        cases h
        refine r_drop [true, true, true, true, true, false, false] rfl ?_
        exact k scS8 _ (by omega)
      · rw [if_neg c12] at h
        refine r_iconst (v := 0) dL_law_1277 rfl ?_
        cases h
  · rw [if_neg c10] at h
    refine r_iconst (v := 0) dL_law_1260 rfl ?_
    cases h
def fC18 (N : Nat) (xs : Nat → Int32) (b : Nat) (S : PS) : Option PS :=
  bI (fL_meeting N (xs (b + 1)) S) fun x1 S2 =>
  bI (fX12_meeting N (xs (b + 1)) S2) fun x4 S5 =>
  bI (fX12_thrown N S5) fun x7 S8 =>
  (if x7 = x1 then
    (if x1 = 0 then
      (if (lg_cmp (S8.2.1 111 0) x4.toInt64) = 0 then
        some S8
      else
        none)
    else
      some S8)
  else
    none)
set_option maxHeartbeats 4000000 in
set_option maxRecDepth 100000 in
theorem okC18 (N : Nat) (xs : Nat → Int32) (len b : Nat) (i : Int32) (Q : OQ) (M u : Nat) (S T : PS) (h : fC18 N xs b S = some T) (scS : SC xs len S) (hb : IB i len b) (hM : u + 8 ≤ M) (k : SC xs len T → ∀ u9, u9 ≤ u + 8 → WP [] mL_law 100 M Q 2706 [some (.ref 1000), some (.ref 0), some (.ref 80), some (.ref 111), some (.int i), none, none] [] T u9) : WP [] mL_law 100 M Q 1282 [some (.ref 1000), some (.ref 0), some (.ref 80), some (.ref 111), some (.int i), none, none] [] S u := by
  unfold fC18 at h
  refine r_aload_n (x := 0) dL_law_1282 rfl ?_
  refine r_aload_n (x := 1000) dL_law_1283 rfl ?_
  refine r_iload (x := i) dL_law_1284 rfl ?_
  refine r_iconst (v := 1) dL_law_1286 rfl ?_
  refine r_iadd dL_law_1287 ?_
  refine r_sld (k9 := b + 1) dL_law_1288 scS hb.2.1 ?_
  refine r_aload_n (x := 111) dL_law_1289 rfl ?_
  obtain ⟨x1, S2, h3, h⟩ := bI_e h
  refine r_lSW (n := 3) (y := mL_meeting) (As := [.ref 0, .int (xs (b + 1)), .ref 111]) (rest := []) scS dL_law_1290 qL_195 wL_meeting sL_meeting wIniL ⟨by decide, by decide, by decide +kernel⟩ (by decide) rfl (okL_meeting N (xs (b + 1)) S x1 S2 h3) (by decide) hM rfl (Nat.le_of_ble_eq_true rfl) (fun scS2 => ?_)
  refine r_istore (L' := [some (.ref 1000), some (.ref 0), some (.ref 80), some (.ref 111), some (.int i), some (.int x1), none]) dL_law_1293 (Nat.le_of_ble_eq_true rfl) rfl rfl ?_
  refine r_aload_n (x := 80) dL_law_1295 rfl ?_
  refine r_aload_n (x := 1000) dL_law_1296 rfl ?_
  refine r_iload (x := i) dL_law_1297 rfl ?_
  refine r_iconst (v := 1) dL_law_1299 rfl ?_
  refine r_iadd dL_law_1300 ?_
  refine r_sld (k9 := b + 1) dL_law_1301 scS2 hb.2.1 ?_
  obtain ⟨x4, S5, h6, h⟩ := bI_e h
  refine r_lVI (y := mX12_meeting) (As := [.int (xs (b + 1))]) (rest := []) scS2 dL_law_1302 qL_197 kX12_meeting rfl ob80 vc12 rfl (okX12_meeting N (xs (b + 1)) S2 x4 S5 h6) (by decide) (by omega) rfl (Nat.le_of_ble_eq_true rfl) (fun scS5 => ?_)
  refine r_istore (L' := [some (.ref 1000), some (.ref 0), some (.ref 80), some (.ref 111), some (.int i), some (.int x1), some (.int x4)]) dL_law_1305 (Nat.le_of_ble_eq_true rfl) rfl rfl ?_
  refine r_aload_n (x := 80) dL_law_1307 rfl ?_
  obtain ⟨x7, S8, h9, h⟩ := bI_e h
  refine r_lVI (y := mX12_thrown) (As := []) (rest := []) scS5 dL_law_1308 qL_137 kX12_thrown rfl ob80 vc12 rfl (okX12_thrown N  S5 x7 S8 h9) (by decide) (by omega) rfl (Nat.le_of_ble_eq_true rfl) (fun scS8 => ?_)
  refine r_iload (x := x1) dL_law_1311 rfl ?_
  refine r_icmp_eq (tgt := 1318) dL_law_1313 (by decide) (fun c10 => ?_) (fun c10 => ?_)
  · rw [if_pos c10] at h
    refine r_iload (x := x1) dL_law_1318 rfl ?_
    refine r_if_ne (tgt := 1335) dL_law_1320 (by decide) (fun c11 => ?_) (fun c11 => ?_)
    · rw [if_neg c11] at h
      refine r_goto (tgt := 2706) dL_law_1335 (by decide) ?_
      cases h
      refine r_drop [true, true, true, true, true, false, false] rfl ?_
      exact k scS8 _ (by omega)
    · rw [if_pos c11] at h
      refine r_aload_n (x := 111) dL_law_1323 rfl ?_
      refine r_iconst (v := 0) dL_law_1324 rfl ?_
      refine r_laload (a := 111) (k9 := 0) dL_law_1325 ck111 nC111 ⟨by decide, by decide⟩ ?_
      refine r_iload (x := x4) dL_law_1326 rfl ?_
      refine r_i2l dL_law_1328 ?_
      refine r_lcmp dL_law_1329 ?_
      refine r_if_eq (tgt := 1335) dL_law_1330 (by decide) (fun c12 => ?_) (fun c12 => ?_)
      · rw [if_pos c12] at h
        refine r_goto (tgt := 2706) dL_law_1335 (by decide) ?_
        cases h
        refine r_drop [true, true, true, true, true, false, false] rfl ?_
        exact k scS8 _ (by omega)
      · rw [if_neg c12] at h
        refine r_iconst (v := 0) dL_law_1333 rfl ?_
        cases h
  · rw [if_neg c10] at h
    refine r_iconst (v := 0) dL_law_1316 rfl ?_
    cases h
def fC19 (N : Nat) (xs : Nat → Int32) (b : Nat) (S : PS) : Option PS :=
  bI (fL_flow N (xs (b + 1)) (xs (b + 2)) S) fun x1 S2 =>
  bI (fX12_flow N (xs (b + 1)) (xs (b + 2)) S2) fun x4 S5 =>
  bI (fX12_thrown N S5) fun x7 S8 =>
  (if x7 = x1 then
    (if x1 = 0 then
      (if (lg_cmp (S8.2.1 111 0) x4.toInt64) = 0 then
        some S8
      else
        none)
    else
      some S8)
  else
    none)
set_option maxHeartbeats 4000000 in
set_option maxRecDepth 100000 in
theorem okC19 (N : Nat) (xs : Nat → Int32) (len b : Nat) (i : Int32) (Q : OQ) (M u : Nat) (S T : PS) (h : fC19 N xs b S = some T) (scS : SC xs len S) (hb : IB i len b) (hM : u + 8 ≤ M) (k : SC xs len T → ∀ u9, u9 ≤ u + 8 → WP [] mL_law 100 M Q 2706 [some (.ref 1000), some (.ref 0), some (.ref 80), some (.ref 111), some (.int i), none, none] [] T u9) : WP [] mL_law 100 M Q 1338 [some (.ref 1000), some (.ref 0), some (.ref 80), some (.ref 111), some (.int i), none, none] [] S u := by
  unfold fC19 at h
  refine r_aload_n (x := 0) dL_law_1338 rfl ?_
  refine r_aload_n (x := 1000) dL_law_1339 rfl ?_
  refine r_iload (x := i) dL_law_1340 rfl ?_
  refine r_iconst (v := 1) dL_law_1342 rfl ?_
  refine r_iadd dL_law_1343 ?_
  refine r_sld (k9 := b + 1) dL_law_1344 scS hb.2.1 ?_
  refine r_aload_n (x := 1000) dL_law_1345 rfl ?_
  refine r_iload (x := i) dL_law_1346 rfl ?_
  refine r_iconst (v := 2) dL_law_1348 rfl ?_
  refine r_iadd dL_law_1349 ?_
  refine r_sld (k9 := b + 2) dL_law_1350 scS hb.2.2.1 ?_
  refine r_aload_n (x := 111) dL_law_1351 rfl ?_
  obtain ⟨x1, S2, h3, h⟩ := bI_e h
  refine r_lSW (n := 4) (y := mL_flow) (As := [.ref 0, .int (xs (b + 1)), .int (xs (b + 2)), .ref 111]) (rest := []) scS dL_law_1352 qL_198 wL_flow sL_flow wIniL ⟨by decide, by decide, by decide +kernel⟩ (by decide) rfl (okL_flow N (xs (b + 1)) (xs (b + 2)) S x1 S2 h3) (by decide) hM rfl (Nat.le_of_ble_eq_true rfl) (fun scS2 => ?_)
  refine r_istore (L' := [some (.ref 1000), some (.ref 0), some (.ref 80), some (.ref 111), some (.int i), some (.int x1), none]) dL_law_1355 (Nat.le_of_ble_eq_true rfl) rfl rfl ?_
  refine r_aload_n (x := 80) dL_law_1357 rfl ?_
  refine r_aload_n (x := 1000) dL_law_1358 rfl ?_
  refine r_iload (x := i) dL_law_1359 rfl ?_
  refine r_iconst (v := 1) dL_law_1361 rfl ?_
  refine r_iadd dL_law_1362 ?_
  refine r_sld (k9 := b + 1) dL_law_1363 scS2 hb.2.1 ?_
  refine r_aload_n (x := 1000) dL_law_1364 rfl ?_
  refine r_iload (x := i) dL_law_1365 rfl ?_
  refine r_iconst (v := 2) dL_law_1367 rfl ?_
  refine r_iadd dL_law_1368 ?_
  refine r_sld (k9 := b + 2) dL_law_1369 scS2 hb.2.2.1 ?_
  obtain ⟨x4, S5, h6, h⟩ := bI_e h
  refine r_lVI (y := mX12_flow) (As := [.int (xs (b + 1)), .int (xs (b + 2))]) (rest := []) scS2 dL_law_1370 qL_200 kX12_flow rfl ob80 vc12 rfl (okX12_flow N (xs (b + 1)) (xs (b + 2)) S2 x4 S5 h6) (by decide) (by omega) rfl (Nat.le_of_ble_eq_true rfl) (fun scS5 => ?_)
  refine r_istore (L' := [some (.ref 1000), some (.ref 0), some (.ref 80), some (.ref 111), some (.int i), some (.int x1), some (.int x4)]) dL_law_1373 (Nat.le_of_ble_eq_true rfl) rfl rfl ?_
  refine r_aload_n (x := 80) dL_law_1375 rfl ?_
  obtain ⟨x7, S8, h9, h⟩ := bI_e h
  refine r_lVI (y := mX12_thrown) (As := []) (rest := []) scS5 dL_law_1376 qL_137 kX12_thrown rfl ob80 vc12 rfl (okX12_thrown N  S5 x7 S8 h9) (by decide) (by omega) rfl (Nat.le_of_ble_eq_true rfl) (fun scS8 => ?_)
  refine r_iload (x := x1) dL_law_1379 rfl ?_
  refine r_icmp_eq (tgt := 1386) dL_law_1381 (by decide) (fun c10 => ?_) (fun c10 => ?_)
  · rw [if_pos c10] at h
    refine r_iload (x := x1) dL_law_1386 rfl ?_
    refine r_if_ne (tgt := 1403) dL_law_1388 (by decide) (fun c11 => ?_) (fun c11 => ?_)
    · rw [if_neg c11] at h
      refine r_goto (tgt := 2706) dL_law_1403 (by decide) ?_
      cases h
      refine r_drop [true, true, true, true, true, false, false] rfl ?_
      exact k scS8 _ (by omega)
    · rw [if_pos c11] at h
      refine r_aload_n (x := 111) dL_law_1391 rfl ?_
      refine r_iconst (v := 0) dL_law_1392 rfl ?_
      refine r_laload (a := 111) (k9 := 0) dL_law_1393 ck111 nC111 ⟨by decide, by decide⟩ ?_
      refine r_iload (x := x4) dL_law_1394 rfl ?_
      refine r_i2l dL_law_1396 ?_
      refine r_lcmp dL_law_1397 ?_
      refine r_if_eq (tgt := 1403) dL_law_1398 (by decide) (fun c12 => ?_) (fun c12 => ?_)
      · rw [if_pos c12] at h
        refine r_goto (tgt := 2706) dL_law_1403 (by decide) ?_
        cases h
        refine r_drop [true, true, true, true, true, false, false] rfl ?_
        exact k scS8 _ (by omega)
      · rw [if_neg c12] at h
        refine r_iconst (v := 0) dL_law_1401 rfl ?_
        cases h
  · rw [if_neg c10] at h
    refine r_iconst (v := 0) dL_law_1384 rfl ?_
    cases h
def fC20 (N : Nat) (xs : Nat → Int32) (b : Nat) (S : PS) : Option PS :=
  bI (fL_tier N (xs (b + 1)) (xs (b + 2)) S) fun x1 S2 =>
  bI (fX12_tier N (xs (b + 1)) (xs (b + 2)) S2) fun x4 S5 =>
  bI (fX12_thrown N S5) fun x7 S8 =>
  (if x7 = x1 then
    (if x1 = 0 then
      (if (lg_cmp (S8.2.1 111 0) x4.toInt64) = 0 then
        some S8
      else
        none)
    else
      some S8)
  else
    none)
set_option maxHeartbeats 4000000 in
set_option maxRecDepth 100000 in
theorem okC20 (N : Nat) (xs : Nat → Int32) (len b : Nat) (i : Int32) (Q : OQ) (M u : Nat) (S T : PS) (h : fC20 N xs b S = some T) (scS : SC xs len S) (hb : IB i len b) (hM : u + 8 ≤ M) (k : SC xs len T → ∀ u9, u9 ≤ u + 8 → WP [] mL_law 100 M Q 2706 [some (.ref 1000), some (.ref 0), some (.ref 80), some (.ref 111), some (.int i), none, none] [] T u9) : WP [] mL_law 100 M Q 1406 [some (.ref 1000), some (.ref 0), some (.ref 80), some (.ref 111), some (.int i), none, none] [] S u := by
  unfold fC20 at h
  refine r_aload_n (x := 0) dL_law_1406 rfl ?_
  refine r_aload_n (x := 1000) dL_law_1407 rfl ?_
  refine r_iload (x := i) dL_law_1408 rfl ?_
  refine r_iconst (v := 1) dL_law_1410 rfl ?_
  refine r_iadd dL_law_1411 ?_
  refine r_sld (k9 := b + 1) dL_law_1412 scS hb.2.1 ?_
  refine r_aload_n (x := 1000) dL_law_1413 rfl ?_
  refine r_iload (x := i) dL_law_1414 rfl ?_
  refine r_iconst (v := 2) dL_law_1416 rfl ?_
  refine r_iadd dL_law_1417 ?_
  refine r_sld (k9 := b + 2) dL_law_1418 scS hb.2.2.1 ?_
  refine r_aload_n (x := 111) dL_law_1419 rfl ?_
  obtain ⟨x1, S2, h3, h⟩ := bI_e h
  refine r_lSW (n := 4) (y := mL_tier) (As := [.ref 0, .int (xs (b + 1)), .int (xs (b + 2)), .ref 111]) (rest := []) scS dL_law_1420 qL_201 wL_tier sL_tier wIniL ⟨by decide, by decide, by decide +kernel⟩ (by decide) rfl (okL_tier N (xs (b + 1)) (xs (b + 2)) S x1 S2 h3) (by decide) hM rfl (Nat.le_of_ble_eq_true rfl) (fun scS2 => ?_)
  refine r_istore (L' := [some (.ref 1000), some (.ref 0), some (.ref 80), some (.ref 111), some (.int i), some (.int x1), none]) dL_law_1423 (Nat.le_of_ble_eq_true rfl) rfl rfl ?_
  refine r_aload_n (x := 80) dL_law_1425 rfl ?_
  refine r_aload_n (x := 1000) dL_law_1426 rfl ?_
  refine r_iload (x := i) dL_law_1427 rfl ?_
  refine r_iconst (v := 1) dL_law_1429 rfl ?_
  refine r_iadd dL_law_1430 ?_
  refine r_sld (k9 := b + 1) dL_law_1431 scS2 hb.2.1 ?_
  refine r_aload_n (x := 1000) dL_law_1432 rfl ?_
  refine r_iload (x := i) dL_law_1433 rfl ?_
  refine r_iconst (v := 2) dL_law_1435 rfl ?_
  refine r_iadd dL_law_1436 ?_
  refine r_sld (k9 := b + 2) dL_law_1437 scS2 hb.2.2.1 ?_
  obtain ⟨x4, S5, h6, h⟩ := bI_e h
  refine r_lVI (y := mX12_tier) (As := [.int (xs (b + 1)), .int (xs (b + 2))]) (rest := []) scS2 dL_law_1438 qL_203 kX12_tier rfl ob80 vc12 rfl (okX12_tier N (xs (b + 1)) (xs (b + 2)) S2 x4 S5 h6) (by decide) (by omega) rfl (Nat.le_of_ble_eq_true rfl) (fun scS5 => ?_)
  refine r_istore (L' := [some (.ref 1000), some (.ref 0), some (.ref 80), some (.ref 111), some (.int i), some (.int x1), some (.int x4)]) dL_law_1441 (Nat.le_of_ble_eq_true rfl) rfl rfl ?_
  refine r_aload_n (x := 80) dL_law_1443 rfl ?_
  obtain ⟨x7, S8, h9, h⟩ := bI_e h
  refine r_lVI (y := mX12_thrown) (As := []) (rest := []) scS5 dL_law_1444 qL_137 kX12_thrown rfl ob80 vc12 rfl (okX12_thrown N  S5 x7 S8 h9) (by decide) (by omega) rfl (Nat.le_of_ble_eq_true rfl) (fun scS8 => ?_)
  refine r_iload (x := x1) dL_law_1447 rfl ?_
  refine r_icmp_eq (tgt := 1454) dL_law_1449 (by decide) (fun c10 => ?_) (fun c10 => ?_)
  · rw [if_pos c10] at h
    refine r_iload (x := x1) dL_law_1454 rfl ?_
    refine r_if_ne (tgt := 1471) dL_law_1456 (by decide) (fun c11 => ?_) (fun c11 => ?_)
    · rw [if_neg c11] at h
      refine r_goto (tgt := 2706) dL_law_1471 (by decide) ?_
      cases h
      refine r_drop [true, true, true, true, true, false, false] rfl ?_
      exact k scS8 _ (by omega)
    · rw [if_pos c11] at h
      refine r_aload_n (x := 111) dL_law_1459 rfl ?_
      refine r_iconst (v := 0) dL_law_1460 rfl ?_
      refine r_laload (a := 111) (k9 := 0) dL_law_1461 ck111 nC111 ⟨by decide, by decide⟩ ?_
      refine r_iload (x := x4) dL_law_1462 rfl ?_
      refine r_i2l dL_law_1464 ?_
      refine r_lcmp dL_law_1465 ?_
      refine r_if_eq (tgt := 1471) dL_law_1466 (by decide) (fun c12 => ?_) (fun c12 => ?_)
      · rw [if_pos c12] at h
        refine r_goto (tgt := 2706) dL_law_1471 (by decide) ?_
        cases h
        refine r_drop [true, true, true, true, true, false, false] rfl ?_
        exact k scS8 _ (by omega)
      · rw [if_neg c12] at h
        refine r_iconst (v := 0) dL_law_1469 rfl ?_
        cases h
  · rw [if_neg c10] at h
    refine r_iconst (v := 0) dL_law_1452 rfl ?_
    cases h
def fC21 (N : Nat) (xs : Nat → Int32) (b : Nat) (S : PS) : Option PS :=
  bI (fL_toCrack N (xs (b + 1)) (xs (b + 2)) (xs (b + 3)) (xs (b + 4)) S) fun x1 S2 =>
  bI (fX12_toCrack N (xs (b + 1)) (xs (b + 2)) (xs (b + 3)) (xs (b + 4)) S2) fun x4 S5 =>
  bI (fX12_thrown N S5) fun x7 S8 =>
  (if x7 = x1 then
    (if x1 = 0 then
      (if (lg_cmp (S8.2.1 111 0) x4.toInt64) = 0 then
        some S8
      else
        none)
    else
      some S8)
  else
    none)
set_option maxHeartbeats 4000000 in
set_option maxRecDepth 100000 in
theorem okC21 (N : Nat) (xs : Nat → Int32) (len b : Nat) (i : Int32) (Q : OQ) (M u : Nat) (S T : PS) (h : fC21 N xs b S = some T) (scS : SC xs len S) (hb : IB i len b) (hM : u + 8 ≤ M) (k : SC xs len T → ∀ u9, u9 ≤ u + 8 → WP [] mL_law 100 M Q 2706 [some (.ref 1000), some (.ref 0), some (.ref 80), some (.ref 111), some (.int i), none, none] [] T u9) : WP [] mL_law 100 M Q 1474 [some (.ref 1000), some (.ref 0), some (.ref 80), some (.ref 111), some (.int i), none, none] [] S u := by
  unfold fC21 at h
  refine r_aload_n (x := 0) dL_law_1474 rfl ?_
  refine r_aload_n (x := 1000) dL_law_1475 rfl ?_
  refine r_iload (x := i) dL_law_1476 rfl ?_
  refine r_iconst (v := 1) dL_law_1478 rfl ?_
  refine r_iadd dL_law_1479 ?_
  refine r_sld (k9 := b + 1) dL_law_1480 scS hb.2.1 ?_
  refine r_aload_n (x := 1000) dL_law_1481 rfl ?_
  refine r_iload (x := i) dL_law_1482 rfl ?_
  refine r_iconst (v := 2) dL_law_1484 rfl ?_
  refine r_iadd dL_law_1485 ?_
  refine r_sld (k9 := b + 2) dL_law_1486 scS hb.2.2.1 ?_
  refine r_aload_n (x := 1000) dL_law_1487 rfl ?_
  refine r_iload (x := i) dL_law_1488 rfl ?_
  refine r_iconst (v := 3) dL_law_1490 rfl ?_
  refine r_iadd dL_law_1491 ?_
  refine r_sld (k9 := b + 3) dL_law_1492 scS hb.2.2.2.1 ?_
  refine r_aload_n (x := 1000) dL_law_1493 rfl ?_
  refine r_iload (x := i) dL_law_1494 rfl ?_
  refine r_iconst (v := 4) dL_law_1496 rfl ?_
  refine r_iadd dL_law_1497 ?_
  refine r_sld (k9 := b + 4) dL_law_1498 scS hb.2.2.2.2.1 ?_
  refine r_aload_n (x := 111) dL_law_1499 rfl ?_
  obtain ⟨x1, S2, h3, h⟩ := bI_e h
  refine r_lSW (n := 6) (y := mL_toCrack) (As := [.ref 0, .int (xs (b + 1)), .int (xs (b + 2)), .int (xs (b + 3)), .int (xs (b + 4)), .ref 111]) (rest := []) scS dL_law_1500 qL_204 wL_toCrack sL_toCrack wIniL ⟨by decide, by decide, by decide +kernel⟩ (by decide) rfl (okL_toCrack N (xs (b + 1)) (xs (b + 2)) (xs (b + 3)) (xs (b + 4)) S x1 S2 h3) (by decide) hM rfl (Nat.le_of_ble_eq_true rfl) (fun scS2 => ?_)
  refine r_istore (L' := [some (.ref 1000), some (.ref 0), some (.ref 80), some (.ref 111), some (.int i), some (.int x1), none]) dL_law_1503 (Nat.le_of_ble_eq_true rfl) rfl rfl ?_
  refine r_aload_n (x := 80) dL_law_1505 rfl ?_
  refine r_aload_n (x := 1000) dL_law_1506 rfl ?_
  refine r_iload (x := i) dL_law_1507 rfl ?_
  refine r_iconst (v := 1) dL_law_1509 rfl ?_
  refine r_iadd dL_law_1510 ?_
  refine r_sld (k9 := b + 1) dL_law_1511 scS2 hb.2.1 ?_
  refine r_aload_n (x := 1000) dL_law_1512 rfl ?_
  refine r_iload (x := i) dL_law_1513 rfl ?_
  refine r_iconst (v := 2) dL_law_1515 rfl ?_
  refine r_iadd dL_law_1516 ?_
  refine r_sld (k9 := b + 2) dL_law_1517 scS2 hb.2.2.1 ?_
  refine r_aload_n (x := 1000) dL_law_1518 rfl ?_
  refine r_iload (x := i) dL_law_1519 rfl ?_
  refine r_iconst (v := 3) dL_law_1521 rfl ?_
  refine r_iadd dL_law_1522 ?_
  refine r_sld (k9 := b + 3) dL_law_1523 scS2 hb.2.2.2.1 ?_
  refine r_aload_n (x := 1000) dL_law_1524 rfl ?_
  refine r_iload (x := i) dL_law_1525 rfl ?_
  refine r_iconst (v := 4) dL_law_1527 rfl ?_
  refine r_iadd dL_law_1528 ?_
  refine r_sld (k9 := b + 4) dL_law_1529 scS2 hb.2.2.2.2.1 ?_
  obtain ⟨x4, S5, h6, h⟩ := bI_e h
  refine r_lVI (y := mX12_toCrack) (As := [.int (xs (b + 1)), .int (xs (b + 2)), .int (xs (b + 3)), .int (xs (b + 4))]) (rest := []) scS2 dL_law_1530 qL_207 kX12_toCrack rfl ob80 vc12 rfl (okX12_toCrack N (xs (b + 1)) (xs (b + 2)) (xs (b + 3)) (xs (b + 4)) S2 x4 S5 h6) (by decide) (by omega) rfl (Nat.le_of_ble_eq_true rfl) (fun scS5 => ?_)
  refine r_istore (L' := [some (.ref 1000), some (.ref 0), some (.ref 80), some (.ref 111), some (.int i), some (.int x1), some (.int x4)]) dL_law_1533 (Nat.le_of_ble_eq_true rfl) rfl rfl ?_
  refine r_aload_n (x := 80) dL_law_1535 rfl ?_
  obtain ⟨x7, S8, h9, h⟩ := bI_e h
  refine r_lVI (y := mX12_thrown) (As := []) (rest := []) scS5 dL_law_1536 qL_137 kX12_thrown rfl ob80 vc12 rfl (okX12_thrown N  S5 x7 S8 h9) (by decide) (by omega) rfl (Nat.le_of_ble_eq_true rfl) (fun scS8 => ?_)
  refine r_iload (x := x1) dL_law_1539 rfl ?_
  refine r_icmp_eq (tgt := 1546) dL_law_1541 (by decide) (fun c10 => ?_) (fun c10 => ?_)
  · rw [if_pos c10] at h
    refine r_iload (x := x1) dL_law_1546 rfl ?_
    refine r_if_ne (tgt := 1563) dL_law_1548 (by decide) (fun c11 => ?_) (fun c11 => ?_)
    · rw [if_neg c11] at h
      refine r_goto (tgt := 2706) dL_law_1563 (by decide) ?_
      cases h
      refine r_drop [true, true, true, true, true, false, false] rfl ?_
      exact k scS8 _ (by omega)
    · rw [if_pos c11] at h
      refine r_aload_n (x := 111) dL_law_1551 rfl ?_
      refine r_iconst (v := 0) dL_law_1552 rfl ?_
      refine r_laload (a := 111) (k9 := 0) dL_law_1553 ck111 nC111 ⟨by decide, by decide⟩ ?_
      refine r_iload (x := x4) dL_law_1554 rfl ?_
      refine r_i2l dL_law_1556 ?_
      refine r_lcmp dL_law_1557 ?_
      refine r_if_eq (tgt := 1563) dL_law_1558 (by decide) (fun c12 => ?_) (fun c12 => ?_)
      · rw [if_pos c12] at h
        refine r_goto (tgt := 2706) dL_law_1563 (by decide) ?_
        cases h
        refine r_drop [true, true, true, true, true, false, false] rfl ?_
        exact k scS8 _ (by omega)
      · rw [if_neg c12] at h
        refine r_iconst (v := 0) dL_law_1561 rfl ?_
        cases h
  · rw [if_neg c10] at h
    refine r_iconst (v := 0) dL_law_1544 rfl ?_
    cases h
def fC22 (N : Nat) (xs : Nat → Int32) (b : Nat) (S : PS) : Option PS :=
  bI (fL_office N (xs (b + 1)) (xs (b + 2)) S) fun x1 S2 =>
  bI (fX12_office N (xs (b + 1)) (xs (b + 2)) S2) fun x4 S5 =>
  bI (fX12_thrown N S5) fun x7 S8 =>
  (if x7 = x1 then
    (if x1 = 0 then
      (if (lg_cmp (S8.2.1 111 0) x4.toInt64) = 0 then
        some S8
      else
        none)
    else
      some S8)
  else
    none)
set_option maxHeartbeats 4000000 in
set_option maxRecDepth 100000 in
theorem okC22 (N : Nat) (xs : Nat → Int32) (len b : Nat) (i : Int32) (Q : OQ) (M u : Nat) (S T : PS) (h : fC22 N xs b S = some T) (scS : SC xs len S) (hb : IB i len b) (hM : u + 8 ≤ M) (k : SC xs len T → ∀ u9, u9 ≤ u + 8 → WP [] mL_law 100 M Q 2706 [some (.ref 1000), some (.ref 0), some (.ref 80), some (.ref 111), some (.int i), none, none] [] T u9) : WP [] mL_law 100 M Q 1566 [some (.ref 1000), some (.ref 0), some (.ref 80), some (.ref 111), some (.int i), none, none] [] S u := by
  unfold fC22 at h
  refine r_aload_n (x := 0) dL_law_1566 rfl ?_
  refine r_aload_n (x := 1000) dL_law_1567 rfl ?_
  refine r_iload (x := i) dL_law_1568 rfl ?_
  refine r_iconst (v := 1) dL_law_1570 rfl ?_
  refine r_iadd dL_law_1571 ?_
  refine r_sld (k9 := b + 1) dL_law_1572 scS hb.2.1 ?_
  refine r_aload_n (x := 1000) dL_law_1573 rfl ?_
  refine r_iload (x := i) dL_law_1574 rfl ?_
  refine r_iconst (v := 2) dL_law_1576 rfl ?_
  refine r_iadd dL_law_1577 ?_
  refine r_sld (k9 := b + 2) dL_law_1578 scS hb.2.2.1 ?_
  refine r_aload_n (x := 111) dL_law_1579 rfl ?_
  obtain ⟨x1, S2, h3, h⟩ := bI_e h
  refine r_lSW (n := 4) (y := mL_office) (As := [.ref 0, .int (xs (b + 1)), .int (xs (b + 2)), .ref 111]) (rest := []) scS dL_law_1580 qL_208 wL_office sL_office wIniL ⟨by decide, by decide, by decide +kernel⟩ (by decide) rfl (okL_office N (xs (b + 1)) (xs (b + 2)) S x1 S2 h3) (by decide) hM rfl (Nat.le_of_ble_eq_true rfl) (fun scS2 => ?_)
  refine r_istore (L' := [some (.ref 1000), some (.ref 0), some (.ref 80), some (.ref 111), some (.int i), some (.int x1), none]) dL_law_1583 (Nat.le_of_ble_eq_true rfl) rfl rfl ?_
  refine r_aload_n (x := 80) dL_law_1585 rfl ?_
  refine r_aload_n (x := 1000) dL_law_1586 rfl ?_
  refine r_iload (x := i) dL_law_1587 rfl ?_
  refine r_iconst (v := 1) dL_law_1589 rfl ?_
  refine r_iadd dL_law_1590 ?_
  refine r_sld (k9 := b + 1) dL_law_1591 scS2 hb.2.1 ?_
  refine r_aload_n (x := 1000) dL_law_1592 rfl ?_
  refine r_iload (x := i) dL_law_1593 rfl ?_
  refine r_iconst (v := 2) dL_law_1595 rfl ?_
  refine r_iadd dL_law_1596 ?_
  refine r_sld (k9 := b + 2) dL_law_1597 scS2 hb.2.2.1 ?_
  obtain ⟨x4, S5, h6, h⟩ := bI_e h
  refine r_lVI (y := mX12_office) (As := [.int (xs (b + 1)), .int (xs (b + 2))]) (rest := []) scS2 dL_law_1598 qL_210 kX12_office rfl ob80 vc12 rfl (okX12_office N (xs (b + 1)) (xs (b + 2)) S2 x4 S5 h6) (by decide) (by omega) rfl (Nat.le_of_ble_eq_true rfl) (fun scS5 => ?_)
  refine r_istore (L' := [some (.ref 1000), some (.ref 0), some (.ref 80), some (.ref 111), some (.int i), some (.int x1), some (.int x4)]) dL_law_1601 (Nat.le_of_ble_eq_true rfl) rfl rfl ?_
  refine r_aload_n (x := 80) dL_law_1603 rfl ?_
  obtain ⟨x7, S8, h9, h⟩ := bI_e h
  refine r_lVI (y := mX12_thrown) (As := []) (rest := []) scS5 dL_law_1604 qL_137 kX12_thrown rfl ob80 vc12 rfl (okX12_thrown N  S5 x7 S8 h9) (by decide) (by omega) rfl (Nat.le_of_ble_eq_true rfl) (fun scS8 => ?_)
  refine r_iload (x := x1) dL_law_1607 rfl ?_
  refine r_icmp_eq (tgt := 1614) dL_law_1609 (by decide) (fun c10 => ?_) (fun c10 => ?_)
  · rw [if_pos c10] at h
    refine r_iload (x := x1) dL_law_1614 rfl ?_
    refine r_if_ne (tgt := 1631) dL_law_1616 (by decide) (fun c11 => ?_) (fun c11 => ?_)
    · rw [if_neg c11] at h
      refine r_goto (tgt := 2706) dL_law_1631 (by decide) ?_
      cases h
      refine r_drop [true, true, true, true, true, false, false] rfl ?_
      exact k scS8 _ (by omega)
    · rw [if_pos c11] at h
      refine r_aload_n (x := 111) dL_law_1619 rfl ?_
      refine r_iconst (v := 0) dL_law_1620 rfl ?_
      refine r_laload (a := 111) (k9 := 0) dL_law_1621 ck111 nC111 ⟨by decide, by decide⟩ ?_
      refine r_iload (x := x4) dL_law_1622 rfl ?_
      refine r_i2l dL_law_1624 ?_
      refine r_lcmp dL_law_1625 ?_
      refine r_if_eq (tgt := 1631) dL_law_1626 (by decide) (fun c12 => ?_) (fun c12 => ?_)
      · rw [if_pos c12] at h
        refine r_goto (tgt := 2706) dL_law_1631 (by decide) ?_
        cases h
        refine r_drop [true, true, true, true, true, false, false] rfl ?_
        exact k scS8 _ (by omega)
      · rw [if_neg c12] at h
        refine r_iconst (v := 0) dL_law_1629 rfl ?_
        cases h
  · rw [if_neg c10] at h
    refine r_iconst (v := 0) dL_law_1612 rfl ?_
    cases h
def fC23 (N : Nat) (xs : Nat → Int32) (b : Nat) (S : PS) : Option PS :=
  lt ((if (xs (b + 3)) = 0 then 0 else 1) : Int32) fun x2 =>
  bI (fL_hear N (xs (b + 1)) (xs (b + 2)) x2 S) fun x3 S4 =>
  lt ((if (xs (b + 3)) = 0 then 0 else 1) : Int32) fun x7 =>
  bI (fX12_hear N (xs (b + 1)) (xs (b + 2)) x7 S4) fun x8 S9 =>
  bI (fX12_thrown N S9) fun x11 S12 =>
  (if x11 = x3 then
    (if x3 = 0 then
      (if (lg_cmp (S12.2.1 111 0) x8.toInt64) = 0 then
        some S12
      else
        none)
    else
      some S12)
  else
    none)
set_option maxHeartbeats 4000000 in
set_option maxRecDepth 100000 in
theorem okC23 (N : Nat) (xs : Nat → Int32) (len b : Nat) (i : Int32) (Q : OQ) (M u : Nat) (S T : PS) (h : fC23 N xs b S = some T) (scS : SC xs len S) (hb : IB i len b) (hM : u + 8 ≤ M) (k : SC xs len T → ∀ u9, u9 ≤ u + 8 → WP [] mL_law 100 M Q 2706 [some (.ref 1000), some (.ref 0), some (.ref 80), some (.ref 111), some (.int i), none, none] [] T u9) : WP [] mL_law 100 M Q 1634 [some (.ref 1000), some (.ref 0), some (.ref 80), some (.ref 111), some (.int i), none, none] [] S u := by
  unfold fC23 at h
  refine r_aload_n (x := 0) dL_law_1634 rfl ?_
  refine r_aload_n (x := 1000) dL_law_1635 rfl ?_
  refine r_iload (x := i) dL_law_1636 rfl ?_
  refine r_iconst (v := 1) dL_law_1638 rfl ?_
  refine r_iadd dL_law_1639 ?_
  refine r_sld (k9 := b + 1) dL_law_1640 scS hb.2.1 ?_
  refine r_aload_n (x := 1000) dL_law_1641 rfl ?_
  refine r_iload (x := i) dL_law_1642 rfl ?_
  refine r_iconst (v := 2) dL_law_1644 rfl ?_
  refine r_iadd dL_law_1645 ?_
  refine r_sld (k9 := b + 2) dL_law_1646 scS hb.2.2.1 ?_
  refine r_aload_n (x := 1000) dL_law_1647 rfl ?_
  refine r_iload (x := i) dL_law_1648 rfl ?_
  refine r_iconst (v := 3) dL_law_1650 rfl ?_
  refine r_iadd dL_law_1651 ?_
  refine r_sld (k9 := b + 3) dL_law_1652 scS hb.2.2.2.1 ?_
  obtain ⟨x2, hx2⟩ : ∃ y : Int32, y = ((if (xs (b + 3)) = 0 then 0 else 1) : Int32) := ⟨_, rfl⟩
  replace h := lt_e hx2 h
  have keyx2 : WP [] mL_law 100 M Q 1661 [some (.ref 1000), some (.ref 0), some (.ref 80), some (.ref 111), some (.int i), none, none] (.int x2 :: [.int (xs (b + 2)), .int (xs (b + 1)), .ref 0]) S u := by
    refine r_aload_n (x := 111) dL_law_1661 rfl ?_
    obtain ⟨x3, S4, h5, h⟩ := bI_e h
    refine r_lSW (n := 5) (y := mL_hear) (As := [.ref 0, .int (xs (b + 1)), .int (xs (b + 2)), .int x2, .ref 111]) (rest := []) scS dL_law_1662 qL_211 wL_hear sL_hear wIniL ⟨by decide, by decide, by decide +kernel⟩ (by decide) rfl (okL_hear N (xs (b + 1)) (xs (b + 2)) x2 S x3 S4 h5) (by decide) hM rfl (Nat.le_of_ble_eq_true rfl) (fun scS4 => ?_)
    refine r_istore (L' := [some (.ref 1000), some (.ref 0), some (.ref 80), some (.ref 111), some (.int i), some (.int x3), none]) dL_law_1665 (Nat.le_of_ble_eq_true rfl) rfl rfl ?_
    refine r_aload_n (x := 80) dL_law_1667 rfl ?_
    refine r_aload_n (x := 1000) dL_law_1668 rfl ?_
    refine r_iload (x := i) dL_law_1669 rfl ?_
    refine r_iconst (v := 1) dL_law_1671 rfl ?_
    refine r_iadd dL_law_1672 ?_
    refine r_sld (k9 := b + 1) dL_law_1673 scS4 hb.2.1 ?_
    refine r_aload_n (x := 1000) dL_law_1674 rfl ?_
    refine r_iload (x := i) dL_law_1675 rfl ?_
    refine r_iconst (v := 2) dL_law_1677 rfl ?_
    refine r_iadd dL_law_1678 ?_
    refine r_sld (k9 := b + 2) dL_law_1679 scS4 hb.2.2.1 ?_
    refine r_aload_n (x := 1000) dL_law_1680 rfl ?_
    refine r_iload (x := i) dL_law_1681 rfl ?_
    refine r_iconst (v := 3) dL_law_1683 rfl ?_
    refine r_iadd dL_law_1684 ?_
    refine r_sld (k9 := b + 3) dL_law_1685 scS4 hb.2.2.2.1 ?_
    obtain ⟨x7, hx7⟩ : ∃ y : Int32, y = ((if (xs (b + 3)) = 0 then 0 else 1) : Int32) := ⟨_, rfl⟩
    replace h := lt_e hx7 h
    have keyx7 : WP [] mL_law 100 M Q 1694 [some (.ref 1000), some (.ref 0), some (.ref 80), some (.ref 111), some (.int i), some (.int x3), none] (.int x7 :: [.int (xs (b + 2)), .int (xs (b + 1)), .ref 80]) S4 (u + 8) := by
      obtain ⟨x8, S9, h10, h⟩ := bI_e h
      refine r_lVI (y := mX12_hear) (As := [.int (xs (b + 1)), .int (xs (b + 2)), .int x7]) (rest := []) scS4 dL_law_1694 qL_214 kX12_hear rfl ob80 vc12 rfl (okX12_hear N (xs (b + 1)) (xs (b + 2)) x7 S4 x8 S9 h10) (by decide) (by omega) rfl (Nat.le_of_ble_eq_true rfl) (fun scS9 => ?_)
      refine r_istore (L' := [some (.ref 1000), some (.ref 0), some (.ref 80), some (.ref 111), some (.int i), some (.int x3), some (.int x8)]) dL_law_1697 (Nat.le_of_ble_eq_true rfl) rfl rfl ?_
      refine r_aload_n (x := 80) dL_law_1699 rfl ?_
      obtain ⟨x11, S12, h13, h⟩ := bI_e h
      refine r_lVI (y := mX12_thrown) (As := []) (rest := []) scS9 dL_law_1700 qL_137 kX12_thrown rfl ob80 vc12 rfl (okX12_thrown N  S9 x11 S12 h13) (by decide) (by omega) rfl (Nat.le_of_ble_eq_true rfl) (fun scS12 => ?_)
      refine r_iload (x := x3) dL_law_1703 rfl ?_
      refine r_icmp_eq (tgt := 1710) dL_law_1705 (by decide) (fun c14 => ?_) (fun c14 => ?_)
      · rw [if_pos c14] at h
        refine r_iload (x := x3) dL_law_1710 rfl ?_
        refine r_if_ne (tgt := 1727) dL_law_1712 (by decide) (fun c15 => ?_) (fun c15 => ?_)
        · rw [if_neg c15] at h
          refine r_goto (tgt := 2706) dL_law_1727 (by decide) ?_
          cases h
          refine r_drop [true, true, true, true, true, false, false] rfl ?_
          exact k scS12 _ (by omega)
        · rw [if_pos c15] at h
          refine r_aload_n (x := 111) dL_law_1715 rfl ?_
          refine r_iconst (v := 0) dL_law_1716 rfl ?_
          refine r_laload (a := 111) (k9 := 0) dL_law_1717 ck111 nC111 ⟨by decide, by decide⟩ ?_
          refine r_iload (x := x8) dL_law_1718 rfl ?_
          refine r_i2l dL_law_1720 ?_
          refine r_lcmp dL_law_1721 ?_
          refine r_if_eq (tgt := 1727) dL_law_1722 (by decide) (fun c16 => ?_) (fun c16 => ?_)
          · rw [if_pos c16] at h
            refine r_goto (tgt := 2706) dL_law_1727 (by decide) ?_
            cases h
            refine r_drop [true, true, true, true, true, false, false] rfl ?_
            exact k scS12 _ (by omega)
          · rw [if_neg c16] at h
            refine r_iconst (v := 0) dL_law_1725 rfl ?_
            cases h
      · rw [if_neg c14] at h
        refine r_iconst (v := 0) dL_law_1708 rfl ?_
        cases h
    refine r_if_eq (tgt := 1693) dL_law_1686 (by decide) (fun c6 => ?_) (fun c6 => ?_)
    · refine r_iconst (v := 0) dL_law_1693 rfl ?_
      exact r_tope (by rw [hx7, if_pos c6]) keyx7
    · refine r_iconst (v := 1) dL_law_1689 rfl ?_
      refine r_goto (tgt := 1694) dL_law_1690 (by decide) ?_
      exact r_tope (by rw [hx7, if_neg c6]) keyx7
  refine r_if_eq (tgt := 1660) dL_law_1653 (by decide) (fun c1 => ?_) (fun c1 => ?_)
  · refine r_iconst (v := 0) dL_law_1660 rfl ?_
    exact r_tope (by rw [hx2, if_pos c1]) keyx2
  · refine r_iconst (v := 1) dL_law_1656 rfl ?_
    refine r_goto (tgt := 1661) dL_law_1657 (by decide) ?_
    exact r_tope (by rw [hx2, if_neg c1]) keyx2
def fC24 (N : Nat) (xs : Nat → Int32) (b : Nat) (S : PS) : Option PS :=
  bV (fX11_forget N S) fun S2 =>
  bV (fX12_forget N S2) fun S5 =>
  some S5
set_option maxHeartbeats 4000000 in
set_option maxRecDepth 100000 in
theorem okC24 (N : Nat) (xs : Nat → Int32) (len b : Nat) (i : Int32) (Q : OQ) (M u : Nat) (S T : PS) (h : fC24 N xs b S = some T) (scS : SC xs len S) (hb : IB i len b) (hM : u + 8 ≤ M) (k : SC xs len T → ∀ u9, u9 ≤ u + 8 → WP [] mL_law 100 M Q 2706 [some (.ref 1000), some (.ref 0), some (.ref 80), some (.ref 111), some (.int i), none, none] [] T u9) : WP [] mL_law 100 M Q 1730 [some (.ref 1000), some (.ref 0), some (.ref 80), some (.ref 111), some (.int i), none, none] [] S u := by
  unfold fC24 at h
  refine r_aload_n (x := 0) dL_law_1730 rfl ?_
  obtain ⟨S2, h3, h⟩ := bV_e h
  refine r_lVV (y := mX11_forget) (As := []) (rest := []) scS dL_law_1731 qL_215 kX11_forget rfl ob0 vc11 rfl (okX11_forget N  S S2 h3) (by decide) (by omega) rfl (Nat.le_of_ble_eq_true rfl) (fun scS2 => ?_)
  refine r_aload_n (x := 80) dL_law_1734 rfl ?_
  obtain ⟨S5, h6, h⟩ := bV_e h
  refine r_lVV (y := mX12_forget) (As := []) (rest := []) scS2 dL_law_1735 qL_218 kX12_forget rfl ob80 vc12 rfl (okX12_forget N  S2 S5 h6) (by decide) (by omega) rfl (Nat.le_of_ble_eq_true rfl) (fun scS5 => ?_)
  refine r_goto (tgt := 2706) dL_law_1738 (by decide) ?_
  cases h
  exact k scS5 _ (by omega)
def fC25 (N : Nat) (xs : Nat → Int32) (b : Nat) (S : PS) : Option PS :=
  bI (fL_led N (xs (b + 1)) S) fun x1 S2 =>
  bI (fX12_led N (xs (b + 1)) S2) fun x4 S5 =>
  bI (fX12_thrown N S5) fun x7 S8 =>
  (if x7 = x1 then
    (if x1 = 0 then
      (if (lg_cmp (S8.2.1 111 0) x4.toInt64) = 0 then
        some S8
      else
        none)
    else
      some S8)
  else
    none)
set_option maxHeartbeats 4000000 in
set_option maxRecDepth 100000 in
theorem okC25 (N : Nat) (xs : Nat → Int32) (len b : Nat) (i : Int32) (Q : OQ) (M u : Nat) (S T : PS) (h : fC25 N xs b S = some T) (scS : SC xs len S) (hb : IB i len b) (hM : u + 8 ≤ M) (k : SC xs len T → ∀ u9, u9 ≤ u + 8 → WP [] mL_law 100 M Q 2706 [some (.ref 1000), some (.ref 0), some (.ref 80), some (.ref 111), some (.int i), none, none] [] T u9) : WP [] mL_law 100 M Q 1741 [some (.ref 1000), some (.ref 0), some (.ref 80), some (.ref 111), some (.int i), none, none] [] S u := by
  unfold fC25 at h
  refine r_aload_n (x := 0) dL_law_1741 rfl ?_
  refine r_aload_n (x := 1000) dL_law_1742 rfl ?_
  refine r_iload (x := i) dL_law_1743 rfl ?_
  refine r_iconst (v := 1) dL_law_1745 rfl ?_
  refine r_iadd dL_law_1746 ?_
  refine r_sld (k9 := b + 1) dL_law_1747 scS hb.2.1 ?_
  refine r_aload_n (x := 111) dL_law_1748 rfl ?_
  obtain ⟨x1, S2, h3, h⟩ := bI_e h
  refine r_lSW (n := 3) (y := mL_led) (As := [.ref 0, .int (xs (b + 1)), .ref 111]) (rest := []) scS dL_law_1749 qL_219 wL_led sL_led wIniL ⟨by decide, by decide, by decide +kernel⟩ (by decide) rfl (okL_led N (xs (b + 1)) S x1 S2 h3) (by decide) hM rfl (Nat.le_of_ble_eq_true rfl) (fun scS2 => ?_)
  refine r_istore (L' := [some (.ref 1000), some (.ref 0), some (.ref 80), some (.ref 111), some (.int i), some (.int x1), none]) dL_law_1752 (Nat.le_of_ble_eq_true rfl) rfl rfl ?_
  refine r_aload_n (x := 80) dL_law_1754 rfl ?_
  refine r_aload_n (x := 1000) dL_law_1755 rfl ?_
  refine r_iload (x := i) dL_law_1756 rfl ?_
  refine r_iconst (v := 1) dL_law_1758 rfl ?_
  refine r_iadd dL_law_1759 ?_
  refine r_sld (k9 := b + 1) dL_law_1760 scS2 hb.2.1 ?_
  obtain ⟨x4, S5, h6, h⟩ := bI_e h
  refine r_lVI (y := mX12_led) (As := [.int (xs (b + 1))]) (rest := []) scS2 dL_law_1761 qL_221 kX12_led rfl ob80 vc12 rfl (okX12_led N (xs (b + 1)) S2 x4 S5 h6) (by decide) (by omega) rfl (Nat.le_of_ble_eq_true rfl) (fun scS5 => ?_)
  refine r_istore (L' := [some (.ref 1000), some (.ref 0), some (.ref 80), some (.ref 111), some (.int i), some (.int x1), some (.int x4)]) dL_law_1764 (Nat.le_of_ble_eq_true rfl) rfl rfl ?_
  refine r_aload_n (x := 80) dL_law_1766 rfl ?_
  obtain ⟨x7, S8, h9, h⟩ := bI_e h
  refine r_lVI (y := mX12_thrown) (As := []) (rest := []) scS5 dL_law_1767 qL_137 kX12_thrown rfl ob80 vc12 rfl (okX12_thrown N  S5 x7 S8 h9) (by decide) (by omega) rfl (Nat.le_of_ble_eq_true rfl) (fun scS8 => ?_)
  refine r_iload (x := x1) dL_law_1770 rfl ?_
  refine r_icmp_eq (tgt := 1777) dL_law_1772 (by decide) (fun c10 => ?_) (fun c10 => ?_)
  · rw [if_pos c10] at h
    refine r_iload (x := x1) dL_law_1777 rfl ?_
    refine r_if_ne (tgt := 1794) dL_law_1779 (by decide) (fun c11 => ?_) (fun c11 => ?_)
    · rw [if_neg c11] at h
      refine r_goto (tgt := 2706) dL_law_1794 (by decide) ?_
      cases h
      refine r_drop [true, true, true, true, true, false, false] rfl ?_
      exact k scS8 _ (by omega)
    · rw [if_pos c11] at h
      refine r_aload_n (x := 111) dL_law_1782 rfl ?_
      refine r_iconst (v := 0) dL_law_1783 rfl ?_
      refine r_laload (a := 111) (k9 := 0) dL_law_1784 ck111 nC111 ⟨by decide, by decide⟩ ?_
      refine r_iload (x := x4) dL_law_1785 rfl ?_
      refine r_i2l dL_law_1787 ?_
      refine r_lcmp dL_law_1788 ?_
      refine r_if_eq (tgt := 1794) dL_law_1789 (by decide) (fun c12 => ?_) (fun c12 => ?_)
      · rw [if_pos c12] at h
        refine r_goto (tgt := 2706) dL_law_1794 (by decide) ?_
        cases h
        refine r_drop [true, true, true, true, true, false, false] rfl ?_
        exact k scS8 _ (by omega)
      · rw [if_neg c12] at h
        refine r_iconst (v := 0) dL_law_1792 rfl ?_
        cases h
  · rw [if_neg c10] at h
    refine r_iconst (v := 0) dL_law_1775 rfl ?_
    cases h
def fC26 (N : Nat) (xs : Nat → Int32) (b : Nat) (S : PS) : Option PS :=
  bI (fL_listen N (xs (b + 1)) S) fun x1 S2 =>
  bI (fX12_listen N (xs (b + 1)) S2) fun x4 S5 =>
  bI (fX12_thrown N S5) fun x7 S8 =>
  (if x7 = x1 then
    (if x1 = 0 then
      (if (lg_cmp (S8.2.1 111 0) x4.toInt64) = 0 then
        some S8
      else
        none)
    else
      some S8)
  else
    none)
set_option maxHeartbeats 4000000 in
set_option maxRecDepth 100000 in
theorem okC26 (N : Nat) (xs : Nat → Int32) (len b : Nat) (i : Int32) (Q : OQ) (M u : Nat) (S T : PS) (h : fC26 N xs b S = some T) (scS : SC xs len S) (hb : IB i len b) (hM : u + 8 ≤ M) (k : SC xs len T → ∀ u9, u9 ≤ u + 8 → WP [] mL_law 100 M Q 2706 [some (.ref 1000), some (.ref 0), some (.ref 80), some (.ref 111), some (.int i), none, none] [] T u9) : WP [] mL_law 100 M Q 1797 [some (.ref 1000), some (.ref 0), some (.ref 80), some (.ref 111), some (.int i), none, none] [] S u := by
  unfold fC26 at h
  refine r_aload_n (x := 0) dL_law_1797 rfl ?_
  refine r_aload_n (x := 1000) dL_law_1798 rfl ?_
  refine r_iload (x := i) dL_law_1799 rfl ?_
  refine r_iconst (v := 1) dL_law_1801 rfl ?_
  refine r_iadd dL_law_1802 ?_
  refine r_sld (k9 := b + 1) dL_law_1803 scS hb.2.1 ?_
  refine r_aload_n (x := 111) dL_law_1804 rfl ?_
  obtain ⟨x1, S2, h3, h⟩ := bI_e h
  refine r_lSW (n := 3) (y := mL_listen) (As := [.ref 0, .int (xs (b + 1)), .ref 111]) (rest := []) scS dL_law_1805 qL_222 wL_listen sL_listen wIniL ⟨by decide, by decide, by decide +kernel⟩ (by decide) rfl (okL_listen N (xs (b + 1)) S x1 S2 h3) (by decide) hM rfl (Nat.le_of_ble_eq_true rfl) (fun scS2 => ?_)
  refine r_istore (L' := [some (.ref 1000), some (.ref 0), some (.ref 80), some (.ref 111), some (.int i), some (.int x1), none]) dL_law_1808 (Nat.le_of_ble_eq_true rfl) rfl rfl ?_
  refine r_aload_n (x := 80) dL_law_1810 rfl ?_
  refine r_aload_n (x := 1000) dL_law_1811 rfl ?_
  refine r_iload (x := i) dL_law_1812 rfl ?_
  refine r_iconst (v := 1) dL_law_1814 rfl ?_
  refine r_iadd dL_law_1815 ?_
  refine r_sld (k9 := b + 1) dL_law_1816 scS2 hb.2.1 ?_
  obtain ⟨x4, S5, h6, h⟩ := bI_e h
  refine r_lVI (y := mX12_listen) (As := [.int (xs (b + 1))]) (rest := []) scS2 dL_law_1817 qL_224 kX12_listen rfl ob80 vc12 rfl (okX12_listen N (xs (b + 1)) S2 x4 S5 h6) (by decide) (by omega) rfl (Nat.le_of_ble_eq_true rfl) (fun scS5 => ?_)
  refine r_istore (L' := [some (.ref 1000), some (.ref 0), some (.ref 80), some (.ref 111), some (.int i), some (.int x1), some (.int x4)]) dL_law_1820 (Nat.le_of_ble_eq_true rfl) rfl rfl ?_
  refine r_aload_n (x := 80) dL_law_1822 rfl ?_
  obtain ⟨x7, S8, h9, h⟩ := bI_e h
  refine r_lVI (y := mX12_thrown) (As := []) (rest := []) scS5 dL_law_1823 qL_137 kX12_thrown rfl ob80 vc12 rfl (okX12_thrown N  S5 x7 S8 h9) (by decide) (by omega) rfl (Nat.le_of_ble_eq_true rfl) (fun scS8 => ?_)
  refine r_iload (x := x1) dL_law_1826 rfl ?_
  refine r_icmp_eq (tgt := 1833) dL_law_1828 (by decide) (fun c10 => ?_) (fun c10 => ?_)
  · rw [if_pos c10] at h
    refine r_iload (x := x1) dL_law_1833 rfl ?_
    refine r_if_ne (tgt := 1850) dL_law_1835 (by decide) (fun c11 => ?_) (fun c11 => ?_)
    · rw [if_neg c11] at h
      refine r_goto (tgt := 2706) dL_law_1850 (by decide) ?_
      cases h
      refine r_drop [true, true, true, true, true, false, false] rfl ?_
      exact k scS8 _ (by omega)
    · rw [if_pos c11] at h
      refine r_aload_n (x := 111) dL_law_1838 rfl ?_
      refine r_iconst (v := 0) dL_law_1839 rfl ?_
      refine r_laload (a := 111) (k9 := 0) dL_law_1840 ck111 nC111 ⟨by decide, by decide⟩ ?_
      refine r_iload (x := x4) dL_law_1841 rfl ?_
      refine r_i2l dL_law_1843 ?_
      refine r_lcmp dL_law_1844 ?_
      refine r_if_eq (tgt := 1850) dL_law_1845 (by decide) (fun c12 => ?_) (fun c12 => ?_)
      · rw [if_pos c12] at h
        refine r_goto (tgt := 2706) dL_law_1850 (by decide) ?_
        cases h
        refine r_drop [true, true, true, true, true, false, false] rfl ?_
        exact k scS8 _ (by omega)
      · rw [if_neg c12] at h
        refine r_iconst (v := 0) dL_law_1848 rfl ?_
        cases h
  · rw [if_neg c10] at h
    refine r_iconst (v := 0) dL_law_1831 rfl ?_
    cases h
def fC27 (N : Nat) (xs : Nat → Int32) (b : Nat) (S : PS) : Option PS :=
  bI (fL_cold N (xs (b + 1)) (xs (b + 2)) (xs (b + 3)) S) fun x1 S2 =>
  bI (fX12_cold N (xs (b + 1)) (xs (b + 2)) (xs (b + 3)) S2) fun x4 S5 =>
  bI (fX12_thrown N S5) fun x7 S8 =>
  (if x7 = x1 then
    (if x1 = 0 then
      (if (lg_cmp (S8.2.1 111 0) x4.toInt64) = 0 then
        some S8
      else
        none)
    else
      some S8)
  else
    none)
set_option maxHeartbeats 4000000 in
set_option maxRecDepth 100000 in
theorem okC27 (N : Nat) (xs : Nat → Int32) (len b : Nat) (i : Int32) (Q : OQ) (M u : Nat) (S T : PS) (h : fC27 N xs b S = some T) (scS : SC xs len S) (hb : IB i len b) (hM : u + 8 ≤ M) (k : SC xs len T → ∀ u9, u9 ≤ u + 8 → WP [] mL_law 100 M Q 2706 [some (.ref 1000), some (.ref 0), some (.ref 80), some (.ref 111), some (.int i), none, none] [] T u9) : WP [] mL_law 100 M Q 1853 [some (.ref 1000), some (.ref 0), some (.ref 80), some (.ref 111), some (.int i), none, none] [] S u := by
  unfold fC27 at h
  refine r_aload_n (x := 0) dL_law_1853 rfl ?_
  refine r_aload_n (x := 1000) dL_law_1854 rfl ?_
  refine r_iload (x := i) dL_law_1855 rfl ?_
  refine r_iconst (v := 1) dL_law_1857 rfl ?_
  refine r_iadd dL_law_1858 ?_
  refine r_sld (k9 := b + 1) dL_law_1859 scS hb.2.1 ?_
  refine r_aload_n (x := 1000) dL_law_1860 rfl ?_
  refine r_iload (x := i) dL_law_1861 rfl ?_
  refine r_iconst (v := 2) dL_law_1863 rfl ?_
  refine r_iadd dL_law_1864 ?_
  refine r_sld (k9 := b + 2) dL_law_1865 scS hb.2.2.1 ?_
  refine r_aload_n (x := 1000) dL_law_1866 rfl ?_
  refine r_iload (x := i) dL_law_1867 rfl ?_
  refine r_iconst (v := 3) dL_law_1869 rfl ?_
  refine r_iadd dL_law_1870 ?_
  refine r_sld (k9 := b + 3) dL_law_1871 scS hb.2.2.2.1 ?_
  refine r_aload_n (x := 111) dL_law_1872 rfl ?_
  obtain ⟨x1, S2, h3, h⟩ := bI_e h
  refine r_lSW (n := 5) (y := mL_cold) (As := [.ref 0, .int (xs (b + 1)), .int (xs (b + 2)), .int (xs (b + 3)), .ref 111]) (rest := []) scS dL_law_1873 qL_225 wL_cold sL_cold wIniL ⟨by decide, by decide, by decide +kernel⟩ (by decide) rfl (okL_cold N (xs (b + 1)) (xs (b + 2)) (xs (b + 3)) S x1 S2 h3) (by decide) hM rfl (Nat.le_of_ble_eq_true rfl) (fun scS2 => ?_)
  refine r_istore (L' := [some (.ref 1000), some (.ref 0), some (.ref 80), some (.ref 111), some (.int i), some (.int x1), none]) dL_law_1876 (Nat.le_of_ble_eq_true rfl) rfl rfl ?_
  refine r_aload_n (x := 80) dL_law_1878 rfl ?_
  refine r_aload_n (x := 1000) dL_law_1879 rfl ?_
  refine r_iload (x := i) dL_law_1880 rfl ?_
  refine r_iconst (v := 1) dL_law_1882 rfl ?_
  refine r_iadd dL_law_1883 ?_
  refine r_sld (k9 := b + 1) dL_law_1884 scS2 hb.2.1 ?_
  refine r_aload_n (x := 1000) dL_law_1885 rfl ?_
  refine r_iload (x := i) dL_law_1886 rfl ?_
  refine r_iconst (v := 2) dL_law_1888 rfl ?_
  refine r_iadd dL_law_1889 ?_
  refine r_sld (k9 := b + 2) dL_law_1890 scS2 hb.2.2.1 ?_
  refine r_aload_n (x := 1000) dL_law_1891 rfl ?_
  refine r_iload (x := i) dL_law_1892 rfl ?_
  refine r_iconst (v := 3) dL_law_1894 rfl ?_
  refine r_iadd dL_law_1895 ?_
  refine r_sld (k9 := b + 3) dL_law_1896 scS2 hb.2.2.2.1 ?_
  obtain ⟨x4, S5, h6, h⟩ := bI_e h
  refine r_lVI (y := mX12_cold) (As := [.int (xs (b + 1)), .int (xs (b + 2)), .int (xs (b + 3))]) (rest := []) scS2 dL_law_1897 qL_227 kX12_cold rfl ob80 vc12 rfl (okX12_cold N (xs (b + 1)) (xs (b + 2)) (xs (b + 3)) S2 x4 S5 h6) (by decide) (by omega) rfl (Nat.le_of_ble_eq_true rfl) (fun scS5 => ?_)
  refine r_istore (L' := [some (.ref 1000), some (.ref 0), some (.ref 80), some (.ref 111), some (.int i), some (.int x1), some (.int x4)]) dL_law_1900 (Nat.le_of_ble_eq_true rfl) rfl rfl ?_
  refine r_aload_n (x := 80) dL_law_1902 rfl ?_
  obtain ⟨x7, S8, h9, h⟩ := bI_e h
  refine r_lVI (y := mX12_thrown) (As := []) (rest := []) scS5 dL_law_1903 qL_137 kX12_thrown rfl ob80 vc12 rfl (okX12_thrown N  S5 x7 S8 h9) (by decide) (by omega) rfl (Nat.le_of_ble_eq_true rfl) (fun scS8 => ?_)
  refine r_iload (x := x1) dL_law_1906 rfl ?_
  refine r_icmp_eq (tgt := 1913) dL_law_1908 (by decide) (fun c10 => ?_) (fun c10 => ?_)
  · rw [if_pos c10] at h
    refine r_iload (x := x1) dL_law_1913 rfl ?_
    refine r_if_ne (tgt := 1930) dL_law_1915 (by decide) (fun c11 => ?_) (fun c11 => ?_)
    · rw [if_neg c11] at h
      refine r_goto (tgt := 2706) dL_law_1930 (by decide) ?_
      cases h
      refine r_drop [true, true, true, true, true, false, false] rfl ?_
      exact k scS8 _ (by omega)
    · rw [if_pos c11] at h
      refine r_aload_n (x := 111) dL_law_1918 rfl ?_
      refine r_iconst (v := 0) dL_law_1919 rfl ?_
      refine r_laload (a := 111) (k9 := 0) dL_law_1920 ck111 nC111 ⟨by decide, by decide⟩ ?_
      refine r_iload (x := x4) dL_law_1921 rfl ?_
      refine r_i2l dL_law_1923 ?_
      refine r_lcmp dL_law_1924 ?_
      refine r_if_eq (tgt := 1930) dL_law_1925 (by decide) (fun c12 => ?_) (fun c12 => ?_)
      · rw [if_pos c12] at h
        refine r_goto (tgt := 2706) dL_law_1930 (by decide) ?_
        cases h
        refine r_drop [true, true, true, true, true, false, false] rfl ?_
        exact k scS8 _ (by omega)
      · rw [if_neg c12] at h
        refine r_iconst (v := 0) dL_law_1928 rfl ?_
        cases h
  · rw [if_neg c10] at h
    refine r_iconst (v := 0) dL_law_1911 rfl ?_
    cases h
def fC28 (N : Nat) (xs : Nat → Int32) (b : Nat) (S : PS) : Option PS :=
  bI (fL_game N (xs (b + 1)) (xs (b + 2)) (xs (b + 3)) S) fun x1 S2 =>
  bI (fX12_game N (xs (b + 1)) (xs (b + 2)) (xs (b + 3)) S2) fun x4 S5 =>
  bI (fX12_thrown N S5) fun x7 S8 =>
  (if x7 = x1 then
    (if x1 = 0 then
      (if (lg_cmp (S8.2.1 111 0) x4.toInt64) = 0 then
        some S8
      else
        none)
    else
      some S8)
  else
    none)
set_option maxHeartbeats 4000000 in
set_option maxRecDepth 100000 in
theorem okC28 (N : Nat) (xs : Nat → Int32) (len b : Nat) (i : Int32) (Q : OQ) (M u : Nat) (S T : PS) (h : fC28 N xs b S = some T) (scS : SC xs len S) (hb : IB i len b) (hM : u + 8 ≤ M) (k : SC xs len T → ∀ u9, u9 ≤ u + 8 → WP [] mL_law 100 M Q 2706 [some (.ref 1000), some (.ref 0), some (.ref 80), some (.ref 111), some (.int i), none, none] [] T u9) : WP [] mL_law 100 M Q 1933 [some (.ref 1000), some (.ref 0), some (.ref 80), some (.ref 111), some (.int i), none, none] [] S u := by
  unfold fC28 at h
  refine r_aload_n (x := 0) dL_law_1933 rfl ?_
  refine r_aload_n (x := 1000) dL_law_1934 rfl ?_
  refine r_iload (x := i) dL_law_1935 rfl ?_
  refine r_iconst (v := 1) dL_law_1937 rfl ?_
  refine r_iadd dL_law_1938 ?_
  refine r_sld (k9 := b + 1) dL_law_1939 scS hb.2.1 ?_
  refine r_aload_n (x := 1000) dL_law_1940 rfl ?_
  refine r_iload (x := i) dL_law_1941 rfl ?_
  refine r_iconst (v := 2) dL_law_1943 rfl ?_
  refine r_iadd dL_law_1944 ?_
  refine r_sld (k9 := b + 2) dL_law_1945 scS hb.2.2.1 ?_
  refine r_aload_n (x := 1000) dL_law_1946 rfl ?_
  refine r_iload (x := i) dL_law_1947 rfl ?_
  refine r_iconst (v := 3) dL_law_1949 rfl ?_
  refine r_iadd dL_law_1950 ?_
  refine r_sld (k9 := b + 3) dL_law_1951 scS hb.2.2.2.1 ?_
  refine r_aload_n (x := 111) dL_law_1952 rfl ?_
  obtain ⟨x1, S2, h3, h⟩ := bI_e h
  refine r_lSW (n := 5) (y := mL_game) (As := [.ref 0, .int (xs (b + 1)), .int (xs (b + 2)), .int (xs (b + 3)), .ref 111]) (rest := []) scS dL_law_1953 qL_228 wL_game sL_game wIniL ⟨by decide, by decide, by decide +kernel⟩ (by decide) rfl (okL_game N (xs (b + 1)) (xs (b + 2)) (xs (b + 3)) S x1 S2 h3) (by decide) hM rfl (Nat.le_of_ble_eq_true rfl) (fun scS2 => ?_)
  refine r_istore (L' := [some (.ref 1000), some (.ref 0), some (.ref 80), some (.ref 111), some (.int i), some (.int x1), none]) dL_law_1956 (Nat.le_of_ble_eq_true rfl) rfl rfl ?_
  refine r_aload_n (x := 80) dL_law_1958 rfl ?_
  refine r_aload_n (x := 1000) dL_law_1959 rfl ?_
  refine r_iload (x := i) dL_law_1960 rfl ?_
  refine r_iconst (v := 1) dL_law_1962 rfl ?_
  refine r_iadd dL_law_1963 ?_
  refine r_sld (k9 := b + 1) dL_law_1964 scS2 hb.2.1 ?_
  refine r_aload_n (x := 1000) dL_law_1965 rfl ?_
  refine r_iload (x := i) dL_law_1966 rfl ?_
  refine r_iconst (v := 2) dL_law_1968 rfl ?_
  refine r_iadd dL_law_1969 ?_
  refine r_sld (k9 := b + 2) dL_law_1970 scS2 hb.2.2.1 ?_
  refine r_aload_n (x := 1000) dL_law_1971 rfl ?_
  refine r_iload (x := i) dL_law_1972 rfl ?_
  refine r_iconst (v := 3) dL_law_1974 rfl ?_
  refine r_iadd dL_law_1975 ?_
  refine r_sld (k9 := b + 3) dL_law_1976 scS2 hb.2.2.2.1 ?_
  obtain ⟨x4, S5, h6, h⟩ := bI_e h
  refine r_lVI (y := mX12_game) (As := [.int (xs (b + 1)), .int (xs (b + 2)), .int (xs (b + 3))]) (rest := []) scS2 dL_law_1977 qL_230 kX12_game rfl ob80 vc12 rfl (okX12_game N (xs (b + 1)) (xs (b + 2)) (xs (b + 3)) S2 x4 S5 h6) (by decide) (by omega) rfl (Nat.le_of_ble_eq_true rfl) (fun scS5 => ?_)
  refine r_istore (L' := [some (.ref 1000), some (.ref 0), some (.ref 80), some (.ref 111), some (.int i), some (.int x1), some (.int x4)]) dL_law_1980 (Nat.le_of_ble_eq_true rfl) rfl rfl ?_
  refine r_aload_n (x := 80) dL_law_1982 rfl ?_
  obtain ⟨x7, S8, h9, h⟩ := bI_e h
  refine r_lVI (y := mX12_thrown) (As := []) (rest := []) scS5 dL_law_1983 qL_137 kX12_thrown rfl ob80 vc12 rfl (okX12_thrown N  S5 x7 S8 h9) (by decide) (by omega) rfl (Nat.le_of_ble_eq_true rfl) (fun scS8 => ?_)
  refine r_iload (x := x1) dL_law_1986 rfl ?_
  refine r_icmp_eq (tgt := 1993) dL_law_1988 (by decide) (fun c10 => ?_) (fun c10 => ?_)
  · rw [if_pos c10] at h
    refine r_iload (x := x1) dL_law_1993 rfl ?_
    refine r_if_ne (tgt := 2010) dL_law_1995 (by decide) (fun c11 => ?_) (fun c11 => ?_)
    · rw [if_neg c11] at h
      refine r_goto (tgt := 2706) dL_law_2010 (by decide) ?_
      cases h
      refine r_drop [true, true, true, true, true, false, false] rfl ?_
      exact k scS8 _ (by omega)
    · rw [if_pos c11] at h
      refine r_aload_n (x := 111) dL_law_1998 rfl ?_
      refine r_iconst (v := 0) dL_law_1999 rfl ?_
      refine r_laload (a := 111) (k9 := 0) dL_law_2000 ck111 nC111 ⟨by decide, by decide⟩ ?_
      refine r_iload (x := x4) dL_law_2001 rfl ?_
      refine r_i2l dL_law_2003 ?_
      refine r_lcmp dL_law_2004 ?_
      refine r_if_eq (tgt := 2010) dL_law_2005 (by decide) (fun c12 => ?_) (fun c12 => ?_)
      · rw [if_pos c12] at h
        refine r_goto (tgt := 2706) dL_law_2010 (by decide) ?_
        cases h
        refine r_drop [true, true, true, true, true, false, false] rfl ?_
        exact k scS8 _ (by omega)
      · rw [if_neg c12] at h
        refine r_iconst (v := 0) dL_law_2008 rfl ?_
        cases h
  · rw [if_neg c10] at h
    refine r_iconst (v := 0) dL_law_1991 rfl ?_
    cases h
def fC29 (N : Nat) (xs : Nat → Int32) (b : Nat) (S : PS) : Option PS :=
  bI (fL_years N (xs (b + 1)) (xs (b + 2)) (xs (b + 3)) S) fun x1 S2 =>
  bI (fX12_years N (xs (b + 1)) (xs (b + 2)) (xs (b + 3)) S2) fun x4 S5 =>
  bI (fX12_thrown N S5) fun x7 S8 =>
  (if x7 = x1 then
    (if x1 = 0 then
      (if (lg_cmp (S8.2.1 111 0) x4.toInt64) = 0 then
        some S8
      else
        none)
    else
      some S8)
  else
    none)
set_option maxHeartbeats 4000000 in
set_option maxRecDepth 100000 in
theorem okC29 (N : Nat) (xs : Nat → Int32) (len b : Nat) (i : Int32) (Q : OQ) (M u : Nat) (S T : PS) (h : fC29 N xs b S = some T) (scS : SC xs len S) (hb : IB i len b) (hM : u + 8 ≤ M) (k : SC xs len T → ∀ u9, u9 ≤ u + 8 → WP [] mL_law 100 M Q 2706 [some (.ref 1000), some (.ref 0), some (.ref 80), some (.ref 111), some (.int i), none, none] [] T u9) : WP [] mL_law 100 M Q 2013 [some (.ref 1000), some (.ref 0), some (.ref 80), some (.ref 111), some (.int i), none, none] [] S u := by
  unfold fC29 at h
  refine r_aload_n (x := 0) dL_law_2013 rfl ?_
  refine r_aload_n (x := 1000) dL_law_2014 rfl ?_
  refine r_iload (x := i) dL_law_2015 rfl ?_
  refine r_iconst (v := 1) dL_law_2017 rfl ?_
  refine r_iadd dL_law_2018 ?_
  refine r_sld (k9 := b + 1) dL_law_2019 scS hb.2.1 ?_
  refine r_aload_n (x := 1000) dL_law_2020 rfl ?_
  refine r_iload (x := i) dL_law_2021 rfl ?_
  refine r_iconst (v := 2) dL_law_2023 rfl ?_
  refine r_iadd dL_law_2024 ?_
  refine r_sld (k9 := b + 2) dL_law_2025 scS hb.2.2.1 ?_
  refine r_aload_n (x := 1000) dL_law_2026 rfl ?_
  refine r_iload (x := i) dL_law_2027 rfl ?_
  refine r_iconst (v := 3) dL_law_2029 rfl ?_
  refine r_iadd dL_law_2030 ?_
  refine r_sld (k9 := b + 3) dL_law_2031 scS hb.2.2.2.1 ?_
  refine r_aload_n (x := 111) dL_law_2032 rfl ?_
  obtain ⟨x1, S2, h3, h⟩ := bI_e h
  refine r_lSW (n := 5) (y := mL_years) (As := [.ref 0, .int (xs (b + 1)), .int (xs (b + 2)), .int (xs (b + 3)), .ref 111]) (rest := []) scS dL_law_2033 qL_231 wL_years sL_years wIniL ⟨by decide, by decide, by decide +kernel⟩ (by decide) rfl (okL_years N (xs (b + 1)) (xs (b + 2)) (xs (b + 3)) S x1 S2 h3) (by decide) hM rfl (Nat.le_of_ble_eq_true rfl) (fun scS2 => ?_)
  refine r_istore (L' := [some (.ref 1000), some (.ref 0), some (.ref 80), some (.ref 111), some (.int i), some (.int x1), none]) dL_law_2036 (Nat.le_of_ble_eq_true rfl) rfl rfl ?_
  refine r_aload_n (x := 80) dL_law_2038 rfl ?_
  refine r_aload_n (x := 1000) dL_law_2039 rfl ?_
  refine r_iload (x := i) dL_law_2040 rfl ?_
  refine r_iconst (v := 1) dL_law_2042 rfl ?_
  refine r_iadd dL_law_2043 ?_
  refine r_sld (k9 := b + 1) dL_law_2044 scS2 hb.2.1 ?_
  refine r_aload_n (x := 1000) dL_law_2045 rfl ?_
  refine r_iload (x := i) dL_law_2046 rfl ?_
  refine r_iconst (v := 2) dL_law_2048 rfl ?_
  refine r_iadd dL_law_2049 ?_
  refine r_sld (k9 := b + 2) dL_law_2050 scS2 hb.2.2.1 ?_
  refine r_aload_n (x := 1000) dL_law_2051 rfl ?_
  refine r_iload (x := i) dL_law_2052 rfl ?_
  refine r_iconst (v := 3) dL_law_2054 rfl ?_
  refine r_iadd dL_law_2055 ?_
  refine r_sld (k9 := b + 3) dL_law_2056 scS2 hb.2.2.2.1 ?_
  obtain ⟨x4, S5, h6, h⟩ := bI_e h
  refine r_lVI (y := mX12_years) (As := [.int (xs (b + 1)), .int (xs (b + 2)), .int (xs (b + 3))]) (rest := []) scS2 dL_law_2057 qL_233 kX12_years rfl ob80 vc12 rfl (okX12_years N (xs (b + 1)) (xs (b + 2)) (xs (b + 3)) S2 x4 S5 h6) (by decide) (by omega) rfl (Nat.le_of_ble_eq_true rfl) (fun scS5 => ?_)
  refine r_istore (L' := [some (.ref 1000), some (.ref 0), some (.ref 80), some (.ref 111), some (.int i), some (.int x1), some (.int x4)]) dL_law_2060 (Nat.le_of_ble_eq_true rfl) rfl rfl ?_
  refine r_aload_n (x := 80) dL_law_2062 rfl ?_
  obtain ⟨x7, S8, h9, h⟩ := bI_e h
  refine r_lVI (y := mX12_thrown) (As := []) (rest := []) scS5 dL_law_2063 qL_137 kX12_thrown rfl ob80 vc12 rfl (okX12_thrown N  S5 x7 S8 h9) (by decide) (by omega) rfl (Nat.le_of_ble_eq_true rfl) (fun scS8 => ?_)
  refine r_iload (x := x1) dL_law_2066 rfl ?_
  refine r_icmp_eq (tgt := 2073) dL_law_2068 (by decide) (fun c10 => ?_) (fun c10 => ?_)
  · rw [if_pos c10] at h
    refine r_iload (x := x1) dL_law_2073 rfl ?_
    refine r_if_ne (tgt := 2090) dL_law_2075 (by decide) (fun c11 => ?_) (fun c11 => ?_)
    · rw [if_neg c11] at h
      refine r_goto (tgt := 2706) dL_law_2090 (by decide) ?_
      cases h
      refine r_drop [true, true, true, true, true, false, false] rfl ?_
      exact k scS8 _ (by omega)
    · rw [if_pos c11] at h
      refine r_aload_n (x := 111) dL_law_2078 rfl ?_
      refine r_iconst (v := 0) dL_law_2079 rfl ?_
      refine r_laload (a := 111) (k9 := 0) dL_law_2080 ck111 nC111 ⟨by decide, by decide⟩ ?_
      refine r_iload (x := x4) dL_law_2081 rfl ?_
      refine r_i2l dL_law_2083 ?_
      refine r_lcmp dL_law_2084 ?_
      refine r_if_eq (tgt := 2090) dL_law_2085 (by decide) (fun c12 => ?_) (fun c12 => ?_)
      · rw [if_pos c12] at h
        refine r_goto (tgt := 2706) dL_law_2090 (by decide) ?_
        cases h
        refine r_drop [true, true, true, true, true, false, false] rfl ?_
        exact k scS8 _ (by omega)
      · rw [if_neg c12] at h
        refine r_iconst (v := 0) dL_law_2088 rfl ?_
        cases h
  · rw [if_neg c10] at h
    refine r_iconst (v := 0) dL_law_2071 rfl ?_
    cases h
def fC30 (N : Nat) (xs : Nat → Int32) (b : Nat) (S : PS) : Option PS :=
  bI (fL_later N (xs (b + 1)) (xs (b + 2)) S) fun x1 S2 =>
  bI (fX12_later N (xs (b + 1)) (xs (b + 2)) S2) fun x4 S5 =>
  bI (fX12_thrown N S5) fun x7 S8 =>
  (if x7 = x1 then
    (if x1 = 0 then
      (if (lg_cmp (S8.2.1 111 0) x4.toInt64) = 0 then
        some S8
      else
        none)
    else
      some S8)
  else
    none)
set_option maxHeartbeats 4000000 in
set_option maxRecDepth 100000 in
theorem okC30 (N : Nat) (xs : Nat → Int32) (len b : Nat) (i : Int32) (Q : OQ) (M u : Nat) (S T : PS) (h : fC30 N xs b S = some T) (scS : SC xs len S) (hb : IB i len b) (hM : u + 8 ≤ M) (k : SC xs len T → ∀ u9, u9 ≤ u + 8 → WP [] mL_law 100 M Q 2706 [some (.ref 1000), some (.ref 0), some (.ref 80), some (.ref 111), some (.int i), none, none] [] T u9) : WP [] mL_law 100 M Q 2093 [some (.ref 1000), some (.ref 0), some (.ref 80), some (.ref 111), some (.int i), none, none] [] S u := by
  unfold fC30 at h
  refine r_aload_n (x := 0) dL_law_2093 rfl ?_
  refine r_aload_n (x := 1000) dL_law_2094 rfl ?_
  refine r_iload (x := i) dL_law_2095 rfl ?_
  refine r_iconst (v := 1) dL_law_2097 rfl ?_
  refine r_iadd dL_law_2098 ?_
  refine r_sld (k9 := b + 1) dL_law_2099 scS hb.2.1 ?_
  refine r_aload_n (x := 1000) dL_law_2100 rfl ?_
  refine r_iload (x := i) dL_law_2101 rfl ?_
  refine r_iconst (v := 2) dL_law_2103 rfl ?_
  refine r_iadd dL_law_2104 ?_
  refine r_sld (k9 := b + 2) dL_law_2105 scS hb.2.2.1 ?_
  refine r_aload_n (x := 111) dL_law_2106 rfl ?_
  obtain ⟨x1, S2, h3, h⟩ := bI_e h
  refine r_lSW (n := 4) (y := mL_later) (As := [.ref 0, .int (xs (b + 1)), .int (xs (b + 2)), .ref 111]) (rest := []) scS dL_law_2107 qL_234 wL_later sL_later wIniL ⟨by decide, by decide, by decide +kernel⟩ (by decide) rfl (okL_later N (xs (b + 1)) (xs (b + 2)) S x1 S2 h3) (by decide) hM rfl (Nat.le_of_ble_eq_true rfl) (fun scS2 => ?_)
  refine r_istore (L' := [some (.ref 1000), some (.ref 0), some (.ref 80), some (.ref 111), some (.int i), some (.int x1), none]) dL_law_2110 (Nat.le_of_ble_eq_true rfl) rfl rfl ?_
  refine r_aload_n (x := 80) dL_law_2112 rfl ?_
  refine r_aload_n (x := 1000) dL_law_2113 rfl ?_
  refine r_iload (x := i) dL_law_2114 rfl ?_
  refine r_iconst (v := 1) dL_law_2116 rfl ?_
  refine r_iadd dL_law_2117 ?_
  refine r_sld (k9 := b + 1) dL_law_2118 scS2 hb.2.1 ?_
  refine r_aload_n (x := 1000) dL_law_2119 rfl ?_
  refine r_iload (x := i) dL_law_2120 rfl ?_
  refine r_iconst (v := 2) dL_law_2122 rfl ?_
  refine r_iadd dL_law_2123 ?_
  refine r_sld (k9 := b + 2) dL_law_2124 scS2 hb.2.2.1 ?_
  obtain ⟨x4, S5, h6, h⟩ := bI_e h
  refine r_lVI (y := mX12_later) (As := [.int (xs (b + 1)), .int (xs (b + 2))]) (rest := []) scS2 dL_law_2125 qL_236 kX12_later rfl ob80 vc12 rfl (okX12_later N (xs (b + 1)) (xs (b + 2)) S2 x4 S5 h6) (by decide) (by omega) rfl (Nat.le_of_ble_eq_true rfl) (fun scS5 => ?_)
  refine r_istore (L' := [some (.ref 1000), some (.ref 0), some (.ref 80), some (.ref 111), some (.int i), some (.int x1), some (.int x4)]) dL_law_2128 (Nat.le_of_ble_eq_true rfl) rfl rfl ?_
  refine r_aload_n (x := 80) dL_law_2130 rfl ?_
  obtain ⟨x7, S8, h9, h⟩ := bI_e h
  refine r_lVI (y := mX12_thrown) (As := []) (rest := []) scS5 dL_law_2131 qL_137 kX12_thrown rfl ob80 vc12 rfl (okX12_thrown N  S5 x7 S8 h9) (by decide) (by omega) rfl (Nat.le_of_ble_eq_true rfl) (fun scS8 => ?_)
  refine r_iload (x := x1) dL_law_2134 rfl ?_
  refine r_icmp_eq (tgt := 2141) dL_law_2136 (by decide) (fun c10 => ?_) (fun c10 => ?_)
  · rw [if_pos c10] at h
    refine r_iload (x := x1) dL_law_2141 rfl ?_
    refine r_if_ne (tgt := 2158) dL_law_2143 (by decide) (fun c11 => ?_) (fun c11 => ?_)
    · rw [if_neg c11] at h
      refine r_goto (tgt := 2706) dL_law_2158 (by decide) ?_
      cases h
      refine r_drop [true, true, true, true, true, false, false] rfl ?_
      exact k scS8 _ (by omega)
    · rw [if_pos c11] at h
      refine r_aload_n (x := 111) dL_law_2146 rfl ?_
      refine r_iconst (v := 0) dL_law_2147 rfl ?_
      refine r_laload (a := 111) (k9 := 0) dL_law_2148 ck111 nC111 ⟨by decide, by decide⟩ ?_
      refine r_iload (x := x4) dL_law_2149 rfl ?_
      refine r_i2l dL_law_2151 ?_
      refine r_lcmp dL_law_2152 ?_
      refine r_if_eq (tgt := 2158) dL_law_2153 (by decide) (fun c12 => ?_) (fun c12 => ?_)
      · rw [if_pos c12] at h
        refine r_goto (tgt := 2706) dL_law_2158 (by decide) ?_
        cases h
        refine r_drop [true, true, true, true, true, false, false] rfl ?_
        exact k scS8 _ (by omega)
      · rw [if_neg c12] at h
        refine r_iconst (v := 0) dL_law_2156 rfl ?_
        cases h
  · rw [if_neg c10] at h
    refine r_iconst (v := 0) dL_law_2139 rfl ?_
    cases h
def fC31 (N : Nat) (xs : Nat → Int32) (b : Nat) (S : PS) : Option PS :=
  bI (fL_oftenest N (xs (b + 1)) S) fun x1 S2 =>
  bI (fX12_oftenest N (xs (b + 1)) S2) fun x4 S5 =>
  bI (fX12_thrown N S5) fun x7 S8 =>
  (if x7 = x1 then
    (if x1 = 0 then
      (if (lg_cmp (S8.2.1 111 0) x4.toInt64) = 0 then
        some S8
      else
        none)
    else
      some S8)
  else
    none)
set_option maxHeartbeats 4000000 in
set_option maxRecDepth 100000 in
theorem okC31 (N : Nat) (xs : Nat → Int32) (len b : Nat) (i : Int32) (Q : OQ) (M u : Nat) (S T : PS) (h : fC31 N xs b S = some T) (scS : SC xs len S) (hb : IB i len b) (hM : u + 8 ≤ M) (k : SC xs len T → ∀ u9, u9 ≤ u + 8 → WP [] mL_law 100 M Q 2706 [some (.ref 1000), some (.ref 0), some (.ref 80), some (.ref 111), some (.int i), none, none] [] T u9) : WP [] mL_law 100 M Q 2161 [some (.ref 1000), some (.ref 0), some (.ref 80), some (.ref 111), some (.int i), none, none] [] S u := by
  unfold fC31 at h
  refine r_aload_n (x := 0) dL_law_2161 rfl ?_
  refine r_aload_n (x := 1000) dL_law_2162 rfl ?_
  refine r_iload (x := i) dL_law_2163 rfl ?_
  refine r_iconst (v := 1) dL_law_2165 rfl ?_
  refine r_iadd dL_law_2166 ?_
  refine r_sld (k9 := b + 1) dL_law_2167 scS hb.2.1 ?_
  refine r_aload_n (x := 111) dL_law_2168 rfl ?_
  obtain ⟨x1, S2, h3, h⟩ := bI_e h
  refine r_lSW (n := 3) (y := mL_oftenest) (As := [.ref 0, .int (xs (b + 1)), .ref 111]) (rest := []) scS dL_law_2169 qL_237 wL_oftenest sL_oftenest wIniL ⟨by decide, by decide, by decide +kernel⟩ (by decide) rfl (okL_oftenest N (xs (b + 1)) S x1 S2 h3) (by decide) hM rfl (Nat.le_of_ble_eq_true rfl) (fun scS2 => ?_)
  refine r_istore (L' := [some (.ref 1000), some (.ref 0), some (.ref 80), some (.ref 111), some (.int i), some (.int x1), none]) dL_law_2172 (Nat.le_of_ble_eq_true rfl) rfl rfl ?_
  refine r_aload_n (x := 80) dL_law_2174 rfl ?_
  refine r_aload_n (x := 1000) dL_law_2175 rfl ?_
  refine r_iload (x := i) dL_law_2176 rfl ?_
  refine r_iconst (v := 1) dL_law_2178 rfl ?_
  refine r_iadd dL_law_2179 ?_
  refine r_sld (k9 := b + 1) dL_law_2180 scS2 hb.2.1 ?_
  obtain ⟨x4, S5, h6, h⟩ := bI_e h
  refine r_lVI (y := mX12_oftenest) (As := [.int (xs (b + 1))]) (rest := []) scS2 dL_law_2181 qL_239 kX12_oftenest rfl ob80 vc12 rfl (okX12_oftenest N (xs (b + 1)) S2 x4 S5 h6) (by decide) (by omega) rfl (Nat.le_of_ble_eq_true rfl) (fun scS5 => ?_)
  refine r_istore (L' := [some (.ref 1000), some (.ref 0), some (.ref 80), some (.ref 111), some (.int i), some (.int x1), some (.int x4)]) dL_law_2184 (Nat.le_of_ble_eq_true rfl) rfl rfl ?_
  refine r_aload_n (x := 80) dL_law_2186 rfl ?_
  obtain ⟨x7, S8, h9, h⟩ := bI_e h
  refine r_lVI (y := mX12_thrown) (As := []) (rest := []) scS5 dL_law_2187 qL_137 kX12_thrown rfl ob80 vc12 rfl (okX12_thrown N  S5 x7 S8 h9) (by decide) (by omega) rfl (Nat.le_of_ble_eq_true rfl) (fun scS8 => ?_)
  refine r_iload (x := x1) dL_law_2190 rfl ?_
  refine r_icmp_eq (tgt := 2197) dL_law_2192 (by decide) (fun c10 => ?_) (fun c10 => ?_)
  · rw [if_pos c10] at h
    refine r_iload (x := x1) dL_law_2197 rfl ?_
    refine r_if_ne (tgt := 2214) dL_law_2199 (by decide) (fun c11 => ?_) (fun c11 => ?_)
    · rw [if_neg c11] at h
      refine r_goto (tgt := 2706) dL_law_2214 (by decide) ?_
      cases h
      refine r_drop [true, true, true, true, true, false, false] rfl ?_
      exact k scS8 _ (by omega)
    · rw [if_pos c11] at h
      refine r_aload_n (x := 111) dL_law_2202 rfl ?_
      refine r_iconst (v := 0) dL_law_2203 rfl ?_
      refine r_laload (a := 111) (k9 := 0) dL_law_2204 ck111 nC111 ⟨by decide, by decide⟩ ?_
      refine r_iload (x := x4) dL_law_2205 rfl ?_
      refine r_i2l dL_law_2207 ?_
      refine r_lcmp dL_law_2208 ?_
      refine r_if_eq (tgt := 2214) dL_law_2209 (by decide) (fun c12 => ?_) (fun c12 => ?_)
      · rw [if_pos c12] at h
        refine r_goto (tgt := 2706) dL_law_2214 (by decide) ?_
        cases h
        refine r_drop [true, true, true, true, true, false, false] rfl ?_
        exact k scS8 _ (by omega)
      · rw [if_neg c12] at h
        refine r_iconst (v := 0) dL_law_2212 rfl ?_
        cases h
  · rw [if_neg c10] at h
    refine r_iconst (v := 0) dL_law_2195 rfl ?_
    cases h
def fC32 (N : Nat) (xs : Nat → Int32) (b : Nat) (S : PS) : Option PS :=
  bI (fX11_round N S) fun x1 S2 =>
  bI (fX12_round N S2) fun x4 S5 =>
  (if x1 = x4 then
    some S5
  else
    none)
set_option maxHeartbeats 4000000 in
set_option maxRecDepth 100000 in
theorem okC32 (N : Nat) (xs : Nat → Int32) (len b : Nat) (i : Int32) (Q : OQ) (M u : Nat) (S T : PS) (h : fC32 N xs b S = some T) (scS : SC xs len S) (hb : IB i len b) (hM : u + 8 ≤ M) (k : SC xs len T → ∀ u9, u9 ≤ u + 8 → WP [] mL_law 100 M Q 2706 [some (.ref 1000), some (.ref 0), some (.ref 80), some (.ref 111), some (.int i), none, none] [] T u9) : WP [] mL_law 100 M Q 2217 [some (.ref 1000), some (.ref 0), some (.ref 80), some (.ref 111), some (.int i), none, none] [] S u := by
  unfold fC32 at h
  refine r_aload_n (x := 0) dL_law_2217 rfl ?_
  obtain ⟨x1, S2, h3, h⟩ := bI_e h
  refine r_lVI (y := mX11_round) (As := []) (rest := []) scS dL_law_2218 qL_240 kX11_round rfl ob0 vc11 rfl (okX11_round N  S x1 S2 h3) (by decide) (by omega) rfl (Nat.le_of_ble_eq_true rfl) (fun scS2 => ?_)
  refine r_aload_n (x := 80) dL_law_2221 rfl ?_
  obtain ⟨x4, S5, h6, h⟩ := bI_e h
  refine r_lVI (y := mX12_round) (As := []) (rest := [.int x1]) scS2 dL_law_2222 qL_243 kX12_round rfl ob80 vc12 rfl (okX12_round N  S2 x4 S5 h6) (by decide) (by omega) rfl (Nat.le_of_ble_eq_true rfl) (fun scS5 => ?_)
  refine r_icmp_eq (tgt := 2706) dL_law_2225 (by decide) (fun c7 => ?_) (fun c7 => ?_)
  · rw [if_pos c7] at h
    cases h
    exact k scS5 _ (by omega)
  · rw [if_neg c7] at h
    refine r_iconst (v := 0) dL_law_2228 rfl ?_
    cases h
def fC33 (N : Nat) (xs : Nat → Int32) (b : Nat) (S : PS) : Option PS :=
  bI (fL_pause N (xs (b + 1)) S) fun x1 S2 =>
  bI (fX12_pause N (xs (b + 1)) S2) fun x4 S5 =>
  bI (fX12_thrown N S5) fun x7 S8 =>
  (if x7 = x1 then
    (if x1 = 0 then
      (if (lg_cmp (S8.2.1 111 0) x4.toInt64) = 0 then
        some S8
      else
        none)
    else
      some S8)
  else
    none)
set_option maxHeartbeats 4000000 in
set_option maxRecDepth 100000 in
theorem okC33 (N : Nat) (xs : Nat → Int32) (len b : Nat) (i : Int32) (Q : OQ) (M u : Nat) (S T : PS) (h : fC33 N xs b S = some T) (scS : SC xs len S) (hb : IB i len b) (hM : u + 8 ≤ M) (k : SC xs len T → ∀ u9, u9 ≤ u + 8 → WP [] mL_law 100 M Q 2706 [some (.ref 1000), some (.ref 0), some (.ref 80), some (.ref 111), some (.int i), none, none] [] T u9) : WP [] mL_law 100 M Q 2230 [some (.ref 1000), some (.ref 0), some (.ref 80), some (.ref 111), some (.int i), none, none] [] S u := by
  unfold fC33 at h
  refine r_aload_n (x := 0) dL_law_2230 rfl ?_
  refine r_aload_n (x := 1000) dL_law_2231 rfl ?_
  refine r_iload (x := i) dL_law_2232 rfl ?_
  refine r_iconst (v := 1) dL_law_2234 rfl ?_
  refine r_iadd dL_law_2235 ?_
  refine r_sld (k9 := b + 1) dL_law_2236 scS hb.2.1 ?_
  refine r_aload_n (x := 111) dL_law_2237 rfl ?_
  obtain ⟨x1, S2, h3, h⟩ := bI_e h
  refine r_lSW (n := 3) (y := mL_pause) (As := [.ref 0, .int (xs (b + 1)), .ref 111]) (rest := []) scS dL_law_2238 qL_244 wL_pause sL_pause wIniL ⟨by decide, by decide, by decide +kernel⟩ (by decide) rfl (okL_pause N (xs (b + 1)) S x1 S2 h3) (by decide) hM rfl (Nat.le_of_ble_eq_true rfl) (fun scS2 => ?_)
  refine r_istore (L' := [some (.ref 1000), some (.ref 0), some (.ref 80), some (.ref 111), some (.int i), some (.int x1), none]) dL_law_2241 (Nat.le_of_ble_eq_true rfl) rfl rfl ?_
  refine r_aload_n (x := 80) dL_law_2243 rfl ?_
  refine r_aload_n (x := 1000) dL_law_2244 rfl ?_
  refine r_iload (x := i) dL_law_2245 rfl ?_
  refine r_iconst (v := 1) dL_law_2247 rfl ?_
  refine r_iadd dL_law_2248 ?_
  refine r_sld (k9 := b + 1) dL_law_2249 scS2 hb.2.1 ?_
  obtain ⟨x4, S5, h6, h⟩ := bI_e h
  refine r_lVI (y := mX12_pause) (As := [.int (xs (b + 1))]) (rest := []) scS2 dL_law_2250 qL_246 kX12_pause rfl ob80 vc12 rfl (okX12_pause N (xs (b + 1)) S2 x4 S5 h6) (by decide) (by omega) rfl (Nat.le_of_ble_eq_true rfl) (fun scS5 => ?_)
  refine r_istore (L' := [some (.ref 1000), some (.ref 0), some (.ref 80), some (.ref 111), some (.int i), some (.int x1), some (.int x4)]) dL_law_2253 (Nat.le_of_ble_eq_true rfl) rfl rfl ?_
  refine r_aload_n (x := 80) dL_law_2255 rfl ?_
  obtain ⟨x7, S8, h9, h⟩ := bI_e h
  refine r_lVI (y := mX12_thrown) (As := []) (rest := []) scS5 dL_law_2256 qL_137 kX12_thrown rfl ob80 vc12 rfl (okX12_thrown N  S5 x7 S8 h9) (by decide) (by omega) rfl (Nat.le_of_ble_eq_true rfl) (fun scS8 => ?_)
  refine r_iload (x := x1) dL_law_2259 rfl ?_
  refine r_icmp_eq (tgt := 2266) dL_law_2261 (by decide) (fun c10 => ?_) (fun c10 => ?_)
  · rw [if_pos c10] at h
    refine r_iload (x := x1) dL_law_2266 rfl ?_
    refine r_if_ne (tgt := 2283) dL_law_2268 (by decide) (fun c11 => ?_) (fun c11 => ?_)
    · rw [if_neg c11] at h
      refine r_goto (tgt := 2706) dL_law_2283 (by decide) ?_
      cases h
      refine r_drop [true, true, true, true, true, false, false] rfl ?_
      exact k scS8 _ (by omega)
    · rw [if_pos c11] at h
      refine r_aload_n (x := 111) dL_law_2271 rfl ?_
      refine r_iconst (v := 0) dL_law_2272 rfl ?_
      refine r_laload (a := 111) (k9 := 0) dL_law_2273 ck111 nC111 ⟨by decide, by decide⟩ ?_
      refine r_iload (x := x4) dL_law_2274 rfl ?_
      refine r_i2l dL_law_2276 ?_
      refine r_lcmp dL_law_2277 ?_
      refine r_if_eq (tgt := 2283) dL_law_2278 (by decide) (fun c12 => ?_) (fun c12 => ?_)
      · rw [if_pos c12] at h
        refine r_goto (tgt := 2706) dL_law_2283 (by decide) ?_
        cases h
        refine r_drop [true, true, true, true, true, false, false] rfl ?_
        exact k scS8 _ (by omega)
      · rw [if_neg c12] at h
        refine r_iconst (v := 0) dL_law_2281 rfl ?_
        cases h
  · rw [if_neg c10] at h
    refine r_iconst (v := 0) dL_law_2264 rfl ?_
    cases h
def fC34 (N : Nat) (xs : Nat → Int32) (b : Nat) (S : PS) : Option PS :=
  bI (fL_giver N (xs (b + 1)) (xs (b + 2)) S) fun x1 S2 =>
  bI (fX12_giver N (xs (b + 1)) (xs (b + 2)) S2) fun x4 S5 =>
  bI (fX12_thrown N S5) fun x7 S8 =>
  (if x7 = x1 then
    (if x1 = 0 then
      (if (lg_cmp (S8.2.1 111 0) x4.toInt64) = 0 then
        some S8
      else
        none)
    else
      some S8)
  else
    none)
set_option maxHeartbeats 4000000 in
set_option maxRecDepth 100000 in
theorem okC34 (N : Nat) (xs : Nat → Int32) (len b : Nat) (i : Int32) (Q : OQ) (M u : Nat) (S T : PS) (h : fC34 N xs b S = some T) (scS : SC xs len S) (hb : IB i len b) (hM : u + 8 ≤ M) (k : SC xs len T → ∀ u9, u9 ≤ u + 8 → WP [] mL_law 100 M Q 2706 [some (.ref 1000), some (.ref 0), some (.ref 80), some (.ref 111), some (.int i), none, none] [] T u9) : WP [] mL_law 100 M Q 2286 [some (.ref 1000), some (.ref 0), some (.ref 80), some (.ref 111), some (.int i), none, none] [] S u := by
  unfold fC34 at h
  refine r_aload_n (x := 0) dL_law_2286 rfl ?_
  refine r_aload_n (x := 1000) dL_law_2287 rfl ?_
  refine r_iload (x := i) dL_law_2288 rfl ?_
  refine r_iconst (v := 1) dL_law_2290 rfl ?_
  refine r_iadd dL_law_2291 ?_
  refine r_sld (k9 := b + 1) dL_law_2292 scS hb.2.1 ?_
  refine r_aload_n (x := 1000) dL_law_2293 rfl ?_
  refine r_iload (x := i) dL_law_2294 rfl ?_
  refine r_iconst (v := 2) dL_law_2296 rfl ?_
  refine r_iadd dL_law_2297 ?_
  refine r_sld (k9 := b + 2) dL_law_2298 scS hb.2.2.1 ?_
  refine r_aload_n (x := 111) dL_law_2299 rfl ?_
  obtain ⟨x1, S2, h3, h⟩ := bI_e h
  refine r_lSW (n := 4) (y := mL_giver) (As := [.ref 0, .int (xs (b + 1)), .int (xs (b + 2)), .ref 111]) (rest := []) scS dL_law_2300 qL_247 wL_giver sL_giver wIniL ⟨by decide, by decide, by decide +kernel⟩ (by decide) rfl (okL_giver N (xs (b + 1)) (xs (b + 2)) S x1 S2 h3) (by decide) hM rfl (Nat.le_of_ble_eq_true rfl) (fun scS2 => ?_)
  refine r_istore (L' := [some (.ref 1000), some (.ref 0), some (.ref 80), some (.ref 111), some (.int i), some (.int x1), none]) dL_law_2303 (Nat.le_of_ble_eq_true rfl) rfl rfl ?_
  refine r_aload_n (x := 80) dL_law_2305 rfl ?_
  refine r_aload_n (x := 1000) dL_law_2306 rfl ?_
  refine r_iload (x := i) dL_law_2307 rfl ?_
  refine r_iconst (v := 1) dL_law_2309 rfl ?_
  refine r_iadd dL_law_2310 ?_
  refine r_sld (k9 := b + 1) dL_law_2311 scS2 hb.2.1 ?_
  refine r_aload_n (x := 1000) dL_law_2312 rfl ?_
  refine r_iload (x := i) dL_law_2313 rfl ?_
  refine r_iconst (v := 2) dL_law_2315 rfl ?_
  refine r_iadd dL_law_2316 ?_
  refine r_sld (k9 := b + 2) dL_law_2317 scS2 hb.2.2.1 ?_
  obtain ⟨x4, S5, h6, h⟩ := bI_e h
  refine r_lVI (y := mX12_giver) (As := [.int (xs (b + 1)), .int (xs (b + 2))]) (rest := []) scS2 dL_law_2318 qL_249 kX12_giver rfl ob80 vc12 rfl (okX12_giver N (xs (b + 1)) (xs (b + 2)) S2 x4 S5 h6) (by decide) (by omega) rfl (Nat.le_of_ble_eq_true rfl) (fun scS5 => ?_)
  refine r_istore (L' := [some (.ref 1000), some (.ref 0), some (.ref 80), some (.ref 111), some (.int i), some (.int x1), some (.int x4)]) dL_law_2321 (Nat.le_of_ble_eq_true rfl) rfl rfl ?_
  refine r_aload_n (x := 80) dL_law_2323 rfl ?_
  obtain ⟨x7, S8, h9, h⟩ := bI_e h
  refine r_lVI (y := mX12_thrown) (As := []) (rest := []) scS5 dL_law_2324 qL_137 kX12_thrown rfl ob80 vc12 rfl (okX12_thrown N  S5 x7 S8 h9) (by decide) (by omega) rfl (Nat.le_of_ble_eq_true rfl) (fun scS8 => ?_)
  refine r_iload (x := x1) dL_law_2327 rfl ?_
  refine r_icmp_eq (tgt := 2334) dL_law_2329 (by decide) (fun c10 => ?_) (fun c10 => ?_)
  · rw [if_pos c10] at h
    refine r_iload (x := x1) dL_law_2334 rfl ?_
    refine r_if_ne (tgt := 2351) dL_law_2336 (by decide) (fun c11 => ?_) (fun c11 => ?_)
    · rw [if_neg c11] at h
      refine r_goto (tgt := 2706) dL_law_2351 (by decide) ?_
      cases h
      refine r_drop [true, true, true, true, true, false, false] rfl ?_
      exact k scS8 _ (by omega)
    · rw [if_pos c11] at h
      refine r_aload_n (x := 111) dL_law_2339 rfl ?_
      refine r_iconst (v := 0) dL_law_2340 rfl ?_
      refine r_laload (a := 111) (k9 := 0) dL_law_2341 ck111 nC111 ⟨by decide, by decide⟩ ?_
      refine r_iload (x := x4) dL_law_2342 rfl ?_
      refine r_i2l dL_law_2344 ?_
      refine r_lcmp dL_law_2345 ?_
      refine r_if_eq (tgt := 2351) dL_law_2346 (by decide) (fun c12 => ?_) (fun c12 => ?_)
      · rw [if_pos c12] at h
        refine r_goto (tgt := 2706) dL_law_2351 (by decide) ?_
        cases h
        refine r_drop [true, true, true, true, true, false, false] rfl ?_
        exact k scS8 _ (by omega)
      · rw [if_neg c12] at h
        refine r_iconst (v := 0) dL_law_2349 rfl ?_
        cases h
  · rw [if_neg c10] at h
    refine r_iconst (v := 0) dL_law_2332 rfl ?_
    cases h
def fC35 (N : Nat) (xs : Nat → Int32) (b : Nat) (S : PS) : Option PS :=
  bI (fL_toPour N (xs (b + 1)) (xs (b + 2)) S) fun x1 S2 =>
  bI (fX12_toPour N (xs (b + 1)) (xs (b + 2)) S2) fun x4 S5 =>
  bI (fX12_thrown N S5) fun x7 S8 =>
  (if x7 = x1 then
    (if x1 = 0 then
      (if (lg_cmp (S8.2.1 111 0) x4.toInt64) = 0 then
        some S8
      else
        none)
    else
      some S8)
  else
    none)
set_option maxHeartbeats 4000000 in
set_option maxRecDepth 100000 in
theorem okC35 (N : Nat) (xs : Nat → Int32) (len b : Nat) (i : Int32) (Q : OQ) (M u : Nat) (S T : PS) (h : fC35 N xs b S = some T) (scS : SC xs len S) (hb : IB i len b) (hM : u + 8 ≤ M) (k : SC xs len T → ∀ u9, u9 ≤ u + 8 → WP [] mL_law 100 M Q 2706 [some (.ref 1000), some (.ref 0), some (.ref 80), some (.ref 111), some (.int i), none, none] [] T u9) : WP [] mL_law 100 M Q 2354 [some (.ref 1000), some (.ref 0), some (.ref 80), some (.ref 111), some (.int i), none, none] [] S u := by
  unfold fC35 at h
  refine r_aload_n (x := 0) dL_law_2354 rfl ?_
  refine r_aload_n (x := 1000) dL_law_2355 rfl ?_
  refine r_iload (x := i) dL_law_2356 rfl ?_
  refine r_iconst (v := 1) dL_law_2358 rfl ?_
  refine r_iadd dL_law_2359 ?_
  refine r_sld (k9 := b + 1) dL_law_2360 scS hb.2.1 ?_
  refine r_aload_n (x := 1000) dL_law_2361 rfl ?_
  refine r_iload (x := i) dL_law_2362 rfl ?_
  refine r_iconst (v := 2) dL_law_2364 rfl ?_
  refine r_iadd dL_law_2365 ?_
  refine r_sld (k9 := b + 2) dL_law_2366 scS hb.2.2.1 ?_
  refine r_aload_n (x := 111) dL_law_2367 rfl ?_
  obtain ⟨x1, S2, h3, h⟩ := bI_e h
  refine r_lSW (n := 4) (y := mL_toPour) (As := [.ref 0, .int (xs (b + 1)), .int (xs (b + 2)), .ref 111]) (rest := []) scS dL_law_2368 qL_250 wL_toPour sL_toPour wIniL ⟨by decide, by decide, by decide +kernel⟩ (by decide) rfl (okL_toPour N (xs (b + 1)) (xs (b + 2)) S x1 S2 h3) (by decide) hM rfl (Nat.le_of_ble_eq_true rfl) (fun scS2 => ?_)
  refine r_istore (L' := [some (.ref 1000), some (.ref 0), some (.ref 80), some (.ref 111), some (.int i), some (.int x1), none]) dL_law_2371 (Nat.le_of_ble_eq_true rfl) rfl rfl ?_
  refine r_aload_n (x := 80) dL_law_2373 rfl ?_
  refine r_aload_n (x := 1000) dL_law_2374 rfl ?_
  refine r_iload (x := i) dL_law_2375 rfl ?_
  refine r_iconst (v := 1) dL_law_2377 rfl ?_
  refine r_iadd dL_law_2378 ?_
  refine r_sld (k9 := b + 1) dL_law_2379 scS2 hb.2.1 ?_
  refine r_aload_n (x := 1000) dL_law_2380 rfl ?_
  refine r_iload (x := i) dL_law_2381 rfl ?_
  refine r_iconst (v := 2) dL_law_2383 rfl ?_
  refine r_iadd dL_law_2384 ?_
  refine r_sld (k9 := b + 2) dL_law_2385 scS2 hb.2.2.1 ?_
  obtain ⟨x4, S5, h6, h⟩ := bI_e h
  refine r_lVI (y := mX12_toPour) (As := [.int (xs (b + 1)), .int (xs (b + 2))]) (rest := []) scS2 dL_law_2386 qL_252 kX12_toPour rfl ob80 vc12 rfl (okX12_toPour N (xs (b + 1)) (xs (b + 2)) S2 x4 S5 h6) (by decide) (by omega) rfl (Nat.le_of_ble_eq_true rfl) (fun scS5 => ?_)
  refine r_istore (L' := [some (.ref 1000), some (.ref 0), some (.ref 80), some (.ref 111), some (.int i), some (.int x1), some (.int x4)]) dL_law_2389 (Nat.le_of_ble_eq_true rfl) rfl rfl ?_
  refine r_aload_n (x := 80) dL_law_2391 rfl ?_
  obtain ⟨x7, S8, h9, h⟩ := bI_e h
  refine r_lVI (y := mX12_thrown) (As := []) (rest := []) scS5 dL_law_2392 qL_137 kX12_thrown rfl ob80 vc12 rfl (okX12_thrown N  S5 x7 S8 h9) (by decide) (by omega) rfl (Nat.le_of_ble_eq_true rfl) (fun scS8 => ?_)
  refine r_iload (x := x1) dL_law_2395 rfl ?_
  refine r_icmp_eq (tgt := 2402) dL_law_2397 (by decide) (fun c10 => ?_) (fun c10 => ?_)
  · rw [if_pos c10] at h
    refine r_iload (x := x1) dL_law_2402 rfl ?_
    refine r_if_ne (tgt := 2419) dL_law_2404 (by decide) (fun c11 => ?_) (fun c11 => ?_)
    · rw [if_neg c11] at h
      refine r_goto (tgt := 2706) dL_law_2419 (by decide) ?_
      cases h
      refine r_drop [true, true, true, true, true, false, false] rfl ?_
      exact k scS8 _ (by omega)
    · rw [if_pos c11] at h
      refine r_aload_n (x := 111) dL_law_2407 rfl ?_
      refine r_iconst (v := 0) dL_law_2408 rfl ?_
      refine r_laload (a := 111) (k9 := 0) dL_law_2409 ck111 nC111 ⟨by decide, by decide⟩ ?_
      refine r_iload (x := x4) dL_law_2410 rfl ?_
      refine r_i2l dL_law_2412 ?_
      refine r_lcmp dL_law_2413 ?_
      refine r_if_eq (tgt := 2419) dL_law_2414 (by decide) (fun c12 => ?_) (fun c12 => ?_)
      · rw [if_pos c12] at h
        refine r_goto (tgt := 2706) dL_law_2419 (by decide) ?_
        cases h
        refine r_drop [true, true, true, true, true, false, false] rfl ?_
        exact k scS8 _ (by omega)
      · rw [if_neg c12] at h
        refine r_iconst (v := 0) dL_law_2417 rfl ?_
        cases h
  · rw [if_neg c10] at h
    refine r_iconst (v := 0) dL_law_2400 rfl ?_
    cases h
def fC36 (N : Nat) (xs : Nat → Int32) (b : Nat) (S : PS) : Option PS :=
  bI (fL_ways N (xs (b + 1)) (xs (b + 2)) S) fun x1 S2 =>
  bI (fX12_ways N (xs (b + 1)) (xs (b + 2)) S2) fun x4 S5 =>
  bI (fX12_thrown N S5) fun x7 S8 =>
  (if x7 = x1 then
    (if x1 = 0 then
      (if (lg_cmp (S8.2.1 111 0) x4.toInt64) = 0 then
        some S8
      else
        none)
    else
      some S8)
  else
    none)
set_option maxHeartbeats 4000000 in
set_option maxRecDepth 100000 in
theorem okC36 (N : Nat) (xs : Nat → Int32) (len b : Nat) (i : Int32) (Q : OQ) (M u : Nat) (S T : PS) (h : fC36 N xs b S = some T) (scS : SC xs len S) (hb : IB i len b) (hM : u + 8 ≤ M) (k : SC xs len T → ∀ u9, u9 ≤ u + 8 → WP [] mL_law 100 M Q 2706 [some (.ref 1000), some (.ref 0), some (.ref 80), some (.ref 111), some (.int i), none, none] [] T u9) : WP [] mL_law 100 M Q 2422 [some (.ref 1000), some (.ref 0), some (.ref 80), some (.ref 111), some (.int i), none, none] [] S u := by
  unfold fC36 at h
  refine r_aload_n (x := 0) dL_law_2422 rfl ?_
  refine r_aload_n (x := 1000) dL_law_2423 rfl ?_
  refine r_iload (x := i) dL_law_2424 rfl ?_
  refine r_iconst (v := 1) dL_law_2426 rfl ?_
  refine r_iadd dL_law_2427 ?_
  refine r_sld (k9 := b + 1) dL_law_2428 scS hb.2.1 ?_
  refine r_aload_n (x := 1000) dL_law_2429 rfl ?_
  refine r_iload (x := i) dL_law_2430 rfl ?_
  refine r_iconst (v := 2) dL_law_2432 rfl ?_
  refine r_iadd dL_law_2433 ?_
  refine r_sld (k9 := b + 2) dL_law_2434 scS hb.2.2.1 ?_
  refine r_aload_n (x := 111) dL_law_2435 rfl ?_
  obtain ⟨x1, S2, h3, h⟩ := bI_e h
  refine r_lSW (n := 4) (y := mL_ways) (As := [.ref 0, .int (xs (b + 1)), .int (xs (b + 2)), .ref 111]) (rest := []) scS dL_law_2436 qL_253 wL_ways sL_ways wIniL ⟨by decide, by decide, by decide +kernel⟩ (by decide) rfl (okL_ways N (xs (b + 1)) (xs (b + 2)) S x1 S2 h3) (by decide) hM rfl (Nat.le_of_ble_eq_true rfl) (fun scS2 => ?_)
  refine r_istore (L' := [some (.ref 1000), some (.ref 0), some (.ref 80), some (.ref 111), some (.int i), some (.int x1), none]) dL_law_2439 (Nat.le_of_ble_eq_true rfl) rfl rfl ?_
  refine r_aload_n (x := 80) dL_law_2441 rfl ?_
  refine r_aload_n (x := 1000) dL_law_2442 rfl ?_
  refine r_iload (x := i) dL_law_2443 rfl ?_
  refine r_iconst (v := 1) dL_law_2445 rfl ?_
  refine r_iadd dL_law_2446 ?_
  refine r_sld (k9 := b + 1) dL_law_2447 scS2 hb.2.1 ?_
  refine r_aload_n (x := 1000) dL_law_2448 rfl ?_
  refine r_iload (x := i) dL_law_2449 rfl ?_
  refine r_iconst (v := 2) dL_law_2451 rfl ?_
  refine r_iadd dL_law_2452 ?_
  refine r_sld (k9 := b + 2) dL_law_2453 scS2 hb.2.2.1 ?_
  obtain ⟨x4, S5, h6, h⟩ := bI_e h
  refine r_lVI (y := mX12_ways) (As := [.int (xs (b + 1)), .int (xs (b + 2))]) (rest := []) scS2 dL_law_2454 qL_255 kX12_ways rfl ob80 vc12 rfl (okX12_ways N (xs (b + 1)) (xs (b + 2)) S2 x4 S5 h6) (by decide) (by omega) rfl (Nat.le_of_ble_eq_true rfl) (fun scS5 => ?_)
  refine r_istore (L' := [some (.ref 1000), some (.ref 0), some (.ref 80), some (.ref 111), some (.int i), some (.int x1), some (.int x4)]) dL_law_2457 (Nat.le_of_ble_eq_true rfl) rfl rfl ?_
  refine r_aload_n (x := 80) dL_law_2459 rfl ?_
  obtain ⟨x7, S8, h9, h⟩ := bI_e h
  refine r_lVI (y := mX12_thrown) (As := []) (rest := []) scS5 dL_law_2460 qL_137 kX12_thrown rfl ob80 vc12 rfl (okX12_thrown N  S5 x7 S8 h9) (by decide) (by omega) rfl (Nat.le_of_ble_eq_true rfl) (fun scS8 => ?_)
  refine r_iload (x := x1) dL_law_2463 rfl ?_
  refine r_icmp_eq (tgt := 2470) dL_law_2465 (by decide) (fun c10 => ?_) (fun c10 => ?_)
  · rw [if_pos c10] at h
    refine r_iload (x := x1) dL_law_2470 rfl ?_
    refine r_if_ne (tgt := 2487) dL_law_2472 (by decide) (fun c11 => ?_) (fun c11 => ?_)
    · rw [if_neg c11] at h
      refine r_goto (tgt := 2706) dL_law_2487 (by decide) ?_
      cases h
      refine r_drop [true, true, true, true, true, false, false] rfl ?_
      exact k scS8 _ (by omega)
    · rw [if_pos c11] at h
      refine r_aload_n (x := 111) dL_law_2475 rfl ?_
      refine r_iconst (v := 0) dL_law_2476 rfl ?_
      refine r_laload (a := 111) (k9 := 0) dL_law_2477 ck111 nC111 ⟨by decide, by decide⟩ ?_
      refine r_iload (x := x4) dL_law_2478 rfl ?_
      refine r_i2l dL_law_2480 ?_
      refine r_lcmp dL_law_2481 ?_
      refine r_if_eq (tgt := 2487) dL_law_2482 (by decide) (fun c12 => ?_) (fun c12 => ?_)
      · rw [if_pos c12] at h
        refine r_goto (tgt := 2706) dL_law_2487 (by decide) ?_
        cases h
        refine r_drop [true, true, true, true, true, false, false] rfl ?_
        exact k scS8 _ (by omega)
      · rw [if_neg c12] at h
        refine r_iconst (v := 0) dL_law_2485 rfl ?_
        cases h
  · rw [if_neg c10] at h
    refine r_iconst (v := 0) dL_law_2468 rfl ?_
    cases h
def fC37 (N : Nat) (xs : Nat → Int32) (b : Nat) (S : PS) : Option PS :=
  bI (fL_chorus N (xs (b + 1)) (xs (b + 2)) S) fun x1 S2 =>
  bI (fX12_chorus N (xs (b + 1)) (xs (b + 2)) S2) fun x4 S5 =>
  bI (fX12_thrown N S5) fun x7 S8 =>
  (if x7 = x1 then
    (if x1 = 0 then
      (if (lg_cmp (S8.2.1 111 0) x4.toInt64) = 0 then
        some S8
      else
        none)
    else
      some S8)
  else
    none)
set_option maxHeartbeats 4000000 in
set_option maxRecDepth 100000 in
theorem okC37 (N : Nat) (xs : Nat → Int32) (len b : Nat) (i : Int32) (Q : OQ) (M u : Nat) (S T : PS) (h : fC37 N xs b S = some T) (scS : SC xs len S) (hb : IB i len b) (hM : u + 8 ≤ M) (k : SC xs len T → ∀ u9, u9 ≤ u + 8 → WP [] mL_law 100 M Q 2706 [some (.ref 1000), some (.ref 0), some (.ref 80), some (.ref 111), some (.int i), none, none] [] T u9) : WP [] mL_law 100 M Q 2490 [some (.ref 1000), some (.ref 0), some (.ref 80), some (.ref 111), some (.int i), none, none] [] S u := by
  unfold fC37 at h
  refine r_aload_n (x := 0) dL_law_2490 rfl ?_
  refine r_aload_n (x := 1000) dL_law_2491 rfl ?_
  refine r_iload (x := i) dL_law_2492 rfl ?_
  refine r_iconst (v := 1) dL_law_2494 rfl ?_
  refine r_iadd dL_law_2495 ?_
  refine r_sld (k9 := b + 1) dL_law_2496 scS hb.2.1 ?_
  refine r_aload_n (x := 1000) dL_law_2497 rfl ?_
  refine r_iload (x := i) dL_law_2498 rfl ?_
  refine r_iconst (v := 2) dL_law_2500 rfl ?_
  refine r_iadd dL_law_2501 ?_
  refine r_sld (k9 := b + 2) dL_law_2502 scS hb.2.2.1 ?_
  refine r_aload_n (x := 111) dL_law_2503 rfl ?_
  obtain ⟨x1, S2, h3, h⟩ := bI_e h
  refine r_lSW (n := 4) (y := mL_chorus) (As := [.ref 0, .int (xs (b + 1)), .int (xs (b + 2)), .ref 111]) (rest := []) scS dL_law_2504 qL_256 wL_chorus sL_chorus wIniL ⟨by decide, by decide, by decide +kernel⟩ (by decide) rfl (okL_chorus N (xs (b + 1)) (xs (b + 2)) S x1 S2 h3) (by decide) hM rfl (Nat.le_of_ble_eq_true rfl) (fun scS2 => ?_)
  refine r_istore (L' := [some (.ref 1000), some (.ref 0), some (.ref 80), some (.ref 111), some (.int i), some (.int x1), none]) dL_law_2507 (Nat.le_of_ble_eq_true rfl) rfl rfl ?_
  refine r_aload_n (x := 80) dL_law_2509 rfl ?_
  refine r_aload_n (x := 1000) dL_law_2510 rfl ?_
  refine r_iload (x := i) dL_law_2511 rfl ?_
  refine r_iconst (v := 1) dL_law_2513 rfl ?_
  refine r_iadd dL_law_2514 ?_
  refine r_sld (k9 := b + 1) dL_law_2515 scS2 hb.2.1 ?_
  refine r_aload_n (x := 1000) dL_law_2516 rfl ?_
  refine r_iload (x := i) dL_law_2517 rfl ?_
  refine r_iconst (v := 2) dL_law_2519 rfl ?_
  refine r_iadd dL_law_2520 ?_
  refine r_sld (k9 := b + 2) dL_law_2521 scS2 hb.2.2.1 ?_
  obtain ⟨x4, S5, h6, h⟩ := bI_e h
  refine r_lVI (y := mX12_chorus) (As := [.int (xs (b + 1)), .int (xs (b + 2))]) (rest := []) scS2 dL_law_2522 qL_258 kX12_chorus rfl ob80 vc12 rfl (okX12_chorus N (xs (b + 1)) (xs (b + 2)) S2 x4 S5 h6) (by decide) (by omega) rfl (Nat.le_of_ble_eq_true rfl) (fun scS5 => ?_)
  refine r_istore (L' := [some (.ref 1000), some (.ref 0), some (.ref 80), some (.ref 111), some (.int i), some (.int x1), some (.int x4)]) dL_law_2525 (Nat.le_of_ble_eq_true rfl) rfl rfl ?_
  refine r_aload_n (x := 80) dL_law_2527 rfl ?_
  obtain ⟨x7, S8, h9, h⟩ := bI_e h
  refine r_lVI (y := mX12_thrown) (As := []) (rest := []) scS5 dL_law_2528 qL_137 kX12_thrown rfl ob80 vc12 rfl (okX12_thrown N  S5 x7 S8 h9) (by decide) (by omega) rfl (Nat.le_of_ble_eq_true rfl) (fun scS8 => ?_)
  refine r_iload (x := x1) dL_law_2531 rfl ?_
  refine r_icmp_eq (tgt := 2538) dL_law_2533 (by decide) (fun c10 => ?_) (fun c10 => ?_)
  · rw [if_pos c10] at h
    refine r_iload (x := x1) dL_law_2538 rfl ?_
    refine r_if_ne (tgt := 2555) dL_law_2540 (by decide) (fun c11 => ?_) (fun c11 => ?_)
    · rw [if_neg c11] at h
      refine r_goto (tgt := 2706) dL_law_2555 (by decide) ?_
      cases h
      refine r_drop [true, true, true, true, true, false, false] rfl ?_
      exact k scS8 _ (by omega)
    · rw [if_pos c11] at h
      refine r_aload_n (x := 111) dL_law_2543 rfl ?_
      refine r_iconst (v := 0) dL_law_2544 rfl ?_
      refine r_laload (a := 111) (k9 := 0) dL_law_2545 ck111 nC111 ⟨by decide, by decide⟩ ?_
      refine r_iload (x := x4) dL_law_2546 rfl ?_
      refine r_i2l dL_law_2548 ?_
      refine r_lcmp dL_law_2549 ?_
      refine r_if_eq (tgt := 2555) dL_law_2550 (by decide) (fun c12 => ?_) (fun c12 => ?_)
      · rw [if_pos c12] at h
        refine r_goto (tgt := 2706) dL_law_2555 (by decide) ?_
        cases h
        refine r_drop [true, true, true, true, true, false, false] rfl ?_
        exact k scS8 _ (by omega)
      · rw [if_neg c12] at h
        refine r_iconst (v := 0) dL_law_2553 rfl ?_
        cases h
  · rw [if_neg c10] at h
    refine r_iconst (v := 0) dL_law_2536 rfl ?_
    cases h
def fC38 (N : Nat) (xs : Nat → Int32) (b : Nat) (S : PS) : Option PS :=
  bI (fL_never N (xs (b + 1)) S) fun x1 S2 =>
  bI (fX12_never N (xs (b + 1)) S2) fun x4 S5 =>
  bI (fX12_thrown N S5) fun x7 S8 =>
  (if x7 = x1 then
    (if x1 = 0 then
      (if (lg_cmp (S8.2.1 111 0) x4.toInt64) = 0 then
        some S8
      else
        none)
    else
      some S8)
  else
    none)
set_option maxHeartbeats 4000000 in
set_option maxRecDepth 100000 in
theorem okC38 (N : Nat) (xs : Nat → Int32) (len b : Nat) (i : Int32) (Q : OQ) (M u : Nat) (S T : PS) (h : fC38 N xs b S = some T) (scS : SC xs len S) (hb : IB i len b) (hM : u + 8 ≤ M) (k : SC xs len T → ∀ u9, u9 ≤ u + 8 → WP [] mL_law 100 M Q 2706 [some (.ref 1000), some (.ref 0), some (.ref 80), some (.ref 111), some (.int i), none, none] [] T u9) : WP [] mL_law 100 M Q 2558 [some (.ref 1000), some (.ref 0), some (.ref 80), some (.ref 111), some (.int i), none, none] [] S u := by
  unfold fC38 at h
  refine r_aload_n (x := 0) dL_law_2558 rfl ?_
  refine r_aload_n (x := 1000) dL_law_2559 rfl ?_
  refine r_iload (x := i) dL_law_2560 rfl ?_
  refine r_iconst (v := 1) dL_law_2562 rfl ?_
  refine r_iadd dL_law_2563 ?_
  refine r_sld (k9 := b + 1) dL_law_2564 scS hb.2.1 ?_
  refine r_aload_n (x := 111) dL_law_2565 rfl ?_
  obtain ⟨x1, S2, h3, h⟩ := bI_e h
  refine r_lSW (n := 3) (y := mL_never) (As := [.ref 0, .int (xs (b + 1)), .ref 111]) (rest := []) scS dL_law_2566 qL_259 wL_never sL_never wIniL ⟨by decide, by decide, by decide +kernel⟩ (by decide) rfl (okL_never N (xs (b + 1)) S x1 S2 h3) (by decide) hM rfl (Nat.le_of_ble_eq_true rfl) (fun scS2 => ?_)
  refine r_istore (L' := [some (.ref 1000), some (.ref 0), some (.ref 80), some (.ref 111), some (.int i), some (.int x1), none]) dL_law_2569 (Nat.le_of_ble_eq_true rfl) rfl rfl ?_
  refine r_aload_n (x := 80) dL_law_2571 rfl ?_
  refine r_aload_n (x := 1000) dL_law_2572 rfl ?_
  refine r_iload (x := i) dL_law_2573 rfl ?_
  refine r_iconst (v := 1) dL_law_2575 rfl ?_
  refine r_iadd dL_law_2576 ?_
  refine r_sld (k9 := b + 1) dL_law_2577 scS2 hb.2.1 ?_
  obtain ⟨x4, S5, h6, h⟩ := bI_e h
  refine r_lVI (y := mX12_never) (As := [.int (xs (b + 1))]) (rest := []) scS2 dL_law_2578 qL_261 kX12_never rfl ob80 vc12 rfl (okX12_never N (xs (b + 1)) S2 x4 S5 h6) (by decide) (by omega) rfl (Nat.le_of_ble_eq_true rfl) (fun scS5 => ?_)
  refine r_istore (L' := [some (.ref 1000), some (.ref 0), some (.ref 80), some (.ref 111), some (.int i), some (.int x1), some (.int x4)]) dL_law_2581 (Nat.le_of_ble_eq_true rfl) rfl rfl ?_
  refine r_aload_n (x := 80) dL_law_2583 rfl ?_
  obtain ⟨x7, S8, h9, h⟩ := bI_e h
  refine r_lVI (y := mX12_thrown) (As := []) (rest := []) scS5 dL_law_2584 qL_137 kX12_thrown rfl ob80 vc12 rfl (okX12_thrown N  S5 x7 S8 h9) (by decide) (by omega) rfl (Nat.le_of_ble_eq_true rfl) (fun scS8 => ?_)
  refine r_iload (x := x1) dL_law_2587 rfl ?_
  refine r_icmp_eq (tgt := 2594) dL_law_2589 (by decide) (fun c10 => ?_) (fun c10 => ?_)
  · rw [if_pos c10] at h
    refine r_iload (x := x1) dL_law_2594 rfl ?_
    refine r_if_ne (tgt := 2611) dL_law_2596 (by decide) (fun c11 => ?_) (fun c11 => ?_)
    · rw [if_neg c11] at h
      refine r_goto (tgt := 2706) dL_law_2611 (by decide) ?_
      cases h
      refine r_drop [true, true, true, true, true, false, false] rfl ?_
      exact k scS8 _ (by omega)
    · rw [if_pos c11] at h
      refine r_aload_n (x := 111) dL_law_2599 rfl ?_
      refine r_iconst (v := 0) dL_law_2600 rfl ?_
      refine r_laload (a := 111) (k9 := 0) dL_law_2601 ck111 nC111 ⟨by decide, by decide⟩ ?_
      refine r_iload (x := x4) dL_law_2602 rfl ?_
      refine r_i2l dL_law_2604 ?_
      refine r_lcmp dL_law_2605 ?_
      refine r_if_eq (tgt := 2611) dL_law_2606 (by decide) (fun c12 => ?_) (fun c12 => ?_)
      · rw [if_pos c12] at h
        refine r_goto (tgt := 2706) dL_law_2611 (by decide) ?_
        cases h
        refine r_drop [true, true, true, true, true, false, false] rfl ?_
        exact k scS8 _ (by omega)
      · rw [if_neg c12] at h
        refine r_iconst (v := 0) dL_law_2609 rfl ?_
        cases h
  · rw [if_neg c10] at h
    refine r_iconst (v := 0) dL_law_2592 rfl ?_
    cases h
def fC39 (N : Nat) (xs : Nat → Int32) (b : Nat) (S : PS) : Option PS :=
  bI (fL_swell N (xs (b + 1)) (xs (b + 2)) S) fun x1 S2 =>
  bI (fX12_swell N (xs (b + 1)) (xs (b + 2)) S2) fun x4 S5 =>
  bI (fX12_thrown N S5) fun x7 S8 =>
  (if x7 = x1 then
    (if x1 = 0 then
      (if (lg_cmp (S8.2.1 111 0) x4.toInt64) = 0 then
        some S8
      else
        none)
    else
      some S8)
  else
    none)
set_option maxHeartbeats 4000000 in
set_option maxRecDepth 100000 in
theorem okC39 (N : Nat) (xs : Nat → Int32) (len b : Nat) (i : Int32) (Q : OQ) (M u : Nat) (S T : PS) (h : fC39 N xs b S = some T) (scS : SC xs len S) (hb : IB i len b) (hM : u + 8 ≤ M) (k : SC xs len T → ∀ u9, u9 ≤ u + 8 → WP [] mL_law 100 M Q 2706 [some (.ref 1000), some (.ref 0), some (.ref 80), some (.ref 111), some (.int i), none, none] [] T u9) : WP [] mL_law 100 M Q 2614 [some (.ref 1000), some (.ref 0), some (.ref 80), some (.ref 111), some (.int i), none, none] [] S u := by
  unfold fC39 at h
  refine r_aload_n (x := 0) dL_law_2614 rfl ?_
  refine r_aload_n (x := 1000) dL_law_2615 rfl ?_
  refine r_iload (x := i) dL_law_2616 rfl ?_
  refine r_iconst (v := 1) dL_law_2618 rfl ?_
  refine r_iadd dL_law_2619 ?_
  refine r_sld (k9 := b + 1) dL_law_2620 scS hb.2.1 ?_
  refine r_aload_n (x := 1000) dL_law_2621 rfl ?_
  refine r_iload (x := i) dL_law_2622 rfl ?_
  refine r_iconst (v := 2) dL_law_2624 rfl ?_
  refine r_iadd dL_law_2625 ?_
  refine r_sld (k9 := b + 2) dL_law_2626 scS hb.2.2.1 ?_
  refine r_aload_n (x := 111) dL_law_2627 rfl ?_
  obtain ⟨x1, S2, h3, h⟩ := bI_e h
  refine r_lSW (n := 4) (y := mL_swell) (As := [.ref 0, .int (xs (b + 1)), .int (xs (b + 2)), .ref 111]) (rest := []) scS dL_law_2628 qL_262 wL_swell sL_swell wIniL ⟨by decide, by decide, by decide +kernel⟩ (by decide) rfl (okL_swell N (xs (b + 1)) (xs (b + 2)) S x1 S2 h3) (by decide) hM rfl (Nat.le_of_ble_eq_true rfl) (fun scS2 => ?_)
  refine r_istore (L' := [some (.ref 1000), some (.ref 0), some (.ref 80), some (.ref 111), some (.int i), some (.int x1), none]) dL_law_2631 (Nat.le_of_ble_eq_true rfl) rfl rfl ?_
  refine r_aload_n (x := 80) dL_law_2633 rfl ?_
  refine r_aload_n (x := 1000) dL_law_2634 rfl ?_
  refine r_iload (x := i) dL_law_2635 rfl ?_
  refine r_iconst (v := 1) dL_law_2637 rfl ?_
  refine r_iadd dL_law_2638 ?_
  refine r_sld (k9 := b + 1) dL_law_2639 scS2 hb.2.1 ?_
  refine r_aload_n (x := 1000) dL_law_2640 rfl ?_
  refine r_iload (x := i) dL_law_2641 rfl ?_
  refine r_iconst (v := 2) dL_law_2643 rfl ?_
  refine r_iadd dL_law_2644 ?_
  refine r_sld (k9 := b + 2) dL_law_2645 scS2 hb.2.2.1 ?_
  obtain ⟨x4, S5, h6, h⟩ := bI_e h
  refine r_lVI (y := mX12_swell) (As := [.int (xs (b + 1)), .int (xs (b + 2))]) (rest := []) scS2 dL_law_2646 qL_264 kX12_swell rfl ob80 vc12 rfl (okX12_swell N (xs (b + 1)) (xs (b + 2)) S2 x4 S5 h6) (by decide) (by omega) rfl (Nat.le_of_ble_eq_true rfl) (fun scS5 => ?_)
  refine r_istore (L' := [some (.ref 1000), some (.ref 0), some (.ref 80), some (.ref 111), some (.int i), some (.int x1), some (.int x4)]) dL_law_2649 (Nat.le_of_ble_eq_true rfl) rfl rfl ?_
  refine r_aload_n (x := 80) dL_law_2651 rfl ?_
  obtain ⟨x7, S8, h9, h⟩ := bI_e h
  refine r_lVI (y := mX12_thrown) (As := []) (rest := []) scS5 dL_law_2652 qL_137 kX12_thrown rfl ob80 vc12 rfl (okX12_thrown N  S5 x7 S8 h9) (by decide) (by omega) rfl (Nat.le_of_ble_eq_true rfl) (fun scS8 => ?_)
  refine r_iload (x := x1) dL_law_2655 rfl ?_
  refine r_icmp_eq (tgt := 2662) dL_law_2657 (by decide) (fun c10 => ?_) (fun c10 => ?_)
  · rw [if_pos c10] at h
    refine r_iload (x := x1) dL_law_2662 rfl ?_
    refine r_if_ne (tgt := 2679) dL_law_2664 (by decide) (fun c11 => ?_) (fun c11 => ?_)
    · rw [if_neg c11] at h
      refine r_goto (tgt := 2706) dL_law_2679 (by decide) ?_
      cases h
      refine r_drop [true, true, true, true, true, false, false] rfl ?_
      exact k scS8 _ (by omega)
    · rw [if_pos c11] at h
      refine r_aload_n (x := 111) dL_law_2667 rfl ?_
      refine r_iconst (v := 0) dL_law_2668 rfl ?_
      refine r_laload (a := 111) (k9 := 0) dL_law_2669 ck111 nC111 ⟨by decide, by decide⟩ ?_
      refine r_iload (x := x4) dL_law_2670 rfl ?_
      refine r_i2l dL_law_2672 ?_
      refine r_lcmp dL_law_2673 ?_
      refine r_if_eq (tgt := 2679) dL_law_2674 (by decide) (fun c12 => ?_) (fun c12 => ?_)
      · rw [if_pos c12] at h
        refine r_goto (tgt := 2706) dL_law_2679 (by decide) ?_
        cases h
        refine r_drop [true, true, true, true, true, false, false] rfl ?_
        exact k scS8 _ (by omega)
      · rw [if_neg c12] at h
        refine r_iconst (v := 0) dL_law_2677 rfl ?_
        cases h
  · rw [if_neg c10] at h
    refine r_iconst (v := 0) dL_law_2660 rfl ?_
    cases h
def fC40 (N : Nat) (xs : Nat → Int32) (b : Nat) (S : PS) : Option PS :=
  bV (fX11_image N S) fun S2 =>
  bV (fX12_image N S2) fun S5 =>
  some S5
set_option maxHeartbeats 4000000 in
set_option maxRecDepth 100000 in
theorem okC40 (N : Nat) (xs : Nat → Int32) (len b : Nat) (i : Int32) (Q : OQ) (M u : Nat) (S T : PS) (h : fC40 N xs b S = some T) (scS : SC xs len S) (hb : IB i len b) (hM : u + 8 ≤ M) (k : SC xs len T → ∀ u9, u9 ≤ u + 8 → WP [] mL_law 100 M Q 2706 [some (.ref 1000), some (.ref 0), some (.ref 80), some (.ref 111), some (.int i), none, none] [] T u9) : WP [] mL_law 100 M Q 2682 [some (.ref 1000), some (.ref 0), some (.ref 80), some (.ref 111), some (.int i), none, none] [] S u := by
  unfold fC40 at h
  refine r_aload_n (x := 0) dL_law_2682 rfl ?_
  obtain ⟨S2, h3, h⟩ := bV_e h
  refine r_lVV (y := mX11_image) (As := []) (rest := []) scS dL_law_2683 qL_265 kX11_image rfl ob0 vc11 rfl (okX11_image N  S S2 h3) (by decide) (by omega) rfl (Nat.le_of_ble_eq_true rfl) (fun scS2 => ?_)
  refine r_aload_n (x := 80) dL_law_2686 rfl ?_
  obtain ⟨S5, h6, h⟩ := bV_e h
  refine r_lVV (y := mX12_image) (As := []) (rest := []) scS2 dL_law_2687 qL_268 kX12_image rfl ob80 vc12 rfl (okX12_image N  S2 S5 h6) (by decide) (by omega) rfl (Nat.le_of_ble_eq_true rfl) (fun scS5 => ?_)
  refine r_goto (tgt := 2706) dL_law_2690 (by decide) ?_
  cases h
  exact k scS5 _ (by omega)
def fC41 (N : Nat) (xs : Nat → Int32) (b : Nat) (S : PS) : Option PS :=
  bI (fX11_restore N S) fun x1 S2 =>
  bI (fX12_restore N S2) fun x4 S5 =>
  (if x1 = x4 then
    some S5
  else
    none)
set_option maxHeartbeats 4000000 in
set_option maxRecDepth 100000 in
theorem okC41 (N : Nat) (xs : Nat → Int32) (len b : Nat) (i : Int32) (Q : OQ) (M u : Nat) (S T : PS) (h : fC41 N xs b S = some T) (scS : SC xs len S) (hb : IB i len b) (hM : u + 8 ≤ M) (k : SC xs len T → ∀ u9, u9 ≤ u + 8 → WP [] mL_law 100 M Q 2706 [some (.ref 1000), some (.ref 0), some (.ref 80), some (.ref 111), some (.int i), none, none] [] T u9) : WP [] mL_law 100 M Q 2693 [some (.ref 1000), some (.ref 0), some (.ref 80), some (.ref 111), some (.int i), none, none] [] S u := by
  unfold fC41 at h
  refine r_aload_n (x := 0) dL_law_2693 rfl ?_
  obtain ⟨x1, S2, h3, h⟩ := bI_e h
  refine r_lVI (y := mX11_restore) (As := []) (rest := []) scS dL_law_2694 qL_269 kX11_restore rfl ob0 vc11 rfl (okX11_restore N  S x1 S2 h3) (by decide) (by omega) rfl (Nat.le_of_ble_eq_true rfl) (fun scS2 => ?_)
  refine r_aload_n (x := 80) dL_law_2697 rfl ?_
  obtain ⟨x4, S5, h6, h⟩ := bI_e h
  refine r_lVI (y := mX12_restore) (As := []) (rest := [.int x1]) scS2 dL_law_2698 qL_273 kX12_restore rfl ob80 vc12 rfl (okX12_restore N  S2 x4 S5 h6) (by decide) (by omega) rfl (Nat.le_of_ble_eq_true rfl) (fun scS5 => ?_)
  refine r_icmp_eq (tgt := 2706) dL_law_2701 (by decide) (fun c7 => ?_) (fun c7 => ?_)
  · rw [if_pos c7] at h
    cases h
    exact k scS5 _ (by omega)
  · rw [if_neg c7] at h
    refine r_iconst (v := 0) dL_law_2704 rfl ?_
    cases h
/-- one call of the script, on both sides: none where they part -/
def fStep (N : Nat) (xs : Nat → Int32) (b : Nat) (S : PS) : Option PS :=
  if xs b &&& 63 = 0 then fC0 N xs b S else
  if xs b &&& 63 = 1 then fC1 N xs b S else
  if xs b &&& 63 = 2 then fC2 N xs b S else
  if xs b &&& 63 = 3 then fC3 N xs b S else
  if xs b &&& 63 = 4 then fC4 N xs b S else
  if xs b &&& 63 = 5 then fC5 N xs b S else
  if xs b &&& 63 = 6 then fC6 N xs b S else
  if xs b &&& 63 = 7 then fC7 N xs b S else
  if xs b &&& 63 = 8 then fC8 N xs b S else
  if xs b &&& 63 = 9 then fC9 N xs b S else
  if xs b &&& 63 = 10 then fC10 N xs b S else
  if xs b &&& 63 = 11 then fC11 N xs b S else
  if xs b &&& 63 = 12 then fC12 N xs b S else
  if xs b &&& 63 = 13 then fC13 N xs b S else
  if xs b &&& 63 = 14 then fC14 N xs b S else
  if xs b &&& 63 = 15 then fC15 N xs b S else
  if xs b &&& 63 = 16 then fC16 N xs b S else
  if xs b &&& 63 = 17 then fC17 N xs b S else
  if xs b &&& 63 = 18 then fC18 N xs b S else
  if xs b &&& 63 = 19 then fC19 N xs b S else
  if xs b &&& 63 = 20 then fC20 N xs b S else
  if xs b &&& 63 = 21 then fC21 N xs b S else
  if xs b &&& 63 = 22 then fC22 N xs b S else
  if xs b &&& 63 = 23 then fC23 N xs b S else
  if xs b &&& 63 = 24 then fC24 N xs b S else
  if xs b &&& 63 = 25 then fC25 N xs b S else
  if xs b &&& 63 = 26 then fC26 N xs b S else
  if xs b &&& 63 = 27 then fC27 N xs b S else
  if xs b &&& 63 = 28 then fC28 N xs b S else
  if xs b &&& 63 = 29 then fC29 N xs b S else
  if xs b &&& 63 = 30 then fC30 N xs b S else
  if xs b &&& 63 = 31 then fC31 N xs b S else
  if xs b &&& 63 = 32 then fC32 N xs b S else
  if xs b &&& 63 = 33 then fC33 N xs b S else
  if xs b &&& 63 = 34 then fC34 N xs b S else
  if xs b &&& 63 = 35 then fC35 N xs b S else
  if xs b &&& 63 = 36 then fC36 N xs b S else
  if xs b &&& 63 = 37 then fC37 N xs b S else
  if xs b &&& 63 = 38 then fC38 N xs b S else
  if xs b &&& 63 = 39 then fC39 N xs b S else
  if xs b &&& 63 = 40 then fC40 N xs b S else
  if xs b &&& 63 = 41 then fC41 N xs b S else
  some S
set_option maxHeartbeats 4000000 in
set_option maxRecDepth 100000 in
theorem okStep (N : Nat) (xs : Nat → Int32) (len b : Nat) (i : Int32) (Q : OQ) (M u : Nat) (S T : PS) (h : fStep N xs b S = some T) (scS : SC xs len S) (hb : IB i len b) (hM : u + 8 ≤ M) (k : SC xs len T → ∀ u9, u9 ≤ u + 8 → WP [] mL_law 100 M Q 2706 [some (.ref 1000), some (.ref 0), some (.ref 80), some (.ref 111), some (.int i), none, none] [] T u9) : WP [] mL_law 100 M Q 40 [some (.ref 1000), some (.ref 0), some (.ref 80), some (.ref 111), some (.int i), none, none] [.int (xs b &&& 63)] S u := by
  unfold fStep at h
  by_cases c0 : xs b &&& 63 = 0
  · rw [if_pos c0] at h
    exact r_tableIn (tgt := 224) dL_law_40 (by rw [c0]; decide) (by rw [c0]; decide) (by rw [c0]; rfl) (by decide) (okC0 N xs len b i Q M u S T h scS hb hM k)
  rw [if_neg c0] at h
  by_cases c1 : xs b &&& 63 = 1
  · rw [if_pos c1] at h
    exact r_tableIn (tgt := 297) dL_law_40 (by rw [c1]; decide) (by rw [c1]; decide) (by rw [c1]; rfl) (by decide) (okC1 N xs len b i Q M u S T h scS hb hM k)
  rw [if_neg c1] at h
  by_cases c2 : xs b &&& 63 = 2
  · rw [if_pos c2] at h
    exact r_tableIn (tgt := 353) dL_law_40 (by rw [c2]; decide) (by rw [c2]; decide) (by rw [c2]; rfl) (by decide) (okC2 N xs len b i Q M u S T h scS hb hM k)
  rw [if_neg c2] at h
  by_cases c3 : xs b &&& 63 = 3
  · rw [if_pos c3] at h
    exact r_tableIn (tgt := 366) dL_law_40 (by rw [c3]; decide) (by rw [c3]; decide) (by rw [c3]; rfl) (by decide) (okC3 N xs len b i Q M u S T h scS hb hM k)
  rw [if_neg c3] at h
  by_cases c4 : xs b &&& 63 = 4
  · rw [if_pos c4] at h
    exact r_tableIn (tgt := 422) dL_law_40 (by rw [c4]; decide) (by rw [c4]; decide) (by rw [c4]; rfl) (by decide) (okC4 N xs len b i Q M u S T h scS hb hM k)
  rw [if_neg c4] at h
  by_cases c5 : xs b &&& 63 = 5
  · rw [if_pos c5] at h
    exact r_tableIn (tgt := 490) dL_law_40 (by rw [c5]; decide) (by rw [c5]; decide) (by rw [c5]; rfl) (by decide) (okC5 N xs len b i Q M u S T h scS hb hM k)
  rw [if_neg c5] at h
  by_cases c6 : xs b &&& 63 = 6
  · rw [if_pos c6] at h
    exact r_tableIn (tgt := 515) dL_law_40 (by rw [c6]; decide) (by rw [c6]; decide) (by rw [c6]; rfl) (by decide) (okC6 N xs len b i Q M u S T h scS hb hM k)
  rw [if_neg c6] at h
  by_cases c7 : xs b &&& 63 = 7
  · rw [if_pos c7] at h
    exact r_tableIn (tgt := 590) dL_law_40 (by rw [c7]; decide) (by rw [c7]; decide) (by rw [c7]; rfl) (by decide) (okC7 N xs len b i Q M u S T h scS hb hM k)
  rw [if_neg c7] at h
  by_cases c8 : xs b &&& 63 = 8
  · rw [if_pos c8] at h
    exact r_tableIn (tgt := 681) dL_law_40 (by rw [c8]; decide) (by rw [c8]; decide) (by rw [c8]; rfl) (by decide) (okC8 N xs len b i Q M u S T h scS hb hM k)
  rw [if_neg c8] at h
  by_cases c9 : xs b &&& 63 = 9
  · rw [if_pos c9] at h
    exact r_tableIn (tgt := 749) dL_law_40 (by rw [c9]; decide) (by rw [c9]; decide) (by rw [c9]; rfl) (by decide) (okC9 N xs len b i Q M u S T h scS hb hM k)
  rw [if_neg c9] at h
  by_cases c10 : xs b &&& 63 = 10
  · rw [if_pos c10] at h
    exact r_tableIn (tgt := 817) dL_law_40 (by rw [c10]; decide) (by rw [c10]; decide) (by rw [c10]; rfl) (by decide) (okC10 N xs len b i Q M u S T h scS hb hM k)
  rw [if_neg c10] at h
  by_cases c11 : xs b &&& 63 = 11
  · rw [if_pos c11] at h
    exact r_tableIn (tgt := 830) dL_law_40 (by rw [c11]; decide) (by rw [c11]; decide) (by rw [c11]; rfl) (by decide) (okC11 N xs len b i Q M u S T h scS hb hM k)
  rw [if_neg c11] at h
  by_cases c12 : xs b &&& 63 = 12
  · rw [if_pos c12] at h
    exact r_tableIn (tgt := 910) dL_law_40 (by rw [c12]; decide) (by rw [c12]; decide) (by rw [c12]; rfl) (by decide) (okC12 N xs len b i Q M u S T h scS hb hM k)
  rw [if_neg c12] at h
  by_cases c13 : xs b &&& 63 = 13
  · rw [if_pos c13] at h
    exact r_tableIn (tgt := 966) dL_law_40 (by rw [c13]; decide) (by rw [c13]; decide) (by rw [c13]; rfl) (by decide) (okC13 N xs len b i Q M u S T h scS hb hM k)
  rw [if_neg c13] at h
  by_cases c14 : xs b &&& 63 = 14
  · rw [if_pos c14] at h
    exact r_tableIn (tgt := 1022) dL_law_40 (by rw [c14]; decide) (by rw [c14]; decide) (by rw [c14]; rfl) (by decide) (okC14 N xs len b i Q M u S T h scS hb hM k)
  rw [if_neg c14] at h
  by_cases c15 : xs b &&& 63 = 15
  · rw [if_pos c15] at h
    exact r_tableIn (tgt := 1078) dL_law_40 (by rw [c15]; decide) (by rw [c15]; decide) (by rw [c15]; rfl) (by decide) (okC15 N xs len b i Q M u S T h scS hb hM k)
  rw [if_neg c15] at h
  by_cases c16 : xs b &&& 63 = 16
  · rw [if_pos c16] at h
    exact r_tableIn (tgt := 1146) dL_law_40 (by rw [c16]; decide) (by rw [c16]; decide) (by rw [c16]; rfl) (by decide) (okC16 N xs len b i Q M u S T h scS hb hM k)
  rw [if_neg c16] at h
  by_cases c17 : xs b &&& 63 = 17
  · rw [if_pos c17] at h
    exact r_tableIn (tgt := 1214) dL_law_40 (by rw [c17]; decide) (by rw [c17]; decide) (by rw [c17]; rfl) (by decide) (okC17 N xs len b i Q M u S T h scS hb hM k)
  rw [if_neg c17] at h
  by_cases c18 : xs b &&& 63 = 18
  · rw [if_pos c18] at h
    exact r_tableIn (tgt := 1282) dL_law_40 (by rw [c18]; decide) (by rw [c18]; decide) (by rw [c18]; rfl) (by decide) (okC18 N xs len b i Q M u S T h scS hb hM k)
  rw [if_neg c18] at h
  by_cases c19 : xs b &&& 63 = 19
  · rw [if_pos c19] at h
    exact r_tableIn (tgt := 1338) dL_law_40 (by rw [c19]; decide) (by rw [c19]; decide) (by rw [c19]; rfl) (by decide) (okC19 N xs len b i Q M u S T h scS hb hM k)
  rw [if_neg c19] at h
  by_cases c20 : xs b &&& 63 = 20
  · rw [if_pos c20] at h
    exact r_tableIn (tgt := 1406) dL_law_40 (by rw [c20]; decide) (by rw [c20]; decide) (by rw [c20]; rfl) (by decide) (okC20 N xs len b i Q M u S T h scS hb hM k)
  rw [if_neg c20] at h
  by_cases c21 : xs b &&& 63 = 21
  · rw [if_pos c21] at h
    exact r_tableIn (tgt := 1474) dL_law_40 (by rw [c21]; decide) (by rw [c21]; decide) (by rw [c21]; rfl) (by decide) (okC21 N xs len b i Q M u S T h scS hb hM k)
  rw [if_neg c21] at h
  by_cases c22 : xs b &&& 63 = 22
  · rw [if_pos c22] at h
    exact r_tableIn (tgt := 1566) dL_law_40 (by rw [c22]; decide) (by rw [c22]; decide) (by rw [c22]; rfl) (by decide) (okC22 N xs len b i Q M u S T h scS hb hM k)
  rw [if_neg c22] at h
  by_cases c23 : xs b &&& 63 = 23
  · rw [if_pos c23] at h
    exact r_tableIn (tgt := 1634) dL_law_40 (by rw [c23]; decide) (by rw [c23]; decide) (by rw [c23]; rfl) (by decide) (okC23 N xs len b i Q M u S T h scS hb hM k)
  rw [if_neg c23] at h
  by_cases c24 : xs b &&& 63 = 24
  · rw [if_pos c24] at h
    exact r_tableIn (tgt := 1730) dL_law_40 (by rw [c24]; decide) (by rw [c24]; decide) (by rw [c24]; rfl) (by decide) (okC24 N xs len b i Q M u S T h scS hb hM k)
  rw [if_neg c24] at h
  by_cases c25 : xs b &&& 63 = 25
  · rw [if_pos c25] at h
    exact r_tableIn (tgt := 1741) dL_law_40 (by rw [c25]; decide) (by rw [c25]; decide) (by rw [c25]; rfl) (by decide) (okC25 N xs len b i Q M u S T h scS hb hM k)
  rw [if_neg c25] at h
  by_cases c26 : xs b &&& 63 = 26
  · rw [if_pos c26] at h
    exact r_tableIn (tgt := 1797) dL_law_40 (by rw [c26]; decide) (by rw [c26]; decide) (by rw [c26]; rfl) (by decide) (okC26 N xs len b i Q M u S T h scS hb hM k)
  rw [if_neg c26] at h
  by_cases c27 : xs b &&& 63 = 27
  · rw [if_pos c27] at h
    exact r_tableIn (tgt := 1853) dL_law_40 (by rw [c27]; decide) (by rw [c27]; decide) (by rw [c27]; rfl) (by decide) (okC27 N xs len b i Q M u S T h scS hb hM k)
  rw [if_neg c27] at h
  by_cases c28 : xs b &&& 63 = 28
  · rw [if_pos c28] at h
    exact r_tableIn (tgt := 1933) dL_law_40 (by rw [c28]; decide) (by rw [c28]; decide) (by rw [c28]; rfl) (by decide) (okC28 N xs len b i Q M u S T h scS hb hM k)
  rw [if_neg c28] at h
  by_cases c29 : xs b &&& 63 = 29
  · rw [if_pos c29] at h
    exact r_tableIn (tgt := 2013) dL_law_40 (by rw [c29]; decide) (by rw [c29]; decide) (by rw [c29]; rfl) (by decide) (okC29 N xs len b i Q M u S T h scS hb hM k)
  rw [if_neg c29] at h
  by_cases c30 : xs b &&& 63 = 30
  · rw [if_pos c30] at h
    exact r_tableIn (tgt := 2093) dL_law_40 (by rw [c30]; decide) (by rw [c30]; decide) (by rw [c30]; rfl) (by decide) (okC30 N xs len b i Q M u S T h scS hb hM k)
  rw [if_neg c30] at h
  by_cases c31 : xs b &&& 63 = 31
  · rw [if_pos c31] at h
    exact r_tableIn (tgt := 2161) dL_law_40 (by rw [c31]; decide) (by rw [c31]; decide) (by rw [c31]; rfl) (by decide) (okC31 N xs len b i Q M u S T h scS hb hM k)
  rw [if_neg c31] at h
  by_cases c32 : xs b &&& 63 = 32
  · rw [if_pos c32] at h
    exact r_tableIn (tgt := 2217) dL_law_40 (by rw [c32]; decide) (by rw [c32]; decide) (by rw [c32]; rfl) (by decide) (okC32 N xs len b i Q M u S T h scS hb hM k)
  rw [if_neg c32] at h
  by_cases c33 : xs b &&& 63 = 33
  · rw [if_pos c33] at h
    exact r_tableIn (tgt := 2230) dL_law_40 (by rw [c33]; decide) (by rw [c33]; decide) (by rw [c33]; rfl) (by decide) (okC33 N xs len b i Q M u S T h scS hb hM k)
  rw [if_neg c33] at h
  by_cases c34 : xs b &&& 63 = 34
  · rw [if_pos c34] at h
    exact r_tableIn (tgt := 2286) dL_law_40 (by rw [c34]; decide) (by rw [c34]; decide) (by rw [c34]; rfl) (by decide) (okC34 N xs len b i Q M u S T h scS hb hM k)
  rw [if_neg c34] at h
  by_cases c35 : xs b &&& 63 = 35
  · rw [if_pos c35] at h
    exact r_tableIn (tgt := 2354) dL_law_40 (by rw [c35]; decide) (by rw [c35]; decide) (by rw [c35]; rfl) (by decide) (okC35 N xs len b i Q M u S T h scS hb hM k)
  rw [if_neg c35] at h
  by_cases c36 : xs b &&& 63 = 36
  · rw [if_pos c36] at h
    exact r_tableIn (tgt := 2422) dL_law_40 (by rw [c36]; decide) (by rw [c36]; decide) (by rw [c36]; rfl) (by decide) (okC36 N xs len b i Q M u S T h scS hb hM k)
  rw [if_neg c36] at h
  by_cases c37 : xs b &&& 63 = 37
  · rw [if_pos c37] at h
    exact r_tableIn (tgt := 2490) dL_law_40 (by rw [c37]; decide) (by rw [c37]; decide) (by rw [c37]; rfl) (by decide) (okC37 N xs len b i Q M u S T h scS hb hM k)
  rw [if_neg c37] at h
  by_cases c38 : xs b &&& 63 = 38
  · rw [if_pos c38] at h
    exact r_tableIn (tgt := 2558) dL_law_40 (by rw [c38]; decide) (by rw [c38]; decide) (by rw [c38]; rfl) (by decide) (okC38 N xs len b i Q M u S T h scS hb hM k)
  rw [if_neg c38] at h
  by_cases c39 : xs b &&& 63 = 39
  · rw [if_pos c39] at h
    exact r_tableIn (tgt := 2614) dL_law_40 (by rw [c39]; decide) (by rw [c39]; decide) (by rw [c39]; rfl) (by decide) (okC39 N xs len b i Q M u S T h scS hb hM k)
  rw [if_neg c39] at h
  by_cases c40 : xs b &&& 63 = 40
  · rw [if_pos c40] at h
    exact r_tableIn (tgt := 2682) dL_law_40 (by rw [c40]; decide) (by rw [c40]; decide) (by rw [c40]; rfl) (by decide) (okC40 N xs len b i Q M u S T h scS hb hM k)
  rw [if_neg c40] at h
  by_cases c41 : xs b &&& 63 = 41
  · rw [if_pos c41] at h
    exact r_tableIn (tgt := 2693) dL_law_40 (by rw [c41]; decide) (by rw [c41]; decide) (by rw [c41]; rfl) (by decide) (okC41 N xs len b i Q M u S T h scS hb hM k)
  rw [if_neg c41] at h
  cases h
  have n0 := lv_neT c0 (a := 0) rfl
  have n1 := lv_neT c1 (a := 1) rfl
  have n2 := lv_neT c2 (a := 2) rfl
  have n3 := lv_neT c3 (a := 3) rfl
  have n4 := lv_neT c4 (a := 4) rfl
  have n5 := lv_neT c5 (a := 5) rfl
  have n6 := lv_neT c6 (a := 6) rfl
  have n7 := lv_neT c7 (a := 7) rfl
  have n8 := lv_neT c8 (a := 8) rfl
  have n9 := lv_neT c9 (a := 9) rfl
  have n10 := lv_neT c10 (a := 10) rfl
  have n11 := lv_neT c11 (a := 11) rfl
  have n12 := lv_neT c12 (a := 12) rfl
  have n13 := lv_neT c13 (a := 13) rfl
  have n14 := lv_neT c14 (a := 14) rfl
  have n15 := lv_neT c15 (a := 15) rfl
  have n16 := lv_neT c16 (a := 16) rfl
  have n17 := lv_neT c17 (a := 17) rfl
  have n18 := lv_neT c18 (a := 18) rfl
  have n19 := lv_neT c19 (a := 19) rfl
  have n20 := lv_neT c20 (a := 20) rfl
  have n21 := lv_neT c21 (a := 21) rfl
  have n22 := lv_neT c22 (a := 22) rfl
  have n23 := lv_neT c23 (a := 23) rfl
  have n24 := lv_neT c24 (a := 24) rfl
  have n25 := lv_neT c25 (a := 25) rfl
  have n26 := lv_neT c26 (a := 26) rfl
  have n27 := lv_neT c27 (a := 27) rfl
  have n28 := lv_neT c28 (a := 28) rfl
  have n29 := lv_neT c29 (a := 29) rfl
  have n30 := lv_neT c30 (a := 30) rfl
  have n31 := lv_neT c31 (a := 31) rfl
  have n32 := lv_neT c32 (a := 32) rfl
  have n33 := lv_neT c33 (a := 33) rfl
  have n34 := lv_neT c34 (a := 34) rfl
  have n35 := lv_neT c35 (a := 35) rfl
  have n36 := lv_neT c36 (a := 36) rfl
  have n37 := lv_neT c37 (a := 37) rfl
  have n38 := lv_neT c38 (a := 38) rfl
  have n39 := lv_neT c39 (a := 39) rfl
  have n40 := lv_neT c40 (a := 40) rfl
  have n41 := lv_neT c41 (a := 41) rfl
  exact r_tableOut (tgt := 2706) dL_law_40 (by omega) (by decide) (k scS _ (by omega))
theorem len6 {len : Nat} (hl : len ≤ 384) : (Int32.ofNat len - 6).toInt = (len : Int) - 6 := by
  rw [Int32.toInt_sub, show (Int32.ofNat len).toInt = (len : Int) from nI_toInt (by omega)]
  rw [show (6 : Int32).toInt = 6 from rfl, Int.bmod_eq_of_le (by omega) (by omega)]
theorem lt6 {t len : Nat} (h : len < 6 * (t + 0 + 1)) (hl : len ≤ 384) (h9 : 6 * t ≤ len) : Int32.ofNat len - 6 < nI (6 * t) := by
  rw [Int32.lt_iff_toInt_lt, len6 hl, nI_toInt (by omega)]
  omega
theorem nlt6 {t len : Nat} (h : 6 * t + 6 ≤ len) (hl : len ≤ 384) : ¬ Int32.ofNat len - 6 < nI (6 * t) := by
  rw [Int32.lt_iff_toInt_lt, len6 hl, nI_toInt (by omega)]
  omega
def fLaw (N : Nat) (xs : Nat → Int32) : Nat → Nat → PS → Option PS
  | 0, _, S => some S
  | n + 1, t, S => bV (fStep N xs (6 * t) S) fun T => fLaw N xs n (t + 1) T
def qLaw : OQ := fun o _ => o = .inl (some (.int 1))
theorem nI_addQ {a b : Nat} (h : a + b < 2 ^ 31) : nI a + nI b = nI (a + b) := by
  apply Int32.toInt_inj.mp
  rw [Int32.toInt_add, nI_toInt (by omega), nI_toInt (by omega), nI_toInt (by omega)]
  rw [Int.bmod_eq_of_le (by omega) (by omega)]
  omega
theorem IB_of {t len : Nat} (h : 6 * t + 6 ≤ len) (hl : len ≤ 384) : IB (nI (6 * t)) len (6 * t) := by
  have key : ∀ c : Nat, c < 6 → IX (nI (6 * t) + nI c) len (6 * t + c) := fun c hc => by
    rw [nI_addQ (by omega)]
    exact ⟨nI_toInt (by omega), by omega⟩
  exact ⟨⟨nI_toInt (by omega), by omega⟩, key 1 (by decide), key 2 (by decide), key 3 (by decide), key 4 (by decide), key 5 (by decide)⟩
set_option maxHeartbeats 4000000 in
theorem okLaw (N : Nat) (xs : Nat → Int32) (len M : Nat) (hl : len ≤ 384) : ∀ (n t : Nat) (S T : PS) (u : Nat), 6 * (t + n) ≤ len → len < 6 * (t + n + 1) → fLaw N xs n t S = some T → SC xs len S → u + 8 * n ≤ M → WP [] mL_law 100 M qLaw 23 [some (.ref 1000), some (.ref 0), some (.ref 80), some (.ref 111), some (.int (nI (6 * t))), none, none] [] S u := by
  intro n
  induction n with
  | zero =>
    intro t S T u h1 h2 h sc hM
    refine r_iload (x := nI (6 * t)) dL_law_23 rfl ?_
    refine r_aload_n (x := 1000) dL_law_25 rfl ?_
    refine r_sle dL_law_26 sc rfl ?_
    refine r_bipush (v := 6) dL_law_27 rfl ?_
    refine r_isub dL_law_29 ?_
    refine r_icmp_gt (tgt := 2712) dL_law_30 (by decide) (fun c => ?_) (fun c => ?_)
    · refine r_iconst (v := 1) dL_law_2712 rfl ?_
      exact r_zreturn dL_law_2713 rfl rfl (by omega) rfl
    · exact (c (lt6 h2 hl (by omega))).elim
  | succ n ih =>
    intro t S T u h1 h2 h sc hM
    rw [fLaw] at h
    obtain ⟨S1, h3, h⟩ := bV_e h
    refine r_iload (x := nI (6 * t)) dL_law_23 rfl ?_
    refine r_aload_n (x := 1000) dL_law_25 rfl ?_
    refine r_sle dL_law_26 sc rfl ?_
    refine r_bipush (v := 6) dL_law_27 rfl ?_
    refine r_isub dL_law_29 ?_
    refine r_icmp_gt (tgt := 2712) dL_law_30 (by decide) (fun c => ?_) (fun c => ?_)
    · exact (nlt6 (by omega) hl c).elim
    · refine r_aload_n (x := 1000) dL_law_33 rfl ?_
      refine r_iload (x := nI (6 * t)) dL_law_34 rfl ?_
      refine r_sld (k9 := 6 * t) dL_law_36 sc (IB_of (by omega) hl).1 ?_
      refine r_bipush (v := 63) dL_law_37 rfl ?_
      refine r_iand dL_law_39 ?_
      refine okStep N xs len (6 * t) _ qLaw M u S S1 h3 sc (IB_of (by omega) hl) (by omega) (fun sc1 u9 hu9 => ?_)
      refine r_iinc (x := nI (6 * t)) (v := nI (6 * (t + 1))) (L' := [some (.ref 1000), some (.ref 0), some (.ref 80), some (.ref 111), some (.int (nI (6 * (t + 1)))), none, none]) dL_law_2706 rfl ((nI_addQ (b := 6) (by omega)).trans (by rw [Nat.mul_add])) (Nat.le_of_ble_eq_true rfl) rfl rfl ?_
      refine r_goto (tgt := 23) dL_law_2709 (by decide) ?_
      exact ih (t + 1) S1 T u9 (by omega) (by omega) h sc1 (by omega)
