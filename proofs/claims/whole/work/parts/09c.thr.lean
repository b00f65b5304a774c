/-! ===== throws of the class DripCups, and calls that may throw ===== -/
abbrev nIAE : String := "java/lang/IllegalArgumentException"
abbrev nNSE : String := "java/util/NoSuchElementException"
def thrB : List Cond := [.castable nIAE nIAE, .castable nNSE nNSE, .declares ⟨"java/lang/RuntimeException", "<init>", "(Ljava/lang/String;)V"⟩, .declares ⟨"java/lang/Exception", "<init>", "(Ljava/lang/String;)V"⟩, .declares ⟨"java/lang/Throwable", "<init>", "(Ljava/lang/String;)V"⟩]
theorem atI_good : ∀ w ∈ (vx_atS "DripCups" 263 nIAE ["java/lang/RuntimeException", "java/lang/Exception"]).filter goodWord, w ∈ lw_tbl := by decide +kernel
theorem atI_rest : ∀ w ∈ (vx_atS "DripCups" 263 nIAE ["java/lang/RuntimeException", "java/lang/Exception"]).filter (fun w => !goodWord w), w ∈ thrB := by decide +kernel
theorem atI_ot : ∀ w ∈ Cond.classLink "DripCups" 259 nIAE :: Cond.initialized nIAE :: vx_atS "DripCups" 263 nIAE ["java/lang/RuntimeException", "java/lang/Exception"], vx_ot w = true := by decide +kernel
theorem atN_good : ∀ w ∈ (nz_at "DripCups" 356).filter goodWord, w ∈ lw_tbl := by decide +kernel
theorem atN_rest : ∀ w ∈ (nz_at "DripCups" 356).filter (fun w => !goodWord w), w ∈ thrB := by decide +kernel
theorem atN_ot : ∀ w ∈ Cond.classLink "DripCups" 352 nzN :: Cond.initialized nzN :: nz_at "DripCups" 356, vx_ot w = true := by decide +kernel
theorem W0_of {w : Cond} (h : w ∈ lw_tbl) (hg : goodWord w = true) : w ∈ W0 := List.mem_filter.mpr ⟨h, hg⟩
theorem thrB_hold {G : Geo} {s : State} {H : Heap} {args : Array Value} (h : GX G s H) : ∀ w ∈ thrB, w.before args s = true := by
  intro w hw
  simp only [thrB, List.mem_cons, List.not_mem_nil, or_false] at hw
  rcases hw with rfl | rfl | rfl | rfl | rfl
  · exact va_Nw.use rfl (h.2.2.1 (nIAE, nIAE) (by decide))
  · exact va_Nw.use rfl (h.2.2.1 (nNSE, nNSE) (by decide))
  · exact va_Nw.use rfl (h.2.1 _ (by decide))
  · exact va_Nw.use rfl (h.2.1 _ (by decide))
  · exact va_Nw.use rfl (h.2.1 _ (by decide))
section TR
variable {j : MT} {d M pc u : Nat} {Q : OQ} {L : List (Option Value)} {st : List Value} {S : PS}
theorem mX_new {G : Geo} {s t : State} {H : Heap} {locs : List Loc} {E : String} (hP : PW G S H) (hS : va_S (gA G) s.heap H locs) (hq : Q (.inr E) S) (hz : H.size ≤ t.heap.size) (hk : ∀ q : Nat, q < H.size → t.heap[q]? = H[q]?) : mX G Q E s t := by
  refine ⟨⟨S, hq, va_P.kept hP.1 (fun k q h9 => hk _ (hP.1 k q h9).lt), hP.2⟩, Nat.le_trans hS.1 hz, fun q h1 h2 => ?_⟩
  rw [hk q (Nat.lt_of_lt_of_le h1 hS.1)]
  exact hS.2.1 q h1 h2
theorem r_thrI {is : Nat} {text : String} (hj : j.1.cls = "DripCups") (d0 : decode j.2.1 pc = .ok (.new 259, 3)) (d3 : decode j.2.1 (pc + 3) = .ok (.dup, 1)) (d4 : decode j.2.1 (pc + 4) = .ok (.ldc_w is, 3)) (d7 : decode j.2.1 (pc + 7) = .ok (.invokespecial 263, 3)) (d10 : decode j.2.1 (pc + 10) = .ok (.athrow, 1))
    (ht : ("DripCups", is, text) ∈ thrW) (hd6 : 6 ≤ d) (hM : u + 1 ≤ M) (h8 : (st.map fun v => v.category).sum ≤ 8) (hq : Q (.inr nIAE) S) : WP [] j d M Q pc L st S u := by
  intro G l p e s m args below meth c C H locs ls hP hS hl
  obtain ⟨hx, hb, hml, hr, hlk, hown, hts, hG, hst9, htab⟩ := id C
  rw [hj] at hown
  obtain ⟨sa, hstr⟩ := hG.2.2.2.2.2.2.2.2.2.1 _ ht
  refine vx_throwSW (A := gA G) (names := ["java/lang/RuntimeException", "java/lang/Exception"]) hx hb hst9 hown (by decide) (by decide) (hts _ (mt3 (List.mem_of_getElem? (i := 85) rfl) rfl)) (hts _ (mt1 (List.mem_of_getElem? (i := 18) rfl) rfl)) hstr (vx_hat (fun w hw => hts w (W0_of (atI_good w hw) (List.mem_filter.mp hw).2)) atI_rest (thrB_hold hG.2.2.2.2.2.2)) atI_ot hG.2.2.2.1 hG.2.2.2.2.1 hS (hl.1.trans hml.symm) d0 d3 d4 d7 d10 (fun x hx => by rw [htab, tableOf_nil] at hx; cases hx) ?_ ?_ ?_ ?_ hlk (fun t hal hz hk => mX_new hP hS hq hz hk) hS.2.2 hM ?_
  · show 2 + 3 < d; omega
  · rw [List.map_map]
    have : ((fun v => v.category) ∘ cv G) = (fun v : Value => v.category) := by funext v; exact cv_cat
    rw [this]
    show _ + (13 * (2 + 1) + 43) ≤ 64 * d
    omega
  · exact hM
  · show 6 * u + 6 ≤ 6 * M; omega
  · show 6 * u + 6 ≤ 6 * M; omega
theorem r_thrN {is : Nat} {text : String} (hj : j.1.cls = "DripCups") (d0 : decode j.2.1 pc = .ok (.new 352, 3)) (d3 : decode j.2.1 (pc + 3) = .ok (.dup, 1)) (d4 : decode j.2.1 (pc + 4) = .ok (.ldc_w is, 3)) (d7 : decode j.2.1 (pc + 7) = .ok (.invokespecial 356, 3)) (d10 : decode j.2.1 (pc + 10) = .ok (.athrow, 1))
    (ht : ("DripCups", is, text) ∈ thrW) (hd6 : 6 ≤ d) (hM : u + 1 ≤ M) (h8 : (st.map fun v => v.category).sum ≤ 8) (hq : Q (.inr nNSE) S) : WP [] j d M Q pc L st S u := by
  intro G l p e s m args below meth c C H locs ls hP hS hl
  obtain ⟨hx, hb, hml, hr, hlk, hown, hts, hG, hst9, htab⟩ := id C
  rw [hj] at hown
  obtain ⟨sa, hstr⟩ := hG.2.2.2.2.2.2.2.2.2.1 _ ht
  refine nz_throwSW (A := gA G) hx hb hst9 hown (hts _ (mt4 (List.mem_of_getElem? (i := 108) rfl) rfl)) (hts _ (mt1 (List.mem_of_getElem? (i := 25) rfl) rfl)) hstr (vx_hat (fun w hw => hts w (W0_of (atN_good w hw) (List.mem_filter.mp hw).2)) atN_rest (thrB_hold hG.2.2.2.2.2.2)) atN_ot hG.2.2.2.1 hG.2.2.2.2.1 hS (hl.1.trans hml.symm) d0 d3 d4 d7 d10 (fun x hx => by rw [htab, tableOf_nil] at hx; cases hx) ?_ ?_ ?_ ?_ hlk (fun t hal hz hk => mX_new hP hS hq hz hk) hS.2.2 hM ?_
  · show 2 + 3 < d; omega
  · rw [List.map_map]
    have : ((fun v => v.category) ∘ cv G) = (fun v : Value => v.category) := by funext v; exact cv_cat
    rw [this]
    show _ + (13 * (2 + 1) + 43) ≤ 64 * d
    omega
  · exact hM
  · show 6 * u + 6 ≤ 6 * M; omega
  · show 6 * u + 6 ≤ 6 * M; omega
end TR
/-- an int, or what was thrown -/
def qE (r : Int32 ⊕ String) (T : PS) : OQ := fun o S' => (match r with
  | .inl x => o = .inl (some (.int x))
  | .inr E => o = .inr E) ∧ S' = T
def qU (r : Unit ⊕ String) (T : PS) : OQ := fun o S' => (match r with
  | .inl _ => o = .inl none
  | .inr E => o = .inr E) ∧ S' = T
def bU {β : Type} (m : Option ((Unit ⊕ String) × PS)) (f : PS → Option ((β ⊕ String) × PS)) : Option ((β ⊕ String) × PS) := match m with
  | some (.inl _, S) => f S
  | some (.inr E, S) => some (.inr E, S)
  | none => none
theorem bU_e {β : Type} {m : Option ((Unit ⊕ String) × PS)} {f : PS → Option ((β ⊕ String) × PS)} {o : (β ⊕ String) × PS} (h : bU m f = some o) : ∃ r T, m = some (r, T) ∧ (r = .inl () → f T = some o) ∧ ∀ E, r = .inr E → o = (.inr E, T) := by
  cases m with
  | none => cases h
  | some q =>
    obtain ⟨r, T⟩ := q
    refine ⟨r, T, rfl, ?_, ?_⟩
    · intro hr; subst hr; exact h
    · intro E hr; subst hr; exact (Option.some.inj h).symm
section TC
variable {j : MT} {d M pc u : Nat} {Q : OQ} {L : List (Option Value)} {st : List Value} {S : PS}
theorem r_cVU {i o c9 : Nat} {y : MT} {As rest : List Value} {dy My n : Nat} {q9 : vw_C} {r : Unit ⊕ String} {T : PS} (hd : decode j.2.1 pc = .ok (.invokevirtual i, 3)) (hw : Cond.methodLink j.1.cls i y.1 ∈ W0) (hc : CLV y n) (hn : As.length = n) (ho : obj o c9) (hq9 : vwCl[c9]? = some q9) (hcl : q9.1 = y.1.cls) (hct : CT y dy My (.ref o :: As) S (qU r T)) (hdp : dy + 1 ≤ d) (hM : u + My ≤ M) (hst : st = As.reverse ++ .ref o :: rest) (h8 : (rest.map fun v => v.category).sum ≤ 8)
    (k : r = .inl () → WP [] j d M Q (pc + 3) L rest T (u + My)) (kx : ∀ E, r = .inr E → Q (.inr E) T) : WP [] j d M Q pc L st S u :=
  r_callV hd hw hc hn ho.1 hq9 hcl ho.2 hct hdp hM hst h8 (fun v S' h => by
    obtain ⟨h1, h2⟩ := h
    subst h2
    cases r with
    | inl x => cases h1; exact k rfl
    | inr E => cases h1) (fun E S' h => by
    obtain ⟨h1, h2⟩ := h
    subst h2
    cases r with
    | inl x => cases h1
    | inr E2 => cases h1; exact kx _ rfl)
theorem r_cSU {i : Nat} {y : MT} {As rest : List Value} {dy My n : Nat} {r : Unit ⊕ String} {T : PS} (hd : decode j.2.1 pc = .ok (.invokestatic i, 3)) (hw : Cond.methodLink j.1.cls i y.1 ∈ W0) (hc : CLS y n) (hn : As.length = n) (hct : CT y dy My As S (qU r T)) (hdp : dy + 1 ≤ d) (hM : u + My ≤ M) (hst : st = As.reverse ++ rest) (h8 : (rest.map fun v => v.category).sum ≤ 8)
    (k : r = .inl () → WP [] j d M Q (pc + 3) L rest T (u + My)) (kx : ∀ E, r = .inr E → Q (.inr E) T) : WP [] j d M Q pc L st S u :=
  r_callS hd hw hc hn hct hdp hM hst h8 (fun v S' h => by
    obtain ⟨h1, h2⟩ := h
    subst h2
    cases r with
    | inl x => cases h1; exact k rfl
    | inr E => cases h1) (fun E S' h => by
    obtain ⟨h1, h2⟩ := h
    subst h2
    cases r with
    | inl x => cases h1
    | inr E2 => cases h1; exact kx _ rfl)
end TC
