/-! ===== pure programs, and exact contracts ===== -/
def lt {α β : Type} (x : α) (f : α → β) : β := f x
def gd {α : Type} (p : Prop) [Decidable p] (x : Option α) : Option α := if p then x else none
def bI {β : Type} (m : Option (Int32 × PS)) (f : Int32 → PS → Option β) : Option β := match m with
  | some q => f q.1 q.2
  | none => none
def bJ {β : Type} (m : Option (Int64 × PS)) (f : Int64 → PS → Option β) : Option β := match m with
  | some q => f q.1 q.2
  | none => none
def bV {β : Type} (m : Option PS) (f : PS → Option β) : Option β := match m with
  | some q => f q
  | none => none
def bT {α β : Type} (m : Option α) (f : α → Option β) : Option β := match m with
  | some q => f q
  | none => none
theorem lt_e {α β : Type} {x y : α} {f : α → Option β} {r : β} (hx : y = x) (h : lt x f = some r) : f y = some r := by subst hx; exact h
theorem gd_e {α : Type} {p : Prop} [Decidable p] {x : Option α} {r : α} (h : gd p x = some r) : p ∧ x = some r := by
  unfold gd at h
  split at h
  · exact ⟨by assumption, h⟩
  · cases h
theorem bI_e {β : Type} {m : Option (Int32 × PS)} {f : Int32 → PS → Option β} {r : β} (h : bI m f = some r) : ∃ a S, m = some (a, S) ∧ f a S = some r := by
  cases m with
  | none => cases h
  | some q => exact ⟨q.1, q.2, rfl, h⟩
theorem bJ_e {β : Type} {m : Option (Int64 × PS)} {f : Int64 → PS → Option β} {r : β} (h : bJ m f = some r) : ∃ a S, m = some (a, S) ∧ f a S = some r := by
  cases m with
  | none => cases h
  | some q => exact ⟨q.1, q.2, rfl, h⟩
theorem bV_e {β : Type} {m : Option PS} {f : PS → Option β} {r : β} (h : bV m f = some r) : ∃ S, m = some S ∧ f S = some r := by
  cases m with
  | none => cases h
  | some q => exact ⟨q, rfl, h⟩
theorem bT_e {α β : Type} {m : Option α} {f : α → Option β} {r : β} (h : bT m f = some r) : ∃ q, m = some q ∧ f q = some r := by
  cases m with
  | none => cases h
  | some q => exact ⟨q, rfl, h⟩
abbrev inr (i : Int32) (n : Nat) : Prop := 0 ≤ i.toInt ∧ i.toInt < (n : Int)
abbrev ix (i : Int32) : Nat := i.toNatClampNeg
abbrev obj (o c : Nat) : Prop := ck o = (0, c) ∧ o < nC
abbrev arr (a t n : Nat) : Prop := ck a = (t, n) ∧ a < nC
abbrev b01 (x : Int32) : Prop := x = 0 ∨ x = 1
theorem inr_IX {i : Int32} {n : Nat} (h : inr i n) : IX i n (ix i) := by
  have h1 : ((ix i : Nat) : Int) = i.toInt := by
    show ((i.toInt.toNat : Nat) : Int) = i.toInt
    exact Int.toNat_of_nonneg h.1
  exact ⟨h1.symm, by have := h.2; omega⟩
theorem nar01 {x : Int32} (h : b01 x) : narrow .boolean (.int x) = .int x := by rcases h with rfl | rfl <;> rfl
def qI (r : Int32) (T : PS) : OQ := fun o S' => o = .inl (some (.int r)) ∧ S' = T
def qJ (r : Int64) (T : PS) : OQ := fun o S' => o = .inl (some (.long r)) ∧ S' = T
def qV (T : PS) : OQ := fun o S' => o = .inl none ∧ S' = T
section XR
variable {tb : List (Nat × Nat × Nat × Nat)} {j : MT} {d M pc u : Nat} {Q : OQ} {L : List (Option Value)} {st : List Value} {S : PS}
theorem r_topi {x : Int32} (k : ∀ y : Int32, y = x → WP tb j d M Q pc L (.int y :: st) S u) : WP tb j d M Q pc L (.int x :: st) S u := k x rfl
theorem r_topl {x : Int64} (k : ∀ y : Int64, y = x → WP tb j d M Q pc L (.long y :: st) S u) : WP tb j d M Q pc L (.long x :: st) S u := k x rfl
theorem r_topr {x : Nat} (k : ∀ y : Nat, y = x → WP tb j d M Q pc L (.ref y :: st) S u) : WP tb j d M Q pc L (.ref x :: st) S u := k x rfl
theorem r_topS (k : ∀ T : PS, T = S → WP tb j d M Q pc L st T u) : WP tb j d M Q pc L st S u := k S rfl
theorem pl_s {α β : Type} {x : α} {f : α → Option β} {r : β} (h : lt x f = some r) : f x = some r := h
theorem r_tope {x y : Int32} (h : x = y) (k : WP tb j d M Q pc L (.int y :: st) S u) : WP tb j d M Q pc L (.int x :: st) S u := by subst h; exact k
/-- some locals forgotten -/
def msk : List (Option Value) → List Bool → List (Option Value)
  | v :: t, b :: s => (if b then v else none) :: msk t s
  | _, _ => []
theorem msk_get : ∀ (L : List (Option Value)) (bs : List Bool) (i : Nat) (v : Value), (msk L bs)[i]? = some (some v) → L[i]? = some (some v)
  | [], bs, i, v, h => by cases bs <;> simp [msk] at h
  | a :: t, [], i, v, h => by simp [msk] at h
  | a :: t, b :: s, 0, v, h => by
    cases b
    · simp [msk] at h
    · simpa [msk] using h
  | a :: t, b :: s, i + 1, v, h => by
    have := msk_get t s i v (by simpa [msk] using h)
    simpa using this
theorem r_drop (bs : List Bool) {L' : List (Option Value)} (hL : msk L bs = L') (k : WP tb j d M Q pc L' st S u) : WP tb j d M Q pc L st S u := by
  intro G l p e s m args below meth c C H locs ls hP hS hl
  refine k G l p e s m args below meth c C H locs ls hP hS ⟨hl.1, hl.2.1, fun q hq => ?_⟩
  obtain ⟨i, v, hi, rfl⟩ := (lva_mem L' 0).mp hq
  rw [← hL] at hi
  exact hl.2.2 _ ((lva_mem L 0).mpr ⟨i, v, msk_get L bs i v hi, rfl⟩)
theorem r_cVI {i o c9 : Nat} {y : MT} {As rest : List Value} {dy n : Nat} {q9 : vw_C} {r : Int32} {T : PS} (hd : decode j.2.1 pc = .ok (.invokevirtual i, 3)) (hw : Cond.methodLink j.1.cls i y.1 ∈ W0) (hc : CLV y n) (hn : As.length = n) (ho : obj o c9) (hq9 : vwCl[c9]? = some q9) (hcl : q9.1 = y.1.cls) (hct : CT y dy 0 (.ref o :: As) S (qI r T)) (hdp : dy + 1 ≤ d) (hu : u ≤ M) (hst : st = As.reverse ++ .ref o :: rest) (h8 : (rest.map fun v => v.category).sum ≤ 8)
    (k : WP [] j d M Q (pc + 3) L (.int r :: rest) T u) : WP [] j d M Q pc L st S u :=
  r_callV hd hw hc hn ho.1 hq9 hcl ho.2 hct hdp hu hst h8 (fun v S' h => by obtain ⟨h1, h2⟩ := h; cases h1; subst h2; exact k) (fun E S' h => by cases h.1)
theorem r_cVJ {i o c9 : Nat} {y : MT} {As rest : List Value} {dy n : Nat} {q9 : vw_C} {r : Int64} {T : PS} (hd : decode j.2.1 pc = .ok (.invokevirtual i, 3)) (hw : Cond.methodLink j.1.cls i y.1 ∈ W0) (hc : CLV y n) (hn : As.length = n) (ho : obj o c9) (hq9 : vwCl[c9]? = some q9) (hcl : q9.1 = y.1.cls) (hct : CT y dy 0 (.ref o :: As) S (qJ r T)) (hdp : dy + 1 ≤ d) (hu : u ≤ M) (hst : st = As.reverse ++ .ref o :: rest) (h8 : (rest.map fun v => v.category).sum ≤ 8)
    (k : WP [] j d M Q (pc + 3) L (.long r :: rest) T u) : WP [] j d M Q pc L st S u :=
  r_callV hd hw hc hn ho.1 hq9 hcl ho.2 hct hdp hu hst h8 (fun v S' h => by obtain ⟨h1, h2⟩ := h; cases h1; subst h2; exact k) (fun E S' h => by cases h.1)
theorem r_cVV {i o c9 : Nat} {y : MT} {As rest : List Value} {dy n : Nat} {q9 : vw_C} {T : PS} (hd : decode j.2.1 pc = .ok (.invokevirtual i, 3)) (hw : Cond.methodLink j.1.cls i y.1 ∈ W0) (hc : CLV y n) (hn : As.length = n) (ho : obj o c9) (hq9 : vwCl[c9]? = some q9) (hcl : q9.1 = y.1.cls) (hct : CT y dy 0 (.ref o :: As) S (qV T)) (hdp : dy + 1 ≤ d) (hu : u ≤ M) (hst : st = As.reverse ++ .ref o :: rest) (h8 : (rest.map fun v => v.category).sum ≤ 8)
    (k : WP [] j d M Q (pc + 3) L rest T u) : WP [] j d M Q pc L st S u :=
  r_callV hd hw hc hn ho.1 hq9 hcl ho.2 hct hdp hu hst h8 (fun v S' h => by obtain ⟨h1, h2⟩ := h; cases h1; subst h2; exact k) (fun E S' h => by cases h.1)
theorem r_cSI {i : Nat} {y : MT} {As rest : List Value} {dy n : Nat} {r : Int32} {T : PS} (hd : decode j.2.1 pc = .ok (.invokestatic i, 3)) (hw : Cond.methodLink j.1.cls i y.1 ∈ W0) (hc : CLS y n) (hn : As.length = n) (hct : CT y dy 0 As S (qI r T)) (hdp : dy + 1 ≤ d) (hu : u ≤ M) (hst : st = As.reverse ++ rest) (h8 : (rest.map fun v => v.category).sum ≤ 8)
    (k : WP [] j d M Q (pc + 3) L (.int r :: rest) T u) : WP [] j d M Q pc L st S u :=
  r_callS hd hw hc hn hct hdp hu hst h8 (fun v S' h => by obtain ⟨h1, h2⟩ := h; cases h1; subst h2; exact k) (fun E S' h => by cases h.1)
theorem r_cSJ {i : Nat} {y : MT} {As rest : List Value} {dy n : Nat} {r : Int64} {T : PS} (hd : decode j.2.1 pc = .ok (.invokestatic i, 3)) (hw : Cond.methodLink j.1.cls i y.1 ∈ W0) (hc : CLS y n) (hn : As.length = n) (hct : CT y dy 0 As S (qJ r T)) (hdp : dy + 1 ≤ d) (hu : u ≤ M) (hst : st = As.reverse ++ rest) (h8 : (rest.map fun v => v.category).sum ≤ 8)
    (k : WP [] j d M Q (pc + 3) L (.long r :: rest) T u) : WP [] j d M Q pc L st S u :=
  r_callS hd hw hc hn hct hdp hu hst h8 (fun v S' h => by obtain ⟨h1, h2⟩ := h; cases h1; subst h2; exact k) (fun E S' h => by cases h.1)
theorem r_cSV {i : Nat} {y : MT} {As rest : List Value} {dy n : Nat} {T : PS} (hd : decode j.2.1 pc = .ok (.invokestatic i, 3)) (hw : Cond.methodLink j.1.cls i y.1 ∈ W0) (hc : CLS y n) (hn : As.length = n) (hct : CT y dy 0 As S (qV T)) (hdp : dy + 1 ≤ d) (hu : u ≤ M) (hst : st = As.reverse ++ rest) (h8 : (rest.map fun v => v.category).sum ≤ 8)
    (k : WP [] j d M Q (pc + 3) L rest T u) : WP [] j d M Q pc L st S u :=
  r_callS hd hw hc hn hct hdp hu hst h8 (fun v S' h => by obtain ⟨h1, h2⟩ := h; cases h1; subst h2; exact k) (fun E S' h => by cases h.1)
theorem r_cNI {i : Nat} {y : MT} {As rest : List Value} {dy n : Nat} {r : Int32} {T : PS} {host : String} (hd : decode j.2.1 pc = .ok (.invokestatic i, 3)) (hw : (j.1.cls, i, y.1, host) ∈ nestW) (hc : CLS y n) (hn : As.length = n) (hct : CT y dy 0 As S (qI r T)) (hdp : dy + 1 ≤ d) (hu : u ≤ M) (hst : st = As.reverse ++ rest) (h8 : (rest.map fun v => v.category).sum ≤ 8)
    (k : WP [] j d M Q (pc + 3) L (.int r :: rest) T u) : WP [] j d M Q pc L st S u :=
  r_callSN hd hw hc hn hct hdp hu hst h8 (fun E S' h => by cases h.1) (fun v S' h => by obtain ⟨h1, h2⟩ := h; cases h1; subst h2; exact k)
theorem r_zastore {i x : Int32} {a n k9 : Nat} (hd : decode j.2.1 pc = .ok (.bastore, 1)) (ha : ck a = (3, n)) (hn : a < nC) (hi : IX i n k9) (hx : b01 x) (k : WP tb j d M Q (pc + 1) L st (u2 S.1 a k9 x, S.2) u) : WP tb j d M Q pc L (.int x :: .int i :: .ref a :: st) S u := by
  intro G l p e s m args below meth c C H locs ls hP hS hl
  refine va_zast C.1 C.2.1 C.2.2.2.2.2.2.2.1.1 hP.1 (C.2.2.2.2.2.2.2.1.D S) hS a 2 (wl_get hn |>.trans (by rw [ent_int ha (by decide) (by decide)])) rfl hi.in hd (fun H1 locs1 hP1 hD1 hS1 => ?_)
  have hnx : vp_nar .boolean x = x := by rcases hx with rfl | rfl <;> rfl
  rw [hi.cl, wl_set hn (S' := (u2 S.1 a k9 x, S.2)) (by rw [ent_int ha (by decide) (by decide)]; simp [u2, hnx]) (fun b _ hne => ent_cong (u2_ne hne) rfl rfl)] at hP1
  exact k G l p e s m args below meth c C H1 locs1 ls ⟨hP1, hP.2.u2 hn⟩ hS1 hl
/-- a whole row anew -/
def urow (f : Nat → Nat → Int32) (a : Nat) (r : Nat → Int32) : Nat → Nat → Int32 := fun b => if b = a then r else f b
theorem r_arraycopy {i : Nat} {a b n0 n1 : Nat} {sp dp n : Int32} (hd : decode j.2.1 pc = .ok (.invokestatic i, 3)) (hw : Cond.methodLink j.1.cls i arraycopyName ∈ W0) (ha : arr a 1 n0) (hb : arr b 1 n1) (hg : (0 ≤ sp ∧ 0 ≤ dp ∧ 0 ≤ n) ∧ ix sp + ix n ≤ n0 ∧ ix dp + ix n ≤ n1) (hd3 : 3 ≤ d) (h8 : (st.map fun v => v.category).sum ≤ 8)
    (k : WP tb j d M Q (pc + 3) L st (urow S.1 b (va_cpy (S.1 a) (S.1 b) (ix sp) (ix dp) (ix n)), S.2) u) : WP tb j d M Q pc L (.int n :: .int dp :: .ref b :: .int sp :: .ref a :: st) S u := by
  intro G l p e s m args below meth c C H locs ls hP hS hl
  obtain ⟨hx, hb9, hml, hr, hlk, hown, hts, hG, hst9, htab⟩ := id C
  have neg : ∀ z : Int32, 0 ≤ z → ¬ z < 0 := fun z h => Int32.not_lt.mpr h
  refine va_copyi hx hb9 (hml.trans hl.1.symm) hown (hts _ hw) (hts _ (mt2 (List.mem_of_getElem? (i := 178) rfl) rfl)) (hts _ (mt2 (List.mem_of_getElem? (i := 177) rfl) rfl)) (hts _ (mt1 (List.mem_of_getElem? (i := 24) rfl) rfl)) hG.1 hP.1 (hG.D S) hS a b 0 0 (wl_get ha.2 |>.trans (by rw [ent_int ha.1 (by decide) (by decide)])) (wl_get hb.2 |>.trans (by rw [ent_int hb.1 (by decide) (by decide)])) rfl rfl rfl (neg _ hg.1.1) (neg _ hg.1.2.1) (neg _ hg.1.2.2) hg.2.1 hg.2.2 (fun _ _ => rfl) (by simp only [rmd]; omega) ?_ hd (fun H1 locs1 hP1 hD1 hS1 => ?_)
  · rw [List.map_map]
    have : ((fun v => v.category) ∘ cv G) = (fun v : Value => v.category) := by funext v; exact cv_cat
    rw [this]
    have h9 : nativeFrameWords "java/lang/System" "arraycopy" 5 + 11 ≤ 180 := by decide
    simp only [rmd]
    omega
  · rw [wl_set (G := G) (S := S) hb.2 (S' := (urow S.1 b (va_cpy (S.1 a) (S.1 b) (ix sp) (ix dp) (ix n)), S.2)) (by rw [ent_int hb.1 (by decide) (by decide)]; simp [urow]) (fun b9 _ hne => ent_cong (by simp [urow, hne]) rfl rfl)] at hP1
    exact k G l p e s m args below meth c C H1 locs1 ls ⟨hP1, by simpa [urow, ne1000 hb.2] using hP.2.1, hP.2.2⟩ hS1 hl
theorem r_mmax {x y : Int32} {i : Nat} (hd : decode j.2.1 pc = .ok (.invokestatic i, 3)) (hw : Cond.methodLink j.1.cls i mJ9_max_7cf53.1 ∈ W0) (hd1 : 1 ≤ d) (hu : u ≤ M) (h8 : (st.map fun v => v.category).sum ≤ 8) (k : WP tb j d M Q (pc + 3) L (.int (if x < y then y else x) :: st) S u) : WP tb j d M Q pc L (.int y :: .int x :: st) S u := by
  intro G l p e s m args below meth c C H locs ls hP hS hl
  obtain ⟨hx, hb9, hml, hr, hlk, hown, hts, hG, hst9, htab⟩ := id C
  refine va_mmax hx hb9 (hml.trans hl.1.symm) hown (hts _ hw) (hts _ kJ9_max_7cf53.2) (hts _ kJ9_max_7cf53.1.1) (hts _ kJ9_max_7cf53.1.2.1) hd1 ?_ hu (Nat.mul_le_mul_left 6 hu) hd (k G l p e s m args below meth c C H locs ls hP hS hl)
  rw [List.map_map]
  have : ((fun v => v.category) ∘ cv G) = (fun v : Value => v.category) := by funext v; exact cv_cat
  rw [this]
  simp only [rmd]
  omega
theorem r_mmin {x y : Int32} {i : Nat} (hd : decode j.2.1 pc = .ok (.invokestatic i, 3)) (hw : Cond.methodLink j.1.cls i mJ9_min_7cf53.1 ∈ W0) (hd1 : 1 ≤ d) (hu : u ≤ M) (h8 : (st.map fun v => v.category).sum ≤ 8) (k : WP tb j d M Q (pc + 3) L (.int (if y < x then y else x) :: st) S u) : WP tb j d M Q pc L (.int y :: .int x :: st) S u := by
  intro G l p e s m args below meth c C H locs ls hP hS hl
  obtain ⟨hx, hb9, hml, hr, hlk, hown, hts, hG, hst9, htab⟩ := id C
  refine va_mmin hx hb9 (hml.trans hl.1.symm) hown (hts _ hw) (hts _ kJ9_min_7cf53.2) (hts _ kJ9_min_7cf53.1.1) (hts _ kJ9_min_7cf53.1.2.1) hd1 ?_ hu (Nat.mul_le_mul_left 6 hu) hd (k G l p e s m args below meth c C H locs ls hP hS hl)
  rw [List.map_map]
  have : ((fun v => v.category) ∘ cv G) = (fun v : Value => v.category) := by funext v; exact cv_cat
  rw [this]
  simp only [rmd]
  omega
theorem r_mabs {x : Int32} {i : Nat} (hd : decode j.2.1 pc = .ok (.invokestatic i, 3)) (hw : Cond.methodLink j.1.cls i mJ9_abs_0f7a4.1 ∈ W0) (hd1 : 1 ≤ d) (hu : u ≤ M) (h8 : (st.map fun v => v.category).sum ≤ 8) (k : WP tb j d M Q (pc + 3) L (.int (if 0 ≤ x then x else 0 - x) :: st) S u) : WP tb j d M Q pc L (.int x :: st) S u := by
  intro G l p e s m args below meth c C H locs ls hP hS hl
  obtain ⟨hx, hb9, hml, hr, hlk, hown, hts, hG, hst9, htab⟩ := id C
  refine va_mabs hx hb9 (hml.trans hl.1.symm) hown (hts _ hw) (hts _ kJ9_abs_0f7a4.2) (hts _ kJ9_abs_0f7a4.1.1) (hts _ kJ9_abs_0f7a4.1.2.1) hd1 ?_ hu (Nat.mul_le_mul_left 6 hu) hd (k G l p e s m args below meth c C H locs ls hP hS hl)
  rw [List.map_map]
  have : ((fun v => v.category) ∘ cv G) = (fun v : Value => v.category) := by funext v; exact cv_cat
  rw [this]
  simp only [rmd]
  omega
end XR
theorem ck0 : ck 0 = (0, 11) := rfl
theorem nC0 : 0 < nC := by decide
theorem ob0 : obj 0 11 := ⟨rfl, by decide⟩
theorem ck1 : ck 1 = (0, 7) := rfl
theorem nC1 : 1 < nC := by decide
theorem ob1 : obj 1 7 := ⟨rfl, by decide⟩
theorem ck2 : ck 2 = (0, 10) := rfl
theorem nC2 : 2 < nC := by decide
theorem ob2 : obj 2 10 := ⟨rfl, by decide⟩
theorem ck3 : ck 3 = (0, 6) := rfl
theorem nC3 : 3 < nC := by decide
theorem ob3 : obj 3 6 := ⟨rfl, by decide⟩
theorem ck4 : ck 4 = (0, 6) := rfl
theorem nC4 : 4 < nC := by decide
theorem ob4 : obj 4 6 := ⟨rfl, by decide⟩
theorem ck5 : ck 5 = (0, 3) := rfl
theorem nC5 : 5 < nC := by decide
theorem ob5 : obj 5 3 := ⟨rfl, by decide⟩
theorem ck6 : ck 6 = (0, 4) := rfl
theorem nC6 : 6 < nC := by decide
theorem ob6 : obj 6 4 := ⟨rfl, by decide⟩
theorem ck7 : ck 7 = (0, 9) := rfl
theorem nC7 : 7 < nC := by decide
theorem ob7 : obj 7 9 := ⟨rfl, by decide⟩
theorem ck8 : ck 8 = (0, 0) := rfl
theorem nC8 : 8 < nC := by decide
theorem ob8 : obj 8 0 := ⟨rfl, by decide⟩
theorem ck9 : ck 9 = (0, 0) := rfl
theorem nC9 : 9 < nC := by decide
theorem ob9 : obj 9 0 := ⟨rfl, by decide⟩
theorem ck10 : ck 10 = (0, 5) := rfl
theorem nC10 : 10 < nC := by decide
theorem ob10 : obj 10 5 := ⟨rfl, by decide⟩
theorem ck11 : ck 11 = (0, 5) := rfl
theorem nC11 : 11 < nC := by decide
theorem ob11 : obj 11 5 := ⟨rfl, by decide⟩
theorem ck12 : ck 12 = (0, 1) := rfl
theorem nC12 : 12 < nC := by decide
theorem ob12 : obj 12 1 := ⟨rfl, by decide⟩
theorem ck13 : ck 13 = (0, 1) := rfl
theorem nC13 : 13 < nC := by decide
theorem ob13 : obj 13 1 := ⟨rfl, by decide⟩
theorem ck14 : ck 14 = (0, 8) := rfl
theorem nC14 : 14 < nC := by decide
theorem ob14 : obj 14 8 := ⟨rfl, by decide⟩
theorem ck15 : ck 15 = (0, 8) := rfl
theorem nC15 : 15 < nC := by decide
theorem ob15 : obj 15 8 := ⟨rfl, by decide⟩
theorem ck16 : ck 16 = (0, 8) := rfl
theorem nC16 : 16 < nC := by decide
theorem ob16 : obj 16 8 := ⟨rfl, by decide⟩
theorem ck17 : ck 17 = (0, 8) := rfl
theorem nC17 : 17 < nC := by decide
theorem ob17 : obj 17 8 := ⟨rfl, by decide⟩
theorem ck18 : ck 18 = (0, 2) := rfl
theorem nC18 : 18 < nC := by decide
theorem ob18 : obj 18 2 := ⟨rfl, by decide⟩
theorem ck19 : ck 19 = (0, 2) := rfl
theorem nC19 : 19 < nC := by decide
theorem ob19 : obj 19 2 := ⟨rfl, by decide⟩
theorem ck20 : ck 20 = (0, 2) := rfl
theorem nC20 : 20 < nC := by decide
theorem ob20 : obj 20 2 := ⟨rfl, by decide⟩
theorem ck21 : ck 21 = (0, 2) := rfl
theorem nC21 : 21 < nC := by decide
theorem ob21 : obj 21 2 := ⟨rfl, by decide⟩
theorem ck22 : ck 22 = (0, 2) := rfl
theorem nC22 : 22 < nC := by decide
theorem ob22 : obj 22 2 := ⟨rfl, by decide⟩
theorem ck23 : ck 23 = (1, 3) := rfl
theorem nC23 : 23 < nC := by decide
theorem ar23 : arr 23 1 3 := ⟨rfl, by decide⟩
theorem ck24 : ck 24 = (1, 4) := rfl
theorem nC24 : 24 < nC := by decide
theorem ar24 : arr 24 1 4 := ⟨rfl, by decide⟩
theorem ck25 : ck 25 = (1, 4) := rfl
theorem nC25 : 25 < nC := by decide
theorem ar25 : arr 25 1 4 := ⟨rfl, by decide⟩
theorem ck26 : ck 26 = (2, 700) := rfl
theorem nC26 : 26 < nC := by decide
theorem ar26 : arr 26 2 700 := ⟨rfl, by decide⟩
theorem ck27 : ck 27 = (1, 9) := rfl
theorem nC27 : 27 < nC := by decide
theorem ar27 : arr 27 1 9 := ⟨rfl, by decide⟩
theorem ck28 : ck 28 = (1, 9) := rfl
theorem nC28 : 28 < nC := by decide
theorem ar28 : arr 28 1 9 := ⟨rfl, by decide⟩
theorem ck29 : ck 29 = (1, 9) := rfl
theorem nC29 : 29 < nC := by decide
theorem ar29 : arr 29 1 9 := ⟨rfl, by decide⟩
theorem ck30 : ck 30 = (1, 9) := rfl
theorem nC30 : 30 < nC := by decide
theorem ar30 : arr 30 1 9 := ⟨rfl, by decide⟩
theorem ck31 : ck 31 = (1, 9) := rfl
theorem nC31 : 31 < nC := by decide
theorem ar31 : arr 31 1 9 := ⟨rfl, by decide⟩
theorem ck32 : ck 32 = (1, 40) := rfl
theorem nC32 : 32 < nC := by decide
theorem ar32 : arr 32 1 40 := ⟨rfl, by decide⟩
theorem ck33 : ck 33 = (4, 320) := rfl
theorem nC33 : 33 < nC := by decide
theorem ar33 : arr 33 4 320 := ⟨rfl, by decide⟩
theorem ck34 : ck 34 = (1, 1920) := rfl
theorem nC34 : 34 < nC := by decide
theorem ar34 : arr 34 1 1920 := ⟨rfl, by decide⟩
theorem ck35 : ck 35 = (1, 1920) := rfl
theorem nC35 : 35 < nC := by decide
theorem ar35 : arr 35 1 1920 := ⟨rfl, by decide⟩
theorem ck36 : ck 36 = (1, 8) := rfl
theorem nC36 : 36 < nC := by decide
theorem ar36 : arr 36 1 8 := ⟨rfl, by decide⟩
theorem ck37 : ck 37 = (1, 8) := rfl
theorem nC37 : 37 < nC := by decide
theorem ar37 : arr 37 1 8 := ⟨rfl, by decide⟩
theorem ck38 : ck 38 = (1, 8) := rfl
theorem nC38 : 38 < nC := by decide
theorem ar38 : arr 38 1 8 := ⟨rfl, by decide⟩
theorem ck39 : ck 39 = (1, 8) := rfl
theorem nC39 : 39 < nC := by decide
theorem ar39 : arr 39 1 8 := ⟨rfl, by decide⟩
theorem ck40 : ck 40 = (1, 9) := rfl
theorem nC40 : 40 < nC := by decide
theorem ar40 : arr 40 1 9 := ⟨rfl, by decide⟩
theorem ck41 : ck 41 = (1, 9) := rfl
theorem nC41 : 41 < nC := by decide
theorem ar41 : arr 41 1 9 := ⟨rfl, by decide⟩
theorem ck42 : ck 42 = (1, 700) := rfl
theorem nC42 : 42 < nC := by decide
theorem ar42 : arr 42 1 700 := ⟨rfl, by decide⟩
theorem ck43 : ck 43 = (1, 40) := rfl
theorem nC43 : 43 < nC := by decide
theorem ar43 : arr 43 1 40 := ⟨rfl, by decide⟩
theorem ck44 : ck 44 = (1, 700) := rfl
theorem nC44 : 44 < nC := by decide
theorem ar44 : arr 44 1 700 := ⟨rfl, by decide⟩
theorem ck45 : ck 45 = (1, 40) := rfl
theorem nC45 : 45 < nC := by decide
theorem ar45 : arr 45 1 40 := ⟨rfl, by decide⟩
theorem ck46 : ck 46 = (1, 700) := rfl
theorem nC46 : 46 < nC := by decide
theorem ar46 : arr 46 1 700 := ⟨rfl, by decide⟩
theorem ck47 : ck 47 = (1, 40) := rfl
theorem nC47 : 47 < nC := by decide
theorem ar47 : arr 47 1 40 := ⟨rfl, by decide⟩
theorem ck48 : ck 48 = (1, 700) := rfl
theorem nC48 : 48 < nC := by decide
theorem ar48 : arr 48 1 700 := ⟨rfl, by decide⟩
theorem ck49 : ck 49 = (1, 40) := rfl
theorem nC49 : 49 < nC := by decide
theorem ar49 : arr 49 1 40 := ⟨rfl, by decide⟩
theorem ck50 : ck 50 = (1, 9) := rfl
theorem nC50 : 50 < nC := by decide
theorem ar50 : arr 50 1 9 := ⟨rfl, by decide⟩
theorem ck51 : ck 51 = (1, 9) := rfl
theorem nC51 : 51 < nC := by decide
theorem ar51 : arr 51 1 9 := ⟨rfl, by decide⟩
theorem ck52 : ck 52 = (1, 9) := rfl
theorem nC52 : 52 < nC := by decide
theorem ar52 : arr 52 1 9 := ⟨rfl, by decide⟩
theorem ck53 : ck 53 = (1, 9) := rfl
theorem nC53 : 53 < nC := by decide
theorem ar53 : arr 53 1 9 := ⟨rfl, by decide⟩
theorem ck54 : ck 54 = (1, 9) := rfl
theorem nC54 : 54 < nC := by decide
theorem ar54 : arr 54 1 9 := ⟨rfl, by decide⟩
theorem ck55 : ck 55 = (1, 9) := rfl
theorem nC55 : 55 < nC := by decide
theorem ar55 : arr 55 1 9 := ⟨rfl, by decide⟩
theorem ck56 : ck 56 = (1, 9) := rfl
theorem nC56 : 56 < nC := by decide
theorem ar56 : arr 56 1 9 := ⟨rfl, by decide⟩
theorem ck57 : ck 57 = (1, 9) := rfl
theorem nC57 : 57 < nC := by decide
theorem ar57 : arr 57 1 9 := ⟨rfl, by decide⟩
theorem ck58 : ck 58 = (1, 9) := rfl
theorem nC58 : 58 < nC := by decide
theorem ar58 : arr 58 1 9 := ⟨rfl, by decide⟩
theorem ck59 : ck 59 = (1, 9) := rfl
theorem nC59 : 59 < nC := by decide
theorem ar59 : arr 59 1 9 := ⟨rfl, by decide⟩
theorem ck60 : ck 60 = (1, 9) := rfl
theorem nC60 : 60 < nC := by decide
theorem ar60 : arr 60 1 9 := ⟨rfl, by decide⟩
theorem ck61 : ck 61 = (1, 9) := rfl
theorem nC61 : 61 < nC := by decide
theorem ar61 : arr 61 1 9 := ⟨rfl, by decide⟩
theorem ck62 : ck 62 = (1, 9) := rfl
theorem nC62 : 62 < nC := by decide
theorem ar62 : arr 62 1 9 := ⟨rfl, by decide⟩
theorem ck63 : ck 63 = (1, 9) := rfl
theorem nC63 : 63 < nC := by decide
theorem ar63 : arr 63 1 9 := ⟨rfl, by decide⟩
theorem ck64 : ck 64 = (1, 9) := rfl
theorem nC64 : 64 < nC := by decide
theorem ar64 : arr 64 1 9 := ⟨rfl, by decide⟩
theorem ck65 : ck 65 = (1, 9) := rfl
theorem nC65 : 65 < nC := by decide
theorem ar65 : arr 65 1 9 := ⟨rfl, by decide⟩
theorem ck66 : ck 66 = (1, 9) := rfl
theorem nC66 : 66 < nC := by decide
theorem ar66 : arr 66 1 9 := ⟨rfl, by decide⟩
theorem ck67 : ck 67 = (1, 9) := rfl
theorem nC67 : 67 < nC := by decide
theorem ar67 : arr 67 1 9 := ⟨rfl, by decide⟩
theorem ck68 : ck 68 = (1, 9) := rfl
theorem nC68 : 68 < nC := by decide
theorem ar68 : arr 68 1 9 := ⟨rfl, by decide⟩
theorem ck69 : ck 69 = (1, 9) := rfl
theorem nC69 : 69 < nC := by decide
theorem ar69 : arr 69 1 9 := ⟨rfl, by decide⟩
theorem ck70 : ck 70 = (1, 9) := rfl
theorem nC70 : 70 < nC := by decide
theorem ar70 : arr 70 1 9 := ⟨rfl, by decide⟩
theorem ck71 : ck 71 = (1, 9) := rfl
theorem nC71 : 71 < nC := by decide
theorem ar71 : arr 71 1 9 := ⟨rfl, by decide⟩
theorem ck72 : ck 72 = (1, 9) := rfl
theorem nC72 : 72 < nC := by decide
theorem ar72 : arr 72 1 9 := ⟨rfl, by decide⟩
theorem ck73 : ck 73 = (1, 9) := rfl
theorem nC73 : 73 < nC := by decide
theorem ar73 : arr 73 1 9 := ⟨rfl, by decide⟩
theorem ck74 : ck 74 = (1, 9) := rfl
theorem nC74 : 74 < nC := by decide
theorem ar74 : arr 74 1 9 := ⟨rfl, by decide⟩
theorem ck75 : ck 75 = (1, 9) := rfl
theorem nC75 : 75 < nC := by decide
theorem ar75 : arr 75 1 9 := ⟨rfl, by decide⟩
theorem ck76 : ck 76 = (1, 9) := rfl
theorem nC76 : 76 < nC := by decide
theorem ar76 : arr 76 1 9 := ⟨rfl, by decide⟩
theorem ck77 : ck 77 = (1, 9) := rfl
theorem nC77 : 77 < nC := by decide
theorem ar77 : arr 77 1 9 := ⟨rfl, by decide⟩
theorem ck78 : ck 78 = (1, 9) := rfl
theorem nC78 : 78 < nC := by decide
theorem ar78 : arr 78 1 9 := ⟨rfl, by decide⟩
theorem ck79 : ck 79 = (1, 9) := rfl
theorem nC79 : 79 < nC := by decide
theorem ar79 : arr 79 1 9 := ⟨rfl, by decide⟩
theorem ck80 : ck 80 = (0, 12) := rfl
theorem nC80 : 80 < nC := by decide
theorem ob80 : obj 80 12 := ⟨rfl, by decide⟩
theorem ck81 : ck 81 = (1, 9) := rfl
theorem nC81 : 81 < nC := by decide
theorem ar81 : arr 81 1 9 := ⟨rfl, by decide⟩
theorem ck82 : ck 82 = (1, 1400) := rfl
theorem nC82 : 82 < nC := by decide
theorem ar82 : arr 82 1 1400 := ⟨rfl, by decide⟩
theorem ck83 : ck 83 = (1, 700) := rfl
theorem nC83 : 83 < nC := by decide
theorem ar83 : arr 83 1 700 := ⟨rfl, by decide⟩
theorem ck84 : ck 84 = (1, 3) := rfl
theorem nC84 : 84 < nC := by decide
theorem ar84 : arr 84 1 3 := ⟨rfl, by decide⟩
theorem ck85 : ck 85 = (1, 9) := rfl
theorem nC85 : 85 < nC := by decide
theorem ar85 : arr 85 1 9 := ⟨rfl, by decide⟩
theorem ck86 : ck 86 = (1, 64) := rfl
theorem nC86 : 86 < nC := by decide
theorem ar86 : arr 86 1 64 := ⟨rfl, by decide⟩
theorem ck87 : ck 87 = (1, 1400) := rfl
theorem nC87 : 87 < nC := by decide
theorem ar87 : arr 87 1 1400 := ⟨rfl, by decide⟩
theorem ck88 : ck 88 = (1, 950) := rfl
theorem nC88 : 88 < nC := by decide
theorem ar88 : arr 88 1 950 := ⟨rfl, by decide⟩
theorem ck89 : ck 89 = (3, 9) := rfl
theorem nC89 : 89 < nC := by decide
theorem ar89 : arr 89 3 9 := ⟨rfl, by decide⟩
theorem ck90 : ck 90 = (3, 9) := rfl
theorem nC90 : 90 < nC := by decide
theorem ar90 : arr 90 3 9 := ⟨rfl, by decide⟩
theorem ck91 : ck 91 = (1, 128) := rfl
theorem nC91 : 91 < nC := by decide
theorem ar91 : arr 91 1 128 := ⟨rfl, by decide⟩
theorem ck92 : ck 92 = (1, 2560) := rfl
theorem nC92 : 92 < nC := by decide
theorem ar92 : arr 92 1 2560 := ⟨rfl, by decide⟩
theorem ck93 : ck 93 = (1, 6) := rfl
theorem nC93 : 93 < nC := by decide
theorem ar93 : arr 93 1 6 := ⟨rfl, by decide⟩
theorem ck94 : ck 94 = (1, 950) := rfl
theorem nC94 : 94 < nC := by decide
theorem ar94 : arr 94 1 950 := ⟨rfl, by decide⟩
theorem ck95 : ck 95 = (1, 9) := rfl
theorem nC95 : 95 < nC := by decide
theorem ar95 : arr 95 1 9 := ⟨rfl, by decide⟩
theorem ck96 : ck 96 = (1, 9) := rfl
theorem nC96 : 96 < nC := by decide
theorem ar96 : arr 96 1 9 := ⟨rfl, by decide⟩
theorem ck97 : ck 97 = (1, 9) := rfl
theorem nC97 : 97 < nC := by decide
theorem ar97 : arr 97 1 9 := ⟨rfl, by decide⟩
theorem ck98 : ck 98 = (1, 9) := rfl
theorem nC98 : 98 < nC := by decide
theorem ar98 : arr 98 1 9 := ⟨rfl, by decide⟩
theorem ck99 : ck 99 = (1, 9) := rfl
theorem nC99 : 99 < nC := by decide
theorem ar99 : arr 99 1 9 := ⟨rfl, by decide⟩
theorem ck100 : ck 100 = (1, 9) := rfl
theorem nC100 : 100 < nC := by decide
theorem ar100 : arr 100 1 9 := ⟨rfl, by decide⟩
theorem ck101 : ck 101 = (1, 9) := rfl
theorem nC101 : 101 < nC := by decide
theorem ar101 : arr 101 1 9 := ⟨rfl, by decide⟩
theorem ck102 : ck 102 = (1, 9) := rfl
theorem nC102 : 102 < nC := by decide
theorem ar102 : arr 102 1 9 := ⟨rfl, by decide⟩
theorem ck103 : ck 103 = (1, 9) := rfl
theorem nC103 : 103 < nC := by decide
theorem ar103 : arr 103 1 9 := ⟨rfl, by decide⟩
theorem ck104 : ck 104 = (1, 9) := rfl
theorem nC104 : 104 < nC := by decide
theorem ar104 : arr 104 1 9 := ⟨rfl, by decide⟩
theorem ck105 : ck 105 = (1, 24) := rfl
theorem nC105 : 105 < nC := by decide
theorem ar105 : arr 105 1 24 := ⟨rfl, by decide⟩
theorem ck106 : ck 106 = (1, 40) := rfl
theorem nC106 : 106 < nC := by decide
theorem ar106 : arr 106 1 40 := ⟨rfl, by decide⟩
theorem ck107 : ck 107 = (1, 20480) := rfl
theorem nC107 : 107 < nC := by decide
theorem ar107 : arr 107 1 20480 := ⟨rfl, by decide⟩
theorem ck108 : ck 108 = (1, 64) := rfl
theorem nC108 : 108 < nC := by decide
theorem ar108 : arr 108 1 64 := ⟨rfl, by decide⟩
theorem ck109 : ck 109 = (1, 2560) := rfl
theorem nC109 : 109 < nC := by decide
theorem ar109 : arr 109 1 2560 := ⟨rfl, by decide⟩
theorem ck110 : ck 110 = (1, 24) := rfl
theorem nC110 : 110 < nC := by decide
theorem ar110 : arr 110 1 24 := ⟨rfl, by decide⟩
theorem ck111 : ck 111 = (4, 1) := rfl
theorem nC111 : 111 < nC := by decide
theorem ar111 : arr 111 4 1 := ⟨rfl, by decide⟩
theorem qX0_21 : Cond.methodLink RX0 21 arraycopyName ∈ W0 := (mt2 (List.mem_of_getElem? (i := 176) rfl) rfl)
theorem qX2_48 : Cond.methodLink RX2 48 arraycopyName ∈ W0 := (mt2 (List.mem_of_getElem? (i := 183) rfl) rfl)
theorem qX4_66 : Cond.methodLink RX4 66 arraycopyName ∈ W0 := (mt5 (List.mem_of_getElem? (i := 76) rfl) rfl)
theorem qX5_25 : Cond.methodLink RX5 25 arraycopyName ∈ W0 := (mt3 (List.mem_of_getElem? (i := 69) rfl) rfl)
theorem vc0 : vwCl[0]? = some (RX0, TX0, 2) := rfl
theorem vc1 : vwCl[1]? = some (RX1, TX1, 5) := rfl
theorem vc2 : vwCl[2]? = some (RX2, TX2, 9) := rfl
theorem vc3 : vwCl[3]? = some (RX3, TX3, 7) := rfl
theorem vc4 : vwCl[4]? = some (RX4, TX4, 3) := rfl
theorem vc5 : vwCl[5]? = some (RX5, TX5, 4) := rfl
theorem vc6 : vwCl[6]? = some (RX6, TX6, 3) := rfl
theorem vc7 : vwCl[7]? = some (RX7, TX7, 5) := rfl
theorem vc8 : vwCl[8]? = some (RX8, TX8, 4) := rfl
theorem vc9 : vwCl[9]? = some (RX9, TX9, 4) := rfl
theorem vc10 : vwCl[10]? = some (RX10, TX10, 7) := rfl
theorem vc11 : vwCl[11]? = some (RX11, TX11, 12) := rfl
theorem vc12 : vwCl[12]? = some (RX12, TX12, 60) := rfl
