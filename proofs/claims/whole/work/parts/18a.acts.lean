/-! ===== phase 2: acts kept and taken back ===== -/
theorem iN_mul (a b : Nat) : iN a * iN b = iN (a * b) := (Int32.ofNat_mul a b).symm
/-- cells of the class that acts and what is heard may change -/
def nowC (a : Nat) : Prop := a = 8 ∨ a = 34 ∨ a = 10 ∨ a = 36 ∨ a = 37 ∨ a = 18 ∨ (50 ≤ a ∧ a ≤ 54)
def PN (S T : PS) : Prop := (∀ a, pc a → ¬ nowC a → T.1 a = S.1 a) ∧ (T.1 0 9 = S.1 0 9 ∧ T.1 0 10 = S.1 0 10 ∧ T.1 2 1 = S.1 2 1) ∧ (T.2.2 5 3 = S.2.2 5 3 ∧ T.2.2 1 1 = S.2.2 1 1)
theorem PN.rfl {S : PS} : PN S S := ⟨fun _ _ _ => Eq.refl _, ⟨Eq.refl _, Eq.refl _, Eq.refl _⟩, Eq.refl _, Eq.refl _⟩
theorem PN.tr {S T U : PS} (h : PN S T) (h' : PN T U) : PN S U :=
  ⟨fun a ha hb => (h'.1 a ha hb).trans (h.1 a ha hb), ⟨h'.2.1.1.trans h.2.1.1, h'.2.1.2.1.trans h.2.1.2.1, h'.2.1.2.2.trans h.2.1.2.2⟩, h'.2.2.1.trans h.2.2.1, h'.2.2.2.trans h.2.2.2⟩
theorem PN_pc {S T : PS} (h : PC S T) : PN S T := ⟨fun a ha _ => h.1 a ha, h.2⟩
theorem PN_fc {cs : Nat → Prop} {S T : PS} (h : FC cs S T) (hc : ∀ a, cs a → (¬ pc a ∨ nowC a) ∧ a ≠ 0 ∧ a ≠ 2) : PN S T := by
  refine ⟨fun a ha hb => h.1 a (fun e => (hc a e).1.elim (fun q => q ha) hb), ⟨?_, ?_, ?_⟩, by rw [h.2], by rw [h.2]⟩
  · rw [h.1 0 (fun e => (hc 0 e).2.1 (Eq.refl 0))]
  · rw [h.1 0 (fun e => (hc 0 e).2.1 (Eq.refl 0))]
  · rw [h.1 2 (fun e => (hc 2 e).2.2 (Eq.refl 2))]
theorem IC_now {G : Gs} {M : Mi} {S T : PS} (h : IC G S) (e : PN S T) (hm : CMi 18 8 34 10 36 37 M T) : IC (G.1, M, G.2.2) T := by
  obtain ⟨⟨p, h1, h2⟩, h3, h4, h5, h6, h7, h8⟩ := h
  have r : ∀ a, pc a → ¬ nowC a → T.1 a = S.1 a := e.1
  refine ⟨⟨p, h1.ce (fun a ha => r a (Or.inl ha) (by unfold ceC at ha; unfold nowC; omega)) e.2.2.1, e.2.2.2.trans h2⟩, hm, ?_, ?_, e.2.1.2.1.trans h6, e.2.1.2.2.trans h7, ?_⟩
  · show (match G.2.2.1 with | none => T.1 0 9 = 0 | some M => T.1 0 9 = 1 ∧ CMi 19 9 35 11 38 39 M T)
    revert h4
    cases G.2.2.1 with
    | none => intro h4; exact e.2.1.1.trans h4
    | some M' =>
      intro h4
      refine ⟨e.2.1.1.trans h4.1, ?_⟩
      obtain ⟨c1, c2, c3⟩ := h4.2
      have hi : isCu 19 := Or.inr (Or.inl rfl)
      have q : ∀ a, (a = 9 ∨ a = 35 ∨ a = 11 ∨ a = 38 ∨ a = 39 ∨ a = 19 ∨ (56 ≤ a ∧ a ≤ 60)) → T.1 a = S.1 a := fun a ha => r a (by unfold pc; omega) (by unfold nowC; omega)
      refine ⟨⟨fun k hk c hc => ?_, ?_, ?_, ?_⟩, ?_, ?_⟩
      · rw [q (sr 19 k) (by rw [hi.sr (by omega)]; omega)]; exact c1.1 k hk c hc
      · rw [q 19 (by omega)]; exact c1.2.1
      · rw [q 19 (by omega)]; exact c1.2.2.1
      · rw [q 19 (by omega)]; exact c1.2.2.2
      · rw [q 9 (by omega), q 35 (by omega)]; exact c2
      · rw [q 11 (by omega), q 38 (by omega), q 39 (by omega)]; exact c3
  · rw [r 23 (by simp [pc]) (by unfold nowC; omega)]; exact h5
  · rw [r 26 (by simp [pc]) (by unfold nowC; omega)]; exact h8
/-- fields and cells of the model that acts and what is heard leave -/
def PMn (S T : PS) : Prop := (∀ a, pm a → a ≠ 92 → a ≠ 105 → T.1 a = S.1 a) ∧ (∀ k, pf k → k ≠ 33 → k ≠ 49 → T.1 80 k = S.1 80 k)
theorem PMn.rfl {S : PS} : PMn S S := ⟨fun _ _ _ _ => Eq.refl _, fun _ _ _ _ => Eq.refl _⟩
theorem PMn.tr {S T U : PS} (h : PMn S T) (h' : PMn T U) : PMn S U := ⟨fun a ha hb hc => (h'.1 a ha hb hc).trans (h.1 a ha hb hc), fun k hk hb hc => (h'.2 k hk hb hc).trans (h.2 k hk hb hc)⟩
theorem PMn.fm {cs fs : Nat → Prop} {S T : PS} (h : FM cs fs S T) (hc : ∀ a, cs a → ¬ pm a ∨ a = 92 ∨ a = 105) (hf : ∀ k, fs k → ¬ pf k ∨ k = 33 ∨ k = 49) : PMn S T :=
  ⟨fun a ha h1 h2 => h.1 a (by unfold pm at ha; omega) (fun e => by rcases hc a e with q | q | q; exact q ha; exact h1 q; exact h2 q), fun k hk h1 h2 => h.2.1 k (fun e => by rcases hf k e with q | q | q; exact q hk; exact h1 q; exact h2 q)⟩
theorem ME_pmn {n w : Nat} {lk fr : Option (List Int32)} {sp : Nat → Int32} {S T : PS} (h : ME n w lk fr sp S) (e : PMn S T) : ME n w lk fr sp T := by
  unfold ME
  rw [e.2 1 (by simp [pf]) (by decide) (by decide), e.2 2 (by simp [pf]) (by decide) (by decide), e.2 3 (by simp [pf]) (by decide) (by decide), e.2 40 (by simp [pf]) (by decide) (by decide), e.1 81 (by simp [pm]) (by decide) (by decide), e.1 82 (by simp [pm]) (by decide) (by decide)]
  exact h
theorem IM_now {G : Gs} {M : Mi} {S T : PS} (h : IM G S) (e : PMn S T) (hm : MMi G.1.1 (T.1 91) (T.1 92) (T.1 105) (T.1 80 33) (T.1 80 49) M) : IM (G.1, M, G.2.2) T := by
  obtain ⟨h1, h2, h3, h4, h5, h6, h7⟩ := h
  refine ⟨ME_pmn h1 e, hm, ?_, ?_, (e.2 9 (by simp [pf]) (by decide) (by decide)).trans h5, (e.2 7 (by simp [pf]) (by decide) (by decide)).trans h6, ?_⟩
  · rw [e.1 108 (by simp [pm]) (by decide) (by decide), e.1 109 (by simp [pm]) (by decide) (by decide), e.1 110 (by simp [pm]) (by decide) (by decide), e.2 54 (by simp [pf]) (by decide) (by decide), e.2 55 (by simp [pf]) (by decide) (by decide), e.2 56 (by simp [pf]) (by decide) (by decide)]
    exact h3
  · rw [e.1 84 (by simp [pm]) (by decide) (by decide)]; exact h4
  · rw [e.1 83 (by simp [pm]) (by decide) (by decide)]; exact h7
/-- an act more -/
def kpM (M : Mi) : Mi := (M.1, (if M.2.1.1 = 40 then (40, fun j => if j = 39 then M.1 else M.2.1.2 (j + 1)) else (M.2.1.1 + 1, fun j => if j = M.2.1.1 then M.1 else M.2.1.2 j)), M.2.2)
theorem kpM_WM {n : Nat} {M : Mi} (h : WM n M) : WM n (kpM M) := by
  obtain ⟨h1, ⟨h2, h3⟩, h4⟩ := h
  unfold kpM
  by_cases e : M.2.1.1 = 40
  · rw [if_pos e]
    refine ⟨h1, ⟨Nat.le_refl 40, fun j hj => ?_⟩, h4⟩
    show WF n (if j = 39 then M.1 else M.2.1.2 (j + 1))
    have hj' : j < 40 := hj
    split
    · exact h1
    · exact h3 (j + 1) (by omega)
  · rw [if_neg e]
    refine ⟨h1, ⟨by show M.2.1.1 + 1 ≤ 40; omega, fun j hj => ?_⟩, h4⟩
    show WF n (if j = M.2.1.1 then M.1 else M.2.1.2 j)
    have hj' : j < M.2.1.1 + 1 := hj
    split
    · exact h1
    · exact h3 j (by omega)
/-- one row anew, all else as it was -/
def UR (T T' : PS) (a : Nat) (r : Nat → Int32) : Prop := T'.1 a = r ∧ (∀ b, b ≠ a → T'.1 b = T.1 b) ∧ T'.2 = T.2
theorem rn_r {β : Type} {T : PS} {a : Nat} {r : Nat → Int32} {F : PS → Option β} {Q : β → Prop} (h : ∀ T', UR T T' a r → rn (F T') Q) : rn (lt ((urow T.1 a r, T.2) : PS) F) Q := h _ ⟨urow_at, fun _ hb => urow_o hb, rfl⟩
theorem rn_u {β : Type} {T : PS} {a k : Nat} {x : Int32} {F : PS → Option β} {Q : β → Prop} (h : ∀ T', UR T T' a (upd (T.1 a) k x) → rn (F T') Q) : rn (lt ((u2 T.1 a k x, T.2) : PS) F) Q := h _ ⟨u2_at, fun _ hb => u2_o hb, rfl⟩
theorem FC.ur {cs : Nat → Prop} {S T T' : PS} {a : Nat} {r : Nat → Int32} (h : FC cs S T) (u : UR T T' a r) (ha : cs a) : FC cs S T' := ⟨fun b hb => (u.2.1 b (fun e => hb (by rw [e]; exact ha))).trans (h.1 b hb), u.2.2.trans h.2⟩
theorem CU.ur {o : Nat} {A : Rw} {T T' : PS} {a : Nat} {r : Nat → Int32} (ho : isCu o) (h : CU o A T) (u : UR T T' a r) (ha : ¬ cuC o a) : CU o A T' := h.fr ho (cs := fun b => b = a) (fun b hb => u.2.1 b hb) (fun b hb e => ha (e ▸ hb))
section ACT
variable {N n : Nat} {A : Rw} {S : PS}
/-- the row as it is being saved: the first j arrays -/
def SVj (k j : Nat) (A : Rw) (S T : PS) : Prop := (T.1 34 (48 * k) = A 7 0 ∧ bt (T.1 34 (48 * k + 1)) (A 5) ∧ bt (T.1 34 (48 * k + 2)) (A 6)) ∧ (∀ i, i < j → ∀ c, c < 9 → T.1 34 (48 * k + 3 + 9 * i + c) = A i c) ∧ (∀ i, (i < 48 * k ∨ 48 * k + 48 ≤ i) → T.1 34 i = S.1 34 i) ∧ CU 18 A T ∧ FC (fun a => a = 34) S T
theorem SVj.s {k j : Nat} {T T' : PS} (hk : k < 40) (hj : j < 5) (h : SVj k j A S T) (u : UR T T' 34 (va_cpy (T.1 (sr 18 j)) (T.1 34) 0 (48 * k + 3 + 9 * j) 9)) : SVj k (j + 1) A S T' := by
  obtain ⟨⟨h1, h2, h3⟩, h4, h5, h6, h7⟩ := h
  have q : ∀ i, (i < 48 * k + 3 + 9 * j ∨ 48 * k + 3 + 9 * j + 9 ≤ i) → T'.1 34 i = T.1 34 i := fun i hi => by
    rw [u.1]
    unfold va_cpy
    rw [if_neg (by omega)]
  refine ⟨⟨?_, ?_, ?_⟩, fun i hi c hc => ?_, fun i hi => ?_, h6.ur is18 u (by unfold cuC; omega), h7.ur u rfl⟩
  · rw [q _ (by omega)]; exact h1
  · rw [q _ (by omega)]; exact h2
  · rw [q _ (by omega)]; exact h3
  · by_cases e : i = j
    · subst e
      rw [u.1]
      unfold va_cpy
      rw [if_pos (by omega), Nat.zero_add]
      have : 48 * k + 3 + 9 * i + c - (48 * k + 3 + 9 * i) = c := by omega
      rw [this]
      exact h6.1 i hj c hc
    · rw [q _ (by omega)]; exact h4 i (by omega) c hc
  · rw [q _ (by omega)]; exact h5 i hi
theorem C_save {k : Nat} (hk : k < 40) (h : CU 18 A S) : rn (fX2_save N 18 34 (iN (48 * k)) S) (fun U => AR (U.1 34) (48 * k) A ∧ (∀ i, (i < 48 * k ∨ 48 * k + 48 ≤ i) → U.1 34 i = S.1 34 i) ∧ FC (fun a => a = 34) S U) := by
  have hck : (ck 34).2 = 1920 := rfl
  have a34 : arr 34 1 1920 := ar34
  have c48 : iN (48 * k) + 48 = iN (48 * k + 48) := iN_add _ 48
  have c1 : iN (48 * k) + 1 = iN (48 * k + 1) := iN_add _ 1
  have c2 : iN (48 * k) + 2 = iN (48 * k + 2) := iN_add _ 2
  have c3 : iN (48 * k) + 3 = iN (48 * k + 3) := iN_add _ 3
  have c9 : iN (48 * k + 3) + 9 = iN (48 * k + 3 + 9) := iN_add _ 9
  have c18 : iN (48 * k + 3) + 18 = iN (48 * k + 3 + 18) := iN_add _ 18
  have c27 : iN (48 * k + 3) + 27 = iN (48 * k + 3 + 27) := iN_add _ 27
  have c36 : iN (48 * k + 3) + 36 = iN (48 * k + 3 + 36) := iN_add _ 36
  have hle : iN (48 * k + 48) ≤ Int32.ofNat 1920 := by
    have : Int32.ofNat 1920 = iN 1920 := rfl
    rw [this, iN_le (by omega) (by omega)]; omega
  have i0 : inr (iN (48 * k)) 1920 := inr_iN (by omega) (by omega)
  have i1 : inr (iN (48 * k + 1)) 1920 := inr_iN (by omega) (by omega)
  have i2 : inr (iN (48 * k + 2)) 1920 := inr_iN (by omega) (by omega)
  have x0 : ix (0 : Int32) = 0 := by decide
  have x9 : ix (9 : Int32) = 9 := by decide
  have nn : ∀ m, m < 2000 → (0 : Int32) ≤ iN m := fun m hm => by
    have : (0 : Int32) = iN 0 := rfl
    rw [this, iN_le (by omega) (by omega)]; omega
  have xx : ∀ m, m < 2000 → ix (iN m) = m := fun m hm => ix_iN (by omega)
  have gg : ∀ m, m + 9 ≤ 1920 → ((0 ≤ (0 : Int32) ∧ 0 ≤ iN m ∧ 0 ≤ (9 : Int32)) ∧ 0 + 9 ≤ 9 ∧ m + 9 ≤ 1920) := fun m hm => ⟨⟨by decide, nn m (by omega), by decide⟩, by decide, hm⟩
  simp only [fX2_save, if_neg (iN_pos (show 48 * k < 2147483648 by omega)), hck, gd_t a34, c48, if_pos hle, gd_t ob18, gd_t i0, c1, gd_t i1, c2, gd_t i2, gd_t (is18.ar (k := 0) (by omega)), gd_t (is18.ar (k := 1) (by omega)), gd_t (is18.ar (k := 2) (by omega)), gd_t (is18.ar (k := 3) (by omega)), gd_t (is18.ar (k := 4) (by omega)), c3, c9, c18, c27, c36, gd_t (gg (48 * k + 3) (by omega)), gd_t (gg (48 * k + 3 + 9) (by omega)), gd_t (gg (48 * k + 3 + 18) (by omega)), gd_t (gg (48 * k + 3 + 27) (by omega)), gd_t (gg (48 * k + 3 + 36) (by omega)), x0, x9, xx (48 * k) (by omega), xx (48 * k + 1) (by omega), xx (48 * k + 2) (by omega), xx (48 * k + 3) (by omega), xx (48 * k + 3 + 9) (by omega), xx (48 * k + 3 + 18) (by omega), xx (48 * k + 3 + 27) (by omega), xx (48 * k + 3 + 36) (by omega)]
  refine rn_u (fun T1 e1 => ?_)
  refine rn_u (fun T2 e2 => ?_)
  refine rn_u (fun T3 e3 => ?_)
  have n18 : ∀ (X Y : PS) (r : Nat → Int32), UR X Y 34 r → Y.1 18 = X.1 18 := fun X Y r u => u.2.1 18 (by decide)
  have p0 : SVj k 0 A S T3 := by
    have q1 : T1.1 18 = S.1 18 := n18 _ _ _ e1
    have q2 : T2.1 18 = S.1 18 := (n18 _ _ _ e2).trans q1
    have v1 := e1.1
    have v2 := e2.1
    have v3 := e3.1
    rw [v1, q1] at v2
    rw [v2, q2] at v3
    refine ⟨⟨?_, ?_, ?_⟩, fun i hi => by omega, fun i hi => ?_, ((h.ur is18 e1 (by unfold cuC; omega)).ur is18 e2 (by unfold cuC; omega)).ur is18 e3 (by unfold cuC; omega), (((FC.rfl (cs := fun a => a = 34)).ur e1 rfl).ur e2 rfl).ur e3 rfl⟩
    · rw [v3, upd_o (by omega), upd_o (by omega), upd_at]; exact h.2.1
    · rw [v3, upd_o (by omega), upd_at]; exact h.2.2.1
    · rw [v3, upd_at]; exact h.2.2.2
    · rw [v3, upd_o (by omega), upd_o (by omega), upd_o (by omega)]
  refine rn_r (fun T4 e4 => ?_)
  have p1 : SVj k 1 A S T4 := p0.s hk (by omega) e4
  refine rn_r (fun T5 e5 => ?_)
  have p2 : SVj k 2 A S T5 := p1.s hk (by omega) e5
  refine rn_r (fun T6 e6 => ?_)
  have p3 : SVj k 3 A S T6 := p2.s hk (by omega) e6
  refine rn_r (fun T7 e7 => ?_)
  have p4 : SVj k 4 A S T7 := p3.s hk (by omega) e7
  refine rn_r (fun T8 e8 => ?_)
  have p5 : SVj k 5 A S T8 := p4.s hk (by omega) e8
  rw [rn_some]
  exact ⟨⟨p5.1.1, p5.1.2.1, p5.1.2.2, p5.2.1⟩, p5.2.2.1, p5.2.2.2.2⟩
/-- the row as it is being loaded -/
def LDj (j : Nat) (A : Rw) (S T : PS) : Prop := (T.1 18 6 = A 7 0 ∧ bt (T.1 18 7) (A 5) ∧ bt (T.1 18 8) (A 6)) ∧ (∀ i, i < j → ∀ c, c < 9 → T.1 (sr 18 i) c = A i c) ∧ T.1 34 = S.1 34 ∧ FC (fun a => a = 18 ∨ (50 ≤ a ∧ a < 55)) S T
theorem LDj.s {k j : Nat} {T T' : PS} (hA : AR (S.1 34) (48 * k) A) (hj : j < 5) (h : LDj j A S T) (u : UR T T' (sr 18 j) (va_cpy (T.1 34) (T.1 (sr 18 j)) (48 * k + 3 + 9 * j) 0 9)) : LDj (j + 1) A S T' := by
  obtain ⟨⟨h1, h2, h3⟩, h4, h5, h6⟩ := h
  have ej : sr 18 j = 50 + j := (is18.sr (by omega)).trans (by omega)
  refine ⟨⟨?_, ?_, ?_⟩, fun i hi c hc => ?_, ?_, h6.ur u (Or.inr (by omega))⟩
  · rw [u.2.1 18 (by omega)]; exact h1
  · rw [u.2.1 18 (by omega)]; exact h2
  · rw [u.2.1 18 (by omega)]; exact h3
  · by_cases e : i = j
    · subst e
      rw [u.1]
      unfold va_cpy
      rw [if_pos (by omega), Nat.sub_zero, h5]
      exact hA.2.2.2 i hj c hc
    · rw [u.2.1 (sr 18 i) (by rw [ej, is18.sr (by omega)]; omega)]; exact h4 i (by omega) c hc
  · rw [u.2.1 34 (by omega)]; exact h5
theorem C_load {k : Nat} (hk : k < 40) (h : AR (S.1 34) (48 * k) A) : rn (fX2_load N 18 34 (iN (48 * k)) S) (fun U => CU 18 A U ∧ FC (fun a => a = 18 ∨ (50 ≤ a ∧ a < 55)) S U) := by
  have hck : (ck 34).2 = 1920 := rfl
  have a34 : arr 34 1 1920 := ar34
  have c48 : iN (48 * k) + 48 = iN (48 * k + 48) := iN_add _ 48
  have c1 : iN (48 * k) + 1 = iN (48 * k + 1) := iN_add _ 1
  have c2 : iN (48 * k) + 2 = iN (48 * k + 2) := iN_add _ 2
  have c3 : iN (48 * k) + 3 = iN (48 * k + 3) := iN_add _ 3
  have c9 : iN (48 * k + 3) + 9 = iN (48 * k + 3 + 9) := iN_add _ 9
  have c18 : iN (48 * k + 3) + 18 = iN (48 * k + 3 + 18) := iN_add _ 18
  have c27 : iN (48 * k + 3) + 27 = iN (48 * k + 3 + 27) := iN_add _ 27
  have c36 : iN (48 * k + 3) + 36 = iN (48 * k + 3 + 36) := iN_add _ 36
  have hle : iN (48 * k + 48) ≤ Int32.ofNat 1920 := by
    have : Int32.ofNat 1920 = iN 1920 := rfl
    rw [this, iN_le (by omega) (by omega)]; omega
  have i0 : inr (iN (48 * k)) 1920 := inr_iN (by omega) (by omega)
  have i1 : inr (iN (48 * k + 1)) 1920 := inr_iN (by omega) (by omega)
  have i2 : inr (iN (48 * k + 2)) 1920 := inr_iN (by omega) (by omega)
  have x0 : ix (0 : Int32) = 0 := by decide
  have x9 : ix (9 : Int32) = 9 := by decide
  have nn : ∀ m, m < 2000 → (0 : Int32) ≤ iN m := fun m hm => by
    have : (0 : Int32) = iN 0 := rfl
    rw [this, iN_le (by omega) (by omega)]; omega
  have xx : ∀ m, m < 2000 → ix (iN m) = m := fun m hm => ix_iN (by omega)
  have gg : ∀ m, m + 9 ≤ 1920 → ((0 ≤ iN m ∧ 0 ≤ (0 : Int32) ∧ 0 ≤ (9 : Int32)) ∧ m + 9 ≤ 1920 ∧ 0 + 9 ≤ 9) := fun m hm => ⟨⟨nn m (by omega), by decide, by decide⟩, hm, by decide⟩
  simp only [fX2_load, if_neg (iN_pos (show 48 * k < 2147483648 by omega)), hck, gd_t a34, c48, if_pos hle, gd_t ob18, gd_t i0, c1, gd_t i1, c2, gd_t i2, gd_t (is18.ar (k := 0) (by omega)), gd_t (is18.ar (k := 1) (by omega)), gd_t (is18.ar (k := 2) (by omega)), gd_t (is18.ar (k := 3) (by omega)), gd_t (is18.ar (k := 4) (by omega)), c3, c9, c18, c27, c36, gd_t (gg (48 * k + 3) (by omega)), gd_t (gg (48 * k + 3 + 9) (by omega)), gd_t (gg (48 * k + 3 + 18) (by omega)), gd_t (gg (48 * k + 3 + 27) (by omega)), gd_t (gg (48 * k + 3 + 36) (by omega)), x0, x9, xx (48 * k) (by omega), xx (48 * k + 1) (by omega), xx (48 * k + 2) (by omega), xx (48 * k + 3) (by omega), xx (48 * k + 3 + 9) (by omega), xx (48 * k + 3 + 18) (by omega), xx (48 * k + 3 + 27) (by omega), xx (48 * k + 3 + 36) (by omega)]
  refine rn_u (fun T1 e1 => ?_)
  refine rn_u (fun T2 e2 => ?_)
  refine rn_u (fun T3 e3 => ?_)
  have p0 : LDj 0 A S T3 := by
    have q1 : T1.1 34 = S.1 34 := e1.2.1 34 (by decide)
    have q2 : T2.1 34 = S.1 34 := (e2.2.1 34 (by decide)).trans q1
    have q3 : T3.1 34 = S.1 34 := (e3.2.1 34 (by decide)).trans q2
    have v1 := e1.1
    have v2 := e2.1
    have v3 := e3.1
    rw [v1, q1] at v2
    rw [v2, q2] at v3
    refine ⟨⟨?_, ?_, ?_⟩, fun i hi => by omega, q3, ((FC.rfl.ur e1 (Or.inl rfl)).ur e2 (Or.inl rfl)).ur e3 (Or.inl rfl)⟩
    · rw [v3, upd_o (by decide), upd_o (by decide), upd_at]; exact h.1
    · rw [v3, upd_o (by decide), upd_at]; exact h.2.1
    · rw [v3, upd_at]; exact h.2.2.1
  refine rn_r (fun T4 e4 => ?_)
  have p1 : LDj 1 A S T4 := p0.s h (by omega) e4
  refine rn_r (fun T5 e5 => ?_)
  have p2 : LDj 2 A S T5 := p1.s h (by omega) e5
  refine rn_r (fun T6 e6 => ?_)
  have p3 : LDj 3 A S T6 := p2.s h (by omega) e6
  refine rn_r (fun T7 e7 => ?_)
  have p4 : LDj 4 A S T7 := p3.s h (by omega) e7
  refine rn_r (fun T8 e8 => ?_)
  have p5 : LDj 5 A S T8 := p4.s h (by omega) e8
  rw [rn_some]
  exact ⟨⟨p5.2.1, p5.1.1, p5.1.2.1, p5.1.2.2⟩, p5.2.2.2⟩
end ACT
