/-! ===== phase 2: the state that both keep ===== -/
abbrev Rw : Type := Nat → Nat → Int32
/-- rows; acts: how many, which; heard: how many, which -/
abbrev Mi : Type := Rw × (Nat × (Nat → Rw)) × (Nat × (Nat → Nat → Int32))
/-- cups, springs, leaks, frost -/
abbrev Cv : Type := Nat × (Nat → Int32) × Option (List Int32) × Option (List Int32)
/-- cave, now, image, refused, place of the fault, tape -/
abbrev Gs : Type := Cv × Mi × Option Mi × (Nat → Int32) × Int32 × Nat × (Nat → Int32)
/-- a row as the model keeps it -/
def MF (f : Nat → Int32) (b n : Nat) (A : Rw) : Prop :=
  f b = A 7 0 ∧ ∀ c, c < n → f (b + 1 + c) = A 0 c ∧ f (b + 10 + c) = A 1 c ∧ f (b + 19 + c) = A 2 c ∧ f (b + 28 + c) = A 3 c ∧ f (b + 46 + c) = A 4 c ∧ f (b + 55 + c) = A 5 c ∧ f (b + 37 + c) = A 6 c
theorem MF_MR {b n : Nat} {A : Rw} {S : PS} : MR b n A S ↔ MF (S.1 91) b n A := Iff.rfl
theorem MF.cg {f g : Nat → Int32} {b d n : Nat} {A : Rw} (h : MF f b n A) (hn : n ≤ 9) (e : ∀ k, k < 64 → g (d + k) = f (b + k)) : MF g d n A := by
  refine ⟨(e 0 (by omega)).trans h.1, fun c hc => ?_⟩
  have h2 := h.2 c hc
  have q : ∀ k, k + c < 64 → g (d + k + c) = f (b + k + c) := fun k hk => by
    have := e (k + c) hk
    rw [Nat.add_assoc, this, ← Nat.add_assoc]
  rw [q 1 (by omega), q 10 (by omega), q 19 (by omega), q 28 (by omega), q 46 (by omega), q 55 (by omega), q 37 (by omega)]
  exact h2
/-- a row as the class keeps it among the acts -/
def AR (f : Nat → Int32) (b : Nat) (A : Rw) : Prop := f b = A 7 0 ∧ bt (f (b + 1)) (A 5) ∧ bt (f (b + 2)) (A 6) ∧ ∀ k, k < 5 → ∀ c, c < 9 → f (b + 3 + 9 * k + c) = A k c
theorem AR.cg {f g : Nat → Int32} {b d : Nat} {A : Rw} (h : AR f b A) (e : ∀ k, k < 48 → g (d + k) = f (b + k)) : AR g d A := by
  refine ⟨(e 0 (by omega)).trans h.1, ?_, ?_, fun k hk c hc => ?_⟩
  · rw [e 1 (by omega)]; exact h.2.1
  · rw [e 2 (by omega)]; exact h.2.2.1
  · have := e (3 + 9 * k + c) (by omega)
    have e1 : d + 3 + 9 * k + c = d + (3 + 9 * k + c) := by omega
    have e2 : b + (3 + 9 * k + c) = b + 3 + 9 * k + c := by omega
    rw [e1, this, e2]
    exact h.2.2.2 k hk c hc
/-- the class's minutes: cups o, acts a (rows ar), heard h (cups hc, hours hh) -/
def CMi (o a ar h hc hh : Nat) (M : Mi) (S : PS) : Prop :=
  CU o M.1 S ∧ (S.1 a 1 = iN M.2.1.1 ∧ ∀ j, j < M.2.1.1 → AR (S.1 ar) (48 * j) (M.2.1.2 j)) ∧
  (S.1 h 3 = iN M.2.2.1 ∧ (∃ f, bt (S.1 h 2) f ∧ ∀ i, i < M.2.2.1 → f i = M.2.2.2 i 2) ∧ ∀ i, i < M.2.2.1 → S.1 hc i = M.2.2.2 i 0 ∧ S.1 hh i = M.2.2.2 i 1)
/-- the model's minutes: row f, acts K in g, heard H in h -/
def MMi (n : Nat) (f g h : Nat → Int32) (K H : Int32) (M : Mi) : Prop :=
  MF f 0 n M.1 ∧ (K = iN M.2.1.1 ∧ ∀ j, j < M.2.1.1 → MF g (64 * j) n (M.2.1.2 j)) ∧ (H = iN M.2.2.1 ∧ ∀ i, i < M.2.2.1 → h (3 * i) = M.2.2.2 i 0 ∧ h (3 * i + 1) = M.2.2.2 i 1 ∧ h (3 * i + 2) = M.2.2.2 i 2)
/-- minutes that can be -/
def WM (n : Nat) (M : Mi) : Prop :=
  WF n M.1 ∧ (M.2.1.1 ≤ 40 ∧ ∀ j, j < M.2.1.1 → WF n (M.2.1.2 j)) ∧ (M.2.2.1 ≤ 8 ∧ ∀ i, i < M.2.2.1 → (∃ c, c < n ∧ M.2.2.2 i 0 = iN c) ∧ (M.2.2.2 i 2 = 0 ∨ M.2.2.2 i 2 = 1))
/-- a byte: signed here, 0 to 255 there -/
def BY (x y : Int32) : Prop := (0 ≤ y.toInt ∧ y.toInt ≤ 255) ∧ (y.toInt < 128 → x = y) ∧ (128 ≤ y.toInt → x.toInt < 0)
def okr (r : Option (List Int32)) : Prop := ∀ L, r = some L → okc L 0 ∧ L.length ≤ 700
def GW (G : Gs) : Prop := SPR G.1.2.1 ∧ WM G.1.1 G.2.1 ∧ (∀ M, G.2.2.1 = some M → WM G.1.1 M) ∧ G.2.2.2.2.2.1 ≤ 700
def IC (G : Gs) (S : PS) : Prop :=
  (∃ p, CE p G.1.1 G.1.2.2.1 G.1.2.2.2 G.1.2.1 S ∧ S.2.2 1 1 = 25 - p) ∧ CMi 18 8 34 10 36 37 G.2.1 S ∧
  (match G.2.2.1 with | none => S.1 0 9 = 0 | some M => S.1 0 9 = 1 ∧ CMi 19 9 35 11 38 39 M S) ∧
  (∀ k, k < 3 → S.1 23 k = G.2.2.2.1 k) ∧ S.1 0 10 = G.2.2.2.2.1 ∧ (S.1 2 1 = iN G.2.2.2.2.2.1 ∧ ∀ k, k < G.2.2.2.2.2.1 → BY (S.1 26 k) (G.2.2.2.2.2.2 k))
def IM (G : Gs) (S : PS) : Prop :=
  ME G.1.1 0 G.1.2.2.1 G.1.2.2.2 G.1.2.1 S ∧ MMi G.1.1 (S.1 91) (S.1 92) (S.1 105) (S.1 80 33) (S.1 80 49) G.2.1 ∧
  (match G.2.2.1 with | none => S.1 80 54 = 0 | some M => S.1 80 54 = 1 ∧ MMi G.1.1 (S.1 108) (S.1 109) (S.1 110) (S.1 80 55) (S.1 80 56) M) ∧
  (∀ k, k < 3 → S.1 84 k = G.2.2.2.1 k) ∧ S.1 80 9 = G.2.2.2.2.1 ∧ (S.1 80 7 = iN G.2.2.2.2.2.1 ∧ ∀ k, k < G.2.2.2.2.2.1 → S.1 83 k = G.2.2.2.2.2.2 k)
/-- cells of the class that a question leaves -/
def pc (a : Nat) : Prop := ceC a ∨ a = 8 ∨ a = 9 ∨ a = 10 ∨ a = 11 ∨ a = 18 ∨ a = 19 ∨ a = 23 ∨ a = 26 ∨ (34 ≤ a ∧ a ≤ 39) ∨ (50 ≤ a ∧ a ≤ 54) ∨ (56 ≤ a ∧ a ≤ 60)
def PC (S T : PS) : Prop := (∀ a, pc a → T.1 a = S.1 a) ∧ (T.1 0 9 = S.1 0 9 ∧ T.1 0 10 = S.1 0 10 ∧ T.1 2 1 = S.1 2 1) ∧ (T.2.2 5 3 = S.2.2 5 3 ∧ T.2.2 1 1 = S.2.2 1 1)
/-- nothing from the model's object on is changed -/
def MS (S T : PS) : Prop := ∀ a, 80 ≤ a → T.1 a = S.1 a ∧ T.2.1 a = S.2.1 a ∧ T.2.2 a = S.2.2 a
def FQ (S T : PS) : Prop := PC S T ∧ MS S T
/-- cells of the model that a question leaves -/
def pm (a : Nat) : Prop := a = 81 ∨ a = 82 ∨ a = 83 ∨ a = 84 ∨ a = 92 ∨ a = 105 ∨ a = 108 ∨ a = 109 ∨ a = 110
def pf (k : Nat) : Prop := k = 1 ∨ k = 2 ∨ k = 3 ∨ k = 7 ∨ k = 9 ∨ k = 33 ∨ k = 40 ∨ k = 49 ∨ k = 54 ∨ k = 55 ∨ k = 56
def PM (S T : PS) : Prop := (∀ a, pm a → T.1 a = S.1 a) ∧ (∀ k, k < 64 → T.1 91 k = S.1 91 k) ∧ (∀ k, pf k → T.1 80 k = S.1 80 k)
/-- nothing of the class, nor what lies behind the model, is changed -/
def CS (S T : PS) : Prop := ∀ a, a < 80 ∨ 111 ≤ a → T.1 a = S.1 a ∧ T.2.1 a = S.2.1 a ∧ T.2.2 a = S.2.2 a
def FP (S T : PS) : Prop := PM S T ∧ CS S T
theorem PC.rfl {S : PS} : PC S S := ⟨fun _ _ => Eq.refl _, ⟨Eq.refl _, Eq.refl _, Eq.refl _⟩, Eq.refl _, Eq.refl _⟩
theorem PC.tr {S T U : PS} (h : PC S T) (h' : PC T U) : PC S U :=
  ⟨fun a ha => (h'.1 a ha).trans (h.1 a ha), ⟨h'.2.1.1.trans h.2.1.1, h'.2.1.2.1.trans h.2.1.2.1, h'.2.1.2.2.trans h.2.1.2.2⟩, h'.2.2.1.trans h.2.2.1, h'.2.2.2.trans h.2.2.2⟩
theorem MS.rfl {S : PS} : MS S S := fun _ _ => ⟨Eq.refl _, Eq.refl _, Eq.refl _⟩
theorem MS.tr {S T U : PS} (h : MS S T) (h' : MS T U) : MS S U := fun a ha => ⟨(h' a ha).1.trans (h a ha).1, (h' a ha).2.1.trans (h a ha).2.1, (h' a ha).2.2.trans (h a ha).2.2⟩
theorem FQ.rfl {S : PS} : FQ S S := ⟨PC.rfl, MS.rfl⟩
theorem FQ.tr {S T U : PS} (h : FQ S T) (h' : FQ T U) : FQ S U := ⟨h.1.tr h'.1, h.2.tr h'.2⟩
theorem PM.rfl {S : PS} : PM S S := ⟨fun _ _ => Eq.refl _, fun _ _ => Eq.refl _, fun _ _ => Eq.refl _⟩
theorem PM.tr {S T U : PS} (h : PM S T) (h' : PM T U) : PM S U := ⟨fun a ha => (h'.1 a ha).trans (h.1 a ha), fun k hk => (h'.2.1 k hk).trans (h.2.1 k hk), fun k hk => (h'.2.2 k hk).trans (h.2.2 k hk)⟩
theorem CS.rfl {S : PS} : CS S S := fun _ _ => ⟨Eq.refl _, Eq.refl _, Eq.refl _⟩
theorem CS.tr {S T U : PS} (h : CS S T) (h' : CS T U) : CS S U := fun a ha => ⟨(h' a ha).1.trans (h a ha).1, (h' a ha).2.1.trans (h a ha).2.1, (h' a ha).2.2.trans (h a ha).2.2⟩
theorem FP.rfl {S : PS} : FP S S := ⟨PM.rfl, CS.rfl⟩
theorem FP.tr {S T U : PS} (h : FP S T) (h' : FP T U) : FP S U := ⟨h.1.tr h'.1, h.2.tr h'.2⟩
/-- a frame of the class's cells that a question may change -/
theorem FQ.fc {cs : Nat → Prop} {S T : PS} (h : FC cs S T) (hc : ∀ a, cs a → ¬ pc a ∧ a ≠ 0 ∧ a ≠ 2 ∧ a < 80) : FQ S T := by
  refine ⟨⟨fun a ha => h.1 a (fun e => (hc a e).1 ha), ⟨?_, ?_, ?_⟩, by rw [h.2], by rw [h.2]⟩, fun a ha => ⟨h.1 a (fun e => by have := (hc a e).2.2.2; omega), by rw [h.2], by rw [h.2]⟩⟩
  · rw [h.1 0 (fun e => (hc 0 e).2.1 (Eq.refl 0))]
  · rw [h.1 0 (fun e => (hc 0 e).2.1 (Eq.refl 0))]
  · rw [h.1 2 (fun e => (hc 2 e).2.2.1 (Eq.refl 2))]
theorem FQ.u {S T : PS} {a k : Nat} {x : Int32} (h : FQ S T) (hc : ¬ pc a ∧ a ≠ 0 ∧ a ≠ 2 ∧ a < 80) : FQ S (u2 T.1 a k x, T.2) :=
  h.tr (FQ.fc (cs := fun b => b = a) (FC.rfl.u (Eq.refl a)) (fun b hb => by rw [hb]; exact hc))
/-- the reference to the cups at work -/
theorem FQ.r54 {S T : PS} {o : Nat} (h : FQ S T) : FQ S (T.1, T.2.1, u2R T.2.2 5 4 o) := by
  refine h.tr ⟨⟨fun _ _ => Eq.refl _, ⟨Eq.refl _, Eq.refl _, Eq.refl _⟩, ?_, ?_⟩, fun a ha => ⟨Eq.refl _, Eq.refl _, ?_⟩⟩
  · show u2R T.2.2 5 4 o 5 3 = _
    simp [u2R]
  · show u2R T.2.2 5 4 o 1 1 = _
    simp [u2R]
  · show u2R T.2.2 5 4 o a = _
    unfold u2R
    rw [if_neg (by omega)]
/-- a frame of the model's cells that a question may change -/
theorem FP.fm {cs fs : Nat → Prop} {S T : PS} (h : FM cs fs S T) (hc : ∀ a, cs a → ¬ pm a ∧ a ≠ 91 ∧ 80 ≤ a ∧ a < 111) (hf : ∀ k, fs k → ¬ pf k) : FP S T :=
  ⟨⟨fun a ha => h.1 a (by unfold pm at ha; omega) (fun e => (hc a e).1 ha), fun k _ => by rw [h.1 91 (by decide) (fun e => (hc 91 e).2.1 (Eq.refl 91))], fun k hk => h.2.1 k (fun e => hf k e hk)⟩,
   fun a ha => ⟨h.1 a (by omega) (fun e => by have := hc a e; omega), by rw [h.2.2], by rw [h.2.2]⟩⟩
theorem FP.fh {S T : PS} (h : FH 64 S T) : FP S T :=
  ⟨⟨fun a ha => h.1.1 a (by unfold pm at ha; omega) (by unfold pm at ha; unfold hcM; omega), fun k hk => h.2 k (Or.inl hk), fun k hk => h.1.2.1 k (by unfold pf at hk; unfold hfM; omega)⟩,
   fun a ha => ⟨h.1.1 a (by omega) (by unfold hcM; omega), by rw [h.1.2.2], by rw [h.1.2.2]⟩⟩
theorem FP.u {S T : PS} {a k : Nat} {x : Int32} (h : FP S T) (hc : ¬ pm a ∧ a ≠ 91 ∧ 80 < a ∧ a < 111) : FP S (u2 T.1 a k x, T.2) :=
  h.tr (FP.fm (cs := fun b => b = a) (fs := fun _ => False) (FM.rfl.u (by omega) (Eq.refl a)) (fun b hb => by rw [hb]; exact ⟨hc.1, hc.2.1, by omega, hc.2.2.2⟩) (fun _ e => e.elim))
theorem FP.f {S T : PS} {k : Nat} {x : Int32} (h : FP S T) (hc : ¬ pf k) : FP S (u2 T.1 80 k x, T.2) :=
  h.tr (FP.fm (cs := fun _ => False) (fs := fun j => j = k) (FM.rfl.f (Eq.refl k)) (fun b hb => hb.elim) (fun _ e => by rw [e]; exact hc))
theorem CU_pc {o : Nat} {A : Rw} {S T : PS} (ho : o = 18 ∨ o = 19) (h : CU o A S) (e : ∀ a, pc a → T.1 a = S.1 a) : CU o A T := by
  have hi : isCu o := by rcases ho with rfl | rfl <;> simp [isCu]
  have h1 : T.1 o = S.1 o := e o (by unfold pc; omega)
  refine ⟨fun k hk c hcc => ?_, ?_, ?_, ?_⟩
  · rw [e (sr o k) (by rw [hi.sr (by omega)]; unfold pc; omega)]
    exact h.1 k hk c hcc
  · rw [h1]; exact h.2.1
  · rw [h1]; exact h.2.2.1
  · rw [h1]; exact h.2.2.2
theorem CMi_pc {o a ar h hc hh : Nat} {M : Mi} {S T : PS} (ho : (o = 18 ∧ a = 8 ∧ ar = 34 ∧ h = 10 ∧ hc = 36 ∧ hh = 37) ∨ (o = 19 ∧ a = 9 ∧ ar = 35 ∧ h = 11 ∧ hc = 38 ∧ hh = 39)) (hm : CMi o a ar h hc hh M S) (e : ∀ a, pc a → T.1 a = S.1 a) : CMi o a ar h hc hh M T := by
  obtain ⟨h1, h2, h3⟩ := hm
  refine ⟨CU_pc (by omega) h1 e, ?_, ?_⟩
  · rw [e a (by unfold pc; omega), e ar (by unfold pc; omega)]; exact h2
  · rw [e h (by unfold pc; omega), e hc (by unfold pc; omega), e hh (by unfold pc; omega)]; exact h3
theorem CE_pc {p n : Nat} {lk fr : Option (List Int32)} {sp : Nat → Int32} {S T : PS} (h : CE p n lk fr sp S) (e : PC S T) : CE p n lk fr sp T := h.ce (fun a ha => e.1 a (Or.inl ha)) e.2.2.1
theorem IC_pc {G : Gs} {S T : PS} (h : IC G S) (e : PC S T) : IC G T := by
  obtain ⟨⟨p, h1, h2⟩, h3, h4, h5, h6, h7, h8⟩ := h
  refine ⟨⟨p, CE_pc h1 e, e.2.2.2.trans h2⟩, CMi_pc (Or.inl (by simp)) h3 e.1, ?_, ?_, e.2.1.2.1.trans h6, e.2.1.2.2.trans h7, ?_⟩
  · revert h4
    cases G.2.2.1 with
    | none => intro h4; exact e.2.1.1.trans h4
    | some M => intro h4; exact ⟨e.2.1.1.trans h4.1, CMi_pc (Or.inr (by simp)) h4.2 e.1⟩
  · rw [e.1 23 (by simp [pc])]; exact h5
  · rw [e.1 26 (by simp [pc])]; exact h8
theorem ME_pm {n w : Nat} {lk fr : Option (List Int32)} {sp : Nat → Int32} {S T : PS} (h : ME n w lk fr sp S) (e : PM S T) : ME n w lk fr sp T := by
  unfold ME
  rw [e.2.2 1 (by simp [pf]), e.2.2 2 (by simp [pf]), e.2.2 3 (by simp [pf]), e.2.2 40 (by simp [pf]), e.1 81 (by simp [pm]), e.1 82 (by simp [pm])]
  exact h
theorem IM_pm {G : Gs} {S T : PS} (hg : GW G) (h : IM G S) (e : PM S T) : IM G T := by
  obtain ⟨h1, h2, h3, h4, h5, h6, h7⟩ := h
  have hn : G.1.1 ≤ 9 := hg.2.1.1.1
  refine ⟨ME_pm h1 e, ?_, ?_, ?_, (e.2.2 9 (by simp [pf])).trans h5, (e.2.2 7 (by simp [pf])).trans h6, ?_⟩
  · rw [e.1 92 (by simp [pm]), e.1 105 (by simp [pm]), e.2.2 33 (by simp [pf]), e.2.2 49 (by simp [pf])]
    exact ⟨h2.1.cg hn (fun k hk => by rw [Nat.zero_add]; exact e.2.1 k hk), h2.2⟩
  · rw [e.1 108 (by simp [pm]), e.1 109 (by simp [pm]), e.1 110 (by simp [pm]), e.2.2 54 (by simp [pf]), e.2.2 55 (by simp [pf]), e.2.2 56 (by simp [pf])]
    exact h3
  · rw [e.1 84 (by simp [pm])]; exact h4
  · rw [e.1 83 (by simp [pm])]; exact h7
/-- whatever the class does leaves the model's part, and so the other way -/
theorem MS_pm {S T : PS} (h : MS S T) : PM S T := ⟨fun a ha => (h a (by unfold pm at ha; omega)).1, fun k _ => by rw [(h 91 (by omega)).1], fun k _ => by rw [(h 80 (by omega)).1]⟩
theorem CS_pc {S T : PS} (h : CS S T) : PC S T := by
  refine ⟨fun a ha => (h a ?_).1, ⟨?_, ?_, ?_⟩, ?_, ?_⟩
  · unfold pc ceC at ha; omega
  · rw [(h 0 (by omega)).1]
  · rw [(h 0 (by omega)).1]
  · rw [(h 2 (by omega)).1]
  · rw [(h 5 (by omega)).2.2]
  · rw [(h 1 (by omega)).2.2]
