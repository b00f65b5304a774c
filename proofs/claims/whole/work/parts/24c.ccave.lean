/-! ===== phase 2: the class takes a cave, the good end ===== -/
section CCW
variable {N : Nat} {b : Nat → Int32} {L : Nat} {S : PS} {G : Gs}
theorem C_begin {c : Nat} {A : Rw} {X : PS} (hc : c = 12 ∨ c = 13) (hA : CU (sr c 1) A X) : rn (fX6_begin N 3 (sr c 1) X) (fun Z => CU 18 A Z ∧ Z.1 8 1 = 0 ∧ Z.1 10 3 = 0 ∧ Z.1 10 2 = X.1 10 2 ∧ FC (fun a => a = 18 ∨ (50 ≤ a ∧ a < 55) ∨ a = 8 ∨ a = 10) X Z) := by
  have e0 : sr 3 0 = 18 := rfl
  have e1 : sr 3 1 = 8 := rfl
  have e2 : sr 3 2 = 10 := rfl
  unfold fX6_begin
  rw [gd_t ob3, e0, e1, e2, gd_t is18.ob, rn_bV]
  have ne : 18 ≠ sr c 1 := by rcases hc with rfl | rfl <;> decide
  refine rn_mono (C_copy is18 (cvR hc).2.1 ne hA) (fun T hT => ?_)
  rw [gd_t ob3, gd_t ob8]
  refine rn_u (fun U u => ?_)
  rw [gd_t ob3, gd_t ob10]
  refine rn_u (fun Z z => ?_)
  rw [rn_some]
  have F : FC (fun a => a = 18 ∨ (50 ≤ a ∧ a < 55) ∨ a = 8 ∨ a = 10) X T := hT.2.mono (fun a ha => by omega)
  have FZ := (F.ur u (Or.inr (Or.inr (Or.inl rfl)))).ur z (Or.inr (Or.inr (Or.inr rfl)))
  refine ⟨(hT.1.ur is18 u (by unfold cuC; omega)).ur is18 z (by unfold cuC; omega), ?_, ?_, ?_, FZ⟩
  · rw [z.2.1 8 (by decide), u.1, upd_at]
  · rw [z.1, upd_at]
  · rw [z.1, upd_o (by decide), u.2.1 10 (by decide), hT.2.1 10 (by omega)]
theorem C_cave_s {p : Nat} {q : Cv × Rw} {T : PS} (hi : IC G S) (hp : S.2.2 5 3 = p) (hq : p = 12 ∨ p = 13) (hT : enC b L (25 - p) S (.inl q) T) : rn (lt ((u2 T.1 2 1 0, T.2) : PS) fun S7 => lt ((S7.2.2 5 3) : Nat) fun o9 =>
    lt ((S7.2.2 1 1) : Nat) fun o10 =>
    lt ((S7.1, S7.2.1, u2R S7.2.2 5 3 o10) : PS) fun S11 =>
    lt ((S11.1, S11.2.1, u2R S11.2.2 1 1 o9) : PS) fun S12 =>
    lt ((u2 S12.1 0 10 (-1), S12.2) : PS) fun S13 =>
    lt ((S13.2.2 5 3) : Nat) fun o14 =>
    gd (obj o14 1) <|
    bV (fX6_begin N 3 (sr o14 1) S13) fun S17 =>
    lt ((u2 S17.1 0 9 0, S17.2) : PS) fun S19 =>
    (some (.inl 0, S19) : Option ((Int32 ⊕ String) × PS))) (fun r => r.1 = .inl 0 ∧ IC (nCv G (.inl q)) r.2 ∧ MS S r.2) := by
  obtain ⟨⟨p', h1, h2⟩, h3, h4, h5, h6, h7, h8⟩ := hi
  obtain ⟨-, ⟨hc, v1, v2, v3, v4, v5, v6⟩, f⟩ := hT
  generalize ec : 25 - p = c at *
  refine rn_u (fun U u => ?_)
  have u5 : U.2.2 5 3 = p := by rw [u.2.2, f.2.2 5 3 (by decide)]; exact hp
  have u1 : U.2.2 1 1 = c := by rw [u.2.2]; exact v1
  rw [u5, u1, lt_b, lt_b]
  refine rn_l (fun V eV => ?_)
  refine rn_l (fun W eW => ?_)
  have w1 : W.1 = U.1 := by rw [eW, eV]
  have w2 : W.2.1 = U.2.1 := by rw [eW, eV]
  have w53 : W.2.2 5 3 = c := by rw [eW, eV]; simp [u2R]
  have w11 : W.2.2 1 1 = p := by rw [eW, eV]; simp [u2R]
  have wo : ∀ a, a ≠ 5 → a ≠ 1 → W.2.2 a = U.2.2 a := fun a a1 a2 => by
    rw [eW, eV]
    show u2R (u2R U.2.2 5 3 c) 1 1 p a = _
    rw [u2R_ne a2, u2R_ne a1]
  refine rn_u (fun X x => ?_)
  have x53 : X.2.2 5 3 = c := by rw [x.2.2]; exact w53
  rw [x53, lt_b, gd_t (cvR hc).1, rn_bV]
  have cuX : CU (sr c 1) q.2 X := v4.fr (cvR hc).2.1 (cs := fun a => a = 2 ∨ a = 0) (fun a ha => by rw [x.2.1 a (fun g => ha (Or.inr g)), w1, u.2.1 a (fun g => ha (Or.inl g))]) (fun a ha g => by
    have := (cvR hc).2.1.rg
    unfold cuC at ha
    omega)
  refine rn_mono (C_begin hc cuX) (fun Y hY => ?_)
  obtain ⟨y1, y2, y3, y4, FY⟩ := hY
  refine rn_u (fun Z z => ?_)
  rw [rn_some]
  have e2 : Z.2 = W.2 := by rw [z.2.2, FY.2, x.2.2]
  have eT : ∀ a, a ≠ 0 → a ≠ 2 → ¬ (a = 18 ∨ (50 ≤ a ∧ a < 55) ∨ a = 8 ∨ a = 10) → Z.1 a = T.1 a := fun a a1 a2 a3 => by rw [z.2.1 a a1, FY.1 a a3, x.2.1 a a1, w1, u.2.1 a a2]
  have hce : CE c q.1.1 q.1.2.2.1 q.1.2.2.2 q.1.2.1 (T.1, T.2.1, u2R T.2.2 5 3 c) := ⟨hc, by simp [u2R], v2, v3, v5.1, v6.1⟩
  have hcZ : CE c q.1.1 q.1.2.2.1 q.1.2.2.2 q.1.2.1 Z := hce.ce (fun a ha => eT a (by unfold ceC at ha; omega) (by unfold ceC at ha; omega) (by unfold ceC at ha; omega)) (by
    rw [e2, w53]; simp [u2R])
  obtain ⟨-, -, -, ⟨bf, b1, -⟩, -⟩ := h3
  refine ⟨rfl, ⟨⟨c, hcZ, by rw [e2, w11]; show p = 25 - c; omega⟩, ⟨y1.ur is18 z (by unfold cuC; omega), ⟨?_, fun j hj => absurd hj (Nat.not_lt_zero j)⟩, ?_, ⟨bf, ?_, fun j hj => absurd hj (Nat.not_lt_zero j)⟩, fun j hj => absurd hj (Nat.not_lt_zero j)⟩, ?_, fun k hk => ?_, ?_, ?_, fun k hk => absurd hk (Nat.not_lt_zero k)⟩, fun a ha => ⟨?_, ?_, ?_⟩⟩
  · show Z.1 8 1 = iN 0
    rw [z.2.1 8 (by decide), y2]; rfl
  · show Z.1 10 3 = iN 0
    rw [z.2.1 10 (by decide), y3]; rfl
  · rw [z.2.1 10 (by decide), y4, x.2.1 10 (by decide), w1, u.2.1 10 (by decide), f.1 10 (rd_pc hc (by unfold mnC; omega))]
    exact b1
  · show Z.1 0 9 = 0
    rw [z.1, upd_at]
  · show Z.1 23 k = G.2.2.2.1 k
    rw [eT 23 (by decide) (by decide) (by omega), f.1 23 (rd_pc hc (by omega))]
    exact h5 k hk
  · show Z.1 0 10 = -1
    rw [z.1, upd_o (by decide), FY.1 0 (by omega), x.1, upd_at]
  · show Z.1 2 1 = iN 0
    rw [z.2.1 2 (by decide), FY.1 2 (by omega), x.2.1 2 (by decide), w1, u.1, upd_at]; rfl
  · show Z.1 a = S.1 a
    rw [eT a (by omega) (by omega) (by omega), f.1 a (rd_pc hc (by omega))]
  · show Z.2.1 a = S.2.1 a
    rw [e2, w2, u.2.2, f.2.1]
  · show Z.2.2 a = S.2.2 a
    rw [e2, wo a (by omega) (by omega), u.2.2]; funext k; exact f.2.2 a k (by omega)
theorem C_cave {out : Fin2} (hN : 30000 ≤ N) (hg : GW G) (hi : IC G S) (hL : L ≤ G.2.2.2.2.2.1) (ok : fiOK out)
    (ho : ∀ c i f v S, i ≤ 0 → L - 0 < f → TC G.2.2.2.2.2.2 L 0 S → CVs c V0 A0 S → rn (fX7_read_27 N v (f + 1) (iN i) S) (fun r => enC G.2.2.2.2.2.2 L c S out r.2)) :
    rn (fX11_cave N (iN L) S) (fun r => r.1 = .inl (aCv out) ∧ IC (nCv G out) r.2 ∧ MS S r.2) := by
  have h7 := hg.2.2.2
  obtain ⟨p, h1, h2⟩ := hi.1
  have hT := hi.2.2.2.2.2
  have hp : p = 12 ∨ p = 13 := h1.1
  unfold fX11_cave
  rw [nr_t (show btw (iN L) 0 (S.1 2 1) from ⟨by rw [show (0 : Int32) = iN 0 from rfl, iN_le (by omega) (by omega)]; omega, by rw [hT.1, iN_le (by omega) (by omega)]; exact hL⟩), bU_l, rn_bI]
  have hc : 25 - p = 12 ∨ 25 - p = 13 := by omega
  refine rn_mono (C_read hN (by omega) hc h2 (fun k hk => hT.2 k (by omega)) ho) (fun r hr => ?_)
  obtain ⟨e1, e2⟩ := hr
  cases out with
  | inl q =>
    have z : r.1 = 0 := by rw [e1]; obtain ⟨⟨_, tc⟩, _⟩ := e2; exact tc.2.1
    have := C_cave_s (N := N) hi h1.2.1 hp e2
    rw [rn_lt] at this ⊢
    rw [if_pos z]
    exact this
  | inr q =>
    have z : r.1 = q.1 := by rw [e1]; exact e2.1.1
    have := C_cave_f hi h1.2.1 hp e2
    rw [rn_lt] at this ⊢
    have nz : ¬ r.1 = 0 := by rw [z]; exact ok
    rw [if_neg nz, z]
    exact this
end CCW
