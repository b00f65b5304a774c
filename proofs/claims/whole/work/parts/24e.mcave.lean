/-! ===== phase 2: the model takes a cave, both ends ===== -/
def PM2 (S T : PS) : Prop := (∀ a, ¬ mdC a → T.1 a = S.1 a) ∧ (∀ j, ¬ (7 ≤ j ∧ j ≤ 24) → T.1 80 j = S.1 80 j) ∧ T.1 80 7 = 0 ∧ (∀ a k, ¬ (a = 80 ∧ k = 18) → T.2.1 a k = S.2.1 a k) ∧ T.2.2 = S.2.2
theorem PM2.mk' {S T U : PS} (h : PRm S T) (f : FMd T U) : PM2 S U := by
  obtain ⟨h1, h2, h3, h4, h5⟩ := h
  obtain ⟨f1, f2, f3, f4⟩ := f
  exact ⟨fun a ha => by rw [f1 a ha]; exact h1 a (fun e => ha (Or.inl e)) (fun e => ha (by unfold mdC; omega)), fun j hj => by rw [f2 j (by omega)]; exact h2 j (by omega), by rw [f2 7 (by omega)]; exact h3, fun a k hk => by rw [f3 a k hk]; exact h4 a k hk, by rw [f4]; exact h5⟩
section MCW
variable {N : Nat} {b : Nat → Int32} {L : Nat} {S : PS} {G : Gs}
theorem M_cave_f {q : Int32 × Int32} {T : PS} (hi : IM G S) (h0 : S.1 80 0 = 0) (hm : MF0 b L q.1 q.2 T) (hp : PM2 S T) : rn (lt ((u2 T.1 84 0 ((T.1 84 0) + 1), T.2) : PS) fun S115 => (some ((S115.1 80 8), S115) : Option (Int32 × PS))) (fun r => (r.2.1 80 0 = 0 ∧ r.1 = q.1) ∧ IM (nCv G (.inr q)) r.2 ∧ CS S r.2) := by
  obtain ⟨h1, h2, h3, h4, h5, h6, h7⟩ := hi
  obtain ⟨p1, p2, p3, p4, p5⟩ := hp
  have t84 : T.1 84 = S.1 84 := p1 84 (by unfold mdC; omega)
  rw [t84]
  refine rn_u (fun Y y => ?_)
  rw [rn_some]
  have ea : ∀ a, ¬ mdC a → a ≠ 84 → Y.1 a = S.1 a := fun a ha h => by rw [y.2.1 a h]; exact p1 a ha
  have y80 : Y.1 80 = T.1 80 := y.2.1 80 (by decide)
  have ej : ∀ j, ¬ (7 ≤ j ∧ j ≤ 24) → Y.1 80 j = S.1 80 j := fun j hj => by rw [y80]; exact p2 j hj
  have y9 : Y.1 80 9 = q.2 := by rw [y80]; exact hm.2.2.2
  refine ⟨⟨by rw [ej 0 (by omega)]; exact h0, by show Y.1 80 8 = q.1; rw [y80]; exact hm.2.1⟩, ⟨?_, ?_, ?_, fun k hk => ?_, y9, ?_, fun k hk => absurd hk (Nat.not_lt_zero k)⟩, fun a ha => ⟨ea a (by unfold mdC; omega) (by omega), ?_, ?_⟩⟩
  · show ME G.1.1 0 G.1.2.2.1 G.1.2.2.2 G.1.2.1 Y
    unfold ME
    rw [ej 1 (by omega), ej 2 (by omega), ej 3 (by omega), ej 40 (by omega), ea 81 (by unfold mdC; omega) (by decide), ea 82 (by unfold mdC; omega) (by decide)]
    exact h1
  · show MMi G.1.1 (Y.1 91) (Y.1 92) (Y.1 105) (Y.1 80 33) (Y.1 80 49) G.2.1
    rw [ej 33 (by omega), ej 49 (by omega), ea 91 (by unfold mdC; omega) (by decide), ea 92 (by unfold mdC; omega) (by decide), ea 105 (by unfold mdC; omega) (by decide)]
    exact h2
  · show (match G.2.2.1 with | none => Y.1 80 54 = 0 | some M => Y.1 80 54 = 1 ∧ MMi G.1.1 (Y.1 108) (Y.1 109) (Y.1 110) (Y.1 80 55) (Y.1 80 56) M)
    rw [ej 54 (by omega), ej 55 (by omega), ej 56 (by omega), ea 108 (by unfold mdC; omega) (by decide), ea 109 (by unfold mdC; omega) (by decide), ea 110 (by unfold mdC; omega) (by decide)]
    exact h3
  · show Y.1 84 k = upd G.2.2.2.1 0 (G.2.2.2.1 0 + 1) k
    rw [y.1, t84]
    unfold upd
    rw [h4 k hk, h4 0 (by omega)]
  · show Y.1 80 7 = iN 0
    rw [y80, p3]; rfl
  · show Y.2.1 a = S.2.1 a
    rw [y.2.2]; funext k; exact p4 a k (by omega)
  · show Y.2.2 a = S.2.2 a
    rw [y.2.2, p5]
theorem M_cave_s {q : Cv × Rw} {X : List Int32} {T : PS} {v : Int32} (hN : 30000 ≤ N) (hi : IM G S) (h0 : S.1 80 0 = 0) (hw : WV q.1 q.2) (hX : X.length ≤ 1400) (hm : T.1 80 9 = -1) (hv : MVs q.1 q.2 X T) (hp : PM2 S T) : rn (lt ((u2 T.1 80 1 (T.1 80 19), T.2) : PS) fun S98 =>
        lt ((u2 S98.1 80 2 (S98.1 80 20), S98.2) : PS) fun S99 =>
        lt ((u2 S99.1 80 3 (S99.1 80 21), S99.2) : PS) fun S100 =>
        bV (fX12_copies N 85 81 S100) fun S102 =>
        bV (fX12_copies N 87 82 S102) fun S105 =>
        bT (fX12_cave_195 N v N 0 S105) fun q107 =>
        lt (q107.1 : Int32) fun x108 =>
        lt (q107.2 : PS) fun S109 =>
        lt ((u2 S109.1 80 33 0, S109.2) : PS) fun S112 =>
        lt ((u2 S112.1 80 49 0, S112.2) : PS) fun S113 =>
        lt ((u2 S113.1 80 54 0, S113.2) : PS) fun S114 =>
        (some (0, S114) : Option (Int32 × PS))) (fun r => (r.2.1 80 0 = 0 ∧ r.1 = 0) ∧ IM (nCv G (.inl q)) r.2 ∧ CS S r.2) := by
  obtain ⟨⟨-, -, -, -, h40⟩, -, -, h4, -, -, -⟩ := hi
  obtain ⟨p1, p2, p3, p4, p5⟩ := hp
  obtain ⟨v1, v2, v3, v4, v5, v6, v7⟩ := hv
  refine rn_u (fun T1 u1 => ?_)
  refine rn_u (fun T2 u2 => ?_)
  refine rn_u (fun T3 u3 => ?_)
  rw [rn_bV]
  refine rn_mono (M_copies (L := 9) hN rfl rfl ⟨rfl, by decide⟩ ⟨rfl, by decide⟩ (by omega) (by decide) (by decide) (by decide)) (fun T4 t4 => ?_)
  obtain ⟨t4, f4⟩ := t4
  rw [rn_bV]
  refine rn_mono (M_copies (L := 1400) hN rfl rfl ⟨rfl, by decide⟩ ⟨rfl, by decide⟩ (by omega) (by decide) (by decide) (by decide)) (fun T5 t5 => ?_)
  obtain ⟨t5, f5⟩ := t5
  rw [rn_bT]
  refine rn_mono (M_c195 hN) (fun r hr => ?_)
  obtain ⟨r1, f6⟩ := hr
  rw [rn_lt, rn_lt]
  refine rn_u (fun T7 u7 => ?_)
  refine rn_u (fun T8 u8 => ?_)
  refine rn_u (fun Z u9 => ?_)
  rw [rn_some]
  have e3 : ∀ a, a ≠ 80 → T3.1 a = T.1 a := fun a a1 => by rw [u3.2.1 a a1, u2.2.1 a a1, u1.2.1 a a1]
  have zr : ∀ a, a ≠ 80 → Z.1 a = r.2.1 a := fun a a1 => by rw [u9.2.1 a a1, u8.2.1 a a1, u7.2.1 a a1]
  have ea : ∀ a, a ≠ 80 → a ≠ 81 → a ≠ 82 → a ≠ 91 → Z.1 a = T.1 a := fun a a1 a2 a3 a4 => by rw [zr a a1, f6.1 a a4, f5.1 a a1 a3, f4.1 a a1 a2, e3 a a1]
  have r80 : ∀ j, r.2.1 80 j = T3.1 80 j := fun j => by rw [f6.1 80 (by decide), f5.2.1 j (fun h => h), f4.2.1 j (fun h => h)]
  have zj : ∀ j, j ≠ 33 → j ≠ 49 → j ≠ 54 → Z.1 80 j = T3.1 80 j := fun j a1 a2 a3 => by rw [u9.1, upd_o a3, u8.1, upd_o a2, u7.1, upd_o a1, r80]
  have z33 : Z.1 80 33 = 0 := by rw [u9.1, upd_o (by decide), u8.1, upd_o (by decide), u7.1, upd_at]
  have z49 : Z.1 80 49 = 0 := by rw [u9.1, upd_o (by decide), u8.1, upd_at]
  have z54 : Z.1 80 54 = 0 := by rw [u9.1, upd_at]
  have z1 : Z.1 80 1 = iN q.1.1 := by rw [zj 1 (by decide) (by decide) (by decide), u3.1, upd_o (by decide), u2.1, upd_o (by decide), u1.1, upd_at]; exact v1
  have z2 : Z.1 80 2 = T.1 80 20 := by rw [zj 2 (by decide) (by decide) (by decide), u3.1, upd_o (by decide), u2.1, upd_at, u1.1, upd_o (by decide)]
  have z3 : Z.1 80 3 = T.1 80 21 := by rw [zj 3 (by decide) (by decide) (by decide), u3.1, upd_at, u2.1, upd_o (by decide), u1.1, upd_o (by decide)]
  have zo : ∀ j, j ≠ 33 → j ≠ 49 → j ≠ 54 → j ≠ 1 → j ≠ 2 → j ≠ 3 → Z.1 80 j = T.1 80 j := fun j a1 a2 a3 a4 a5 a6 => by rw [zj j a1 a2 a3, u3.1, upd_o a6, u2.1, upd_o a5, u1.1, upd_o a4]
  have z81 : ∀ k, k < 9 → Z.1 81 k = T.1 85 k := fun k hk => by rw [zr 81 (by decide), f6.1 81 (by decide), f5.1 81 (by decide) (by decide), t4 k hk, e3 85 (by decide)]
  have z82 : ∀ k, k < 1400 → Z.1 82 k = T.1 87 k := fun k hk => by rw [zr 82 (by decide), f6.1 82 (by decide), t5 k hk, f4.1 87 (by decide) (by decide), e3 87 (by decide)]
  have z91 : ∀ k, k < 64 → Z.1 91 k = T.1 86 k := fun k hk => by rw [zr 91 (by decide), r1 k hk, f5.1 86 (by decide) (by decide), f4.1 86 (by decide) (by decide), e3 86 (by decide)]
  have e2 : Z.2 = T.2 := by rw [u9.2.2, u8.2.2, u7.2.2, f6.2, f5.2.2, f4.2.2, u3.2.2, u2.2.2, u1.2.2]
  clear u1 u2 u3 u7 u8 u9 f4 f5 f6 t4 t5 r1 zr zj r80 e3
  have hn : q.1.1 ≤ 9 := hw.1.1
  have cd : CDL (Z.1 82) 0 X := CDL_cg X 0 (fun k _ hk => z82 k (by omega)) v5
  refine ⟨⟨by rw [zo 0 (by decide) (by decide) (by decide) (by decide) (by decide) (by decide), p2 0 (by omega)]; exact h0, rfl⟩, ⟨⟨z1, fun c hc => ?_, ?_, ?_, ?_⟩, ⟨⟨?_, fun c hc => ?_⟩, ⟨by rw [z33]; rfl, fun j hj => absurd hj (Nat.not_lt_zero j)⟩, ⟨by rw [z49]; rfl, fun j hj => absurd hj (Nat.not_lt_zero j)⟩⟩, z54, fun k hk => ?_, ?_, ?_, fun k hk => absurd hk (Nat.not_lt_zero k)⟩, fun a ha => ⟨?_, ?_, ?_⟩⟩
  · have : c < q.1.1 := hc
    rw [z81 c (by omega)]; exact (v2 c hc).1
  · rw [z2]; exact RM_x v6 hX cd
  · rw [z3]; exact RM_x v7 hX cd
  · rw [zo 40 (by decide) (by decide) (by decide) (by decide) (by decide) (by decide), p2 40 (by omega)]; exact h40
  · rw [z91 0 (by omega), v3.1]; exact hw.2.2.1.symm
  · have hc : c < q.1.1 := hc
    obtain ⟨c0, c1, c2, c3, c4, -⟩ := v2 c hc
    obtain ⟨d1, d2, d3⟩ := v3.2 c (by omega)
    obtain ⟨k4, k5, k6⟩ := hw.2.2.2.1 c (by omega)
    show _ = q.2 0 c ∧ _ = q.2 1 c ∧ _ = q.2 2 c ∧ _ = q.2 3 c ∧ _ = q.2 4 c ∧ _ = q.2 5 c ∧ _ = q.2 6 c
    rw [z91 (0 + 1 + c) (by omega), z91 (0 + 10 + c) (by omega), z91 (0 + 19 + c) (by omega), z91 (0 + 28 + c) (by omega), z91 (0 + 46 + c) (by omega), z91 (0 + 55 + c) (by omega), z91 (0 + 37 + c) (by omega)]
    rw [k4, k5, k6]
    exact ⟨c1, c2, c3, c4, d2, d3, d1⟩
  · show Z.1 84 k = G.2.2.2.1 k
    rw [ea 84 (by decide) (by decide) (by decide) (by decide), p1 84 (by unfold mdC; omega)]; exact h4 k hk
  · show Z.1 80 9 = -1
    rw [zo 9 (by decide) (by decide) (by decide) (by decide) (by decide) (by decide)]; exact hm
  · show Z.1 80 7 = iN 0
    rw [zo 7 (by decide) (by decide) (by decide) (by decide) (by decide) (by decide), p3]; rfl
  · show Z.1 a = S.1 a
    rw [ea a (by omega) (by omega) (by omega) (by omega)]; exact p1 a (by unfold mdC; omega)
  · show Z.2.1 a = S.2.1 a
    rw [e2]; funext k; exact p4 a k (by omega)
  · show Z.2.2 a = S.2.2 a
    rw [e2, p5]
end MCW
