/-! ===== phase 2: the line of a cup, in the class ===== -/
section CPC
variable {N : Nat} {b : Nat → Int32} {L : Nat} {p c : Nat} {V : Cv} {A : Rw} {X : List Int32} {S : PS}
abbrev nin (c x : Nat) : Prop := x ≠ c ∧ x ≠ sr c 0 ∧ x ≠ sr (sr c 1) 0 ∧ x ≠ sr (sr c 1) 1
theorem cv_nin (h : c = 12 ∨ c = 13) : nin c 1 ∧ nin c 2 ∧ nin c 26 ∧ nin c (sr c 2) ∧ nin c (sr c 3) ∧ nin c (sr (sr c 2) 0) ∧ nin c (sr (sr c 3) 0) := by
  rcases h with rfl | rfl <;> refine ⟨?_, ?_, ?_, ?_, ?_, ?_, ?_⟩ <;> decide
theorem cv_ne (h : c = 12 ∨ c = 13) : c ≠ sr c 0 ∧ c ≠ sr (sr c 1) 0 ∧ c ≠ sr (sr c 1) 1 ∧ sr c 0 ≠ sr (sr c 1) 0 ∧ sr c 0 ≠ sr (sr c 1) 1 ∧ ¬ cuC (sr c 1) c ∧ ¬ cuC (sr c 1) (sr c 0) := by
  rcases h with rfl | rfl <;> refine ⟨?_, ?_, ?_, ?_, ?_, ?_, ?_⟩ <;> first | decide | (unfold cuC; decide)
theorem C_addCup {q : Nat} {x y z : Int32} (e9 : V.1 < 9) (t5 : TC b L q S) (hv : CVs c V A S) : rn (fX1_addCup N c x y z S) (fun T => TC b L q T ∧ CVs c (V.1 + 1, upd V.2.1 V.1 z, V.2.2) (u2 (u2 A 0 V.1 x) 1 V.1 y) T ∧ FRd c S T) := by
  obtain ⟨r1, r2, r3, -⟩ := cvR hv.1
  obtain ⟨n1, n2, n26, ns2, ns3, nc2, nc3⟩ := cv_nin hv.1
  obtain ⟨m1, m2, m3, m4, m5, m6, m7⟩ := cv_ne hv.1
  have ri := rd_in hv.1
  obtain ⟨w1, w2, w3, w4, w5, w6, w7⟩ := hv
  have in9 : inr (iN V.1) 9 := inr_iN e9 (by omega)
  have xn : ix (iN V.1) = V.1 := ix_iN (by omega)
  unfold fX1_addCup
  rw [gd_t r1, w3, if_neg (by rw [show (9 : Int32) = iN 9 from rfl, iN_le (by omega) (by omega)]; omega), gd_t r1, gd_t r2.ob, gd_t r1, gd_t (r2.ar (k := 0) (by omega)), gd_t in9, xn]
  refine rn_l (fun U1 e1 => ?_)
  have c1 : CU (sr c 1) (u2 A 0 V.1 x) U1 := by rw [e1]; exact w5.u r2 (by omega)
  have u1 : ∀ a, a ≠ sr (sr c 1) 0 → U1.1 a = S.1 a := fun a ha => by rw [e1]; exact u2_o ha
  have u1n : U1.1 c 4 = iN V.1 := by rw [u1 c m2]; exact w3
  have u12 : U1.2 = S.2 := by rw [e1]
  clear e1
  rw [gd_t r1, gd_t r2.ob, gd_t r1, gd_t (r2.ar (k := 1) (by omega)), u1n, gd_t in9, xn]
  refine rn_l (fun U2 e2 => ?_)
  have c2 : CU (sr c 1) (u2 (u2 A 0 V.1 x) 1 V.1 y) U2 := by rw [e2]; exact c1.u r2 (by omega)
  have u2' : ∀ a, a ≠ sr (sr c 1) 1 → U2.1 a = U1.1 a := fun a ha => by rw [e2]; exact u2_o ha
  have u2n : U2.1 c 4 = iN V.1 := by rw [u2' c m3]; exact u1n
  have u22 : U2.2 = U1.2 := by rw [e2]
  clear e2
  rw [gd_t r1, gd_t r1, gd_t r3, u2n, gd_t in9, xn]
  refine rn_u (fun U3 u3 => ?_)
  have u3n : U3.1 c 4 = iN V.1 := by rw [u3.2.1 c m1]; exact u2n
  rw [gd_t r1, gd_t r1, u3n, iN_1]
  refine rn_u (fun U4 u4 => ?_)
  rw [rn_some]
  have ea : ∀ a, nin c a → U4.1 a = S.1 a := fun a h => by rw [u4.2.1 a h.1, u3.2.1 a h.2.1, u2' a h.2.2.2, u1 a h.2.2.1]
  have e2s : U4.2 = S.2 := by rw [u4.2.2, u3.2.2, u22, u12]
  refine ⟨⟨t5.1.fr (ea 2 n2) (ea 26 n26), by rw [ea 1 n1]; exact t5.2.1, by rw [ea 1 n1]; exact t5.2.2⟩, ⟨w1, by rw [e2s]; exact w2, by rw [u4.1, upd_at], fun k hk => ?_, ?_, w6.cg (ea _ ns2) (ea _ nc2), w7.cg (ea _ ns3) (ea _ nc3)⟩, ⟨fun a ha => ea a ⟨fun e => ha (by rw [e]; exact ri.1), fun e => ha (by rw [e]; exact ri.2.1), fun e => ha (by rw [e]; exact ri.2.2.2.1), fun e => ha (by rw [e]; exact ri.2.2.2.2.1)⟩, by rw [e2s], fun a k _ => by rw [e2s]⟩⟩
  · show _ = upd V.2.1 V.1 z k
    rw [u4.2.1 (sr c 0) m1.symm, u3.1]
    by_cases ek : k = V.1
    · rw [ek, upd_at, upd_at]
    · rw [upd_o ek, upd_o ek, u2' (sr c 0) m5, u1 (sr c 0) m4]
      exact w4 k hk
  · exact c2.fr r2 (cs := fun a => a = c ∨ a = sr c 0) (fun a ha => by rw [u4.2.1 a (fun e => ha (Or.inl e)), u3.2.1 a (fun e => ha (Or.inr e))]) (fun a ha e => by
      rcases e with e | e
      · rw [e] at ha; exact m6 ha
      · rw [e] at ha; exact m7 ha)
theorem C_cupL (hN : 30000 ≤ N) (hn : V.1 ≤ 9) (h : TC b L p S) (hv : CVs c V A S) : rn (fX7_readCup N S) (lnC b L c S (cupR b L p V A)) := by
  obtain ⟨r1, r2, r3, r4, r5, r6, r7, r8, r9⟩ := cvR hv.1
  unfold fX7_readCup cupR
  rw [hv.2.1, lt_b, gd_t r1, hv.2.2.1, show (9 : Int32) = iN 9 from rfl]
  by_cases e9 : V.1 < 9
  · rw [if_pos (by rw [iN_lt (by omega) (by omega)]; exact e9), if_pos e9, rn_bV]
    refine rn_mono (h.take hN) (fun S1 h1 => ?_)
    rw [rn_bI]
    refine rn_mono (h1.1.num hN) (fun x2 h2 => ?_)
    rw [rn_bI]
    have F2 := h1.2.tr h2.1
    by_cases o1 : numOK b L (tto b L p) 1 30
    · rw [if_pos o1]
      obtain ⟨v2, t2⟩ := h2.2.1 o1
      rw [v2]
      refine rn_mono (t2.num hN) (fun x3 h3 => ?_)
      rw [rn_bI]
      have F3 := F2.tr h3.1
      by_cases o2 : numOK b L (tto b L (tto b L p)) 0 (tvl b L (tto b L p) - 1)
      · rw [if_pos o2]
        obtain ⟨v3, t3⟩ := h3.2.1 o2
        rw [v3]
        refine rn_mono (t3.num hN) (fun x4 h4 => ?_)
        rw [rn_bV]
        have F4 := F3.tr h4.1
        by_cases o3 : numOK b L (tto b L (tto b L (tto b L p))) 0 20
        · rw [if_pos o3]
          obtain ⟨v4, t4⟩ := h4.2.1 o3
          rw [v4]
          refine rn_mono (t4.sign hN (by decide)) (fun S5 h5 => ?_)
          have F5 := F4.tr h5.1
          by_cases o4 : sgP b L (tto b L (tto b L (tto b L (tto b L p)))) 59
          · rw [if_pos o4]
            have t5 := h5.2.1 o4
            have hv5 := hv.f12 F5
            rw [if_pos t5.2.1, hv5.2.1, lt_b, gd_t r1, rn_bV]
            refine rn_mono (C_addCup e9 t5 hv5) (fun T hT => ?_)
            rw [rn_some]
            exact ⟨hT.1, hT.2.1, (FRd.f12 F5).tr hT.2.2⟩
          · rw [if_neg o4]
            have t5 := h5.2.2 o4
            rw [if_neg (by rw [t5.1]; exact t5.2.1), rn_some]
            exact ⟨t5, FRd.f12 F5⟩
        · rw [if_neg o3]
          have t4 := h4.2.2 o3
          rw [t4.sign, rn_some, if_neg (by rw [t4.1]; exact t4.2.1), rn_some]
          exact ⟨t4, FRd.f12 F4⟩
      · rw [if_neg o2]
        have t3 := h3.2.2 o2
        rw [t3.num, rn_some, rn_bV, t3.sign, rn_some, if_neg (by rw [t3.1]; exact t3.2.1), rn_some]
        exact ⟨t3, FRd.f12 F3⟩
    · rw [if_neg o1]
      have t2 := h2.2.2 o1
      rw [t2.num, rn_some, rn_bI, t2.num, rn_some, rn_bV, t2.sign, rn_some, if_neg (by rw [t2.1]; exact t2.2.1), rn_some]
      exact ⟨t2, FRd.f12 F2⟩
  · rw [if_neg (by rw [iN_lt (by omega) (by omega)]; exact e9), if_neg e9, rn_bI]
    refine rn_mono (h.fail (by decide)) (fun r hr => ?_)
    rw [rn_some]
    exact ⟨hr.2.1, FRd.f12 hr.2.2.2⟩
end CPC
