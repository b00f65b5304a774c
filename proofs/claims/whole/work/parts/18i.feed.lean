/-! ===== phase 2: feed ===== -/
abbrev Tp : Type := Nat × (Nat → Int32)
def lay1 (P : Tp) (y : Int32) : Tp := (P.1 + 1, upd P.2 P.1 y)
def lay4 (P : Tp) (w : Int32) : Tp := lay1 (lay1 (lay1 (lay1 P ((w >>> ((24 : Int32) &&& 31)) &&& 255)) ((w >>> ((16 : Int32) &&& 31)) &&& 255)) ((w >>> ((8 : Int32) &&& 31)) &&& 255)) ((w >>> ((0 : Int32) &&& 31)) &&& 255)
theorem lay4_n {P : Tp} {w : Int32} : (lay4 P w).1 = P.1 + 4 := rfl
theorem iN_self (v : Int32) : v = iN v.toBitVec.toNat := by
  apply Int32.toBitVec_inj.mp
  show v.toBitVec = BitVec.ofNat 32 v.toBitVec.toNat
  simp
theorem by_ok (v : Int32) : BY ((v.toInt8.toInt32).toInt8.toInt32) (v &&& 255) := by
  have hm : v.toBitVec.toNat < 4294967296 := v.toBitVec.isLt
  have ev := iN_self v
  have hi : v.toInt = Int.bmod (v.toBitVec.toNat : Int) 4294967296 := by
    show v.toBitVec.toInt = _
    rw [BitVec.toInt_eq_toNat_bmod]
  have hy : (v &&& 255).toInt = ((v.toBitVec.toNat % 256 : Nat) : Int) := by
    have : v &&& 255 = iN (v.toBitVec.toNat % 256) := by
      conv => lhs; rw [ev]
      rw [show (255 : Int32) = iN 255 from rfl, iN_and]
      congr 1
      exact Nat.and_two_pow_sub_one_eq_mod _ 8
    rw [this, iN_ti (by omega)]
  have hx : ((v.toInt8.toInt32).toInt8.toInt32).toInt = Int.bmod v.toInt 256 := by
    rw [Int8.toInt_toInt32, Int32.toInt_toInt8, Int8.toInt_toInt32, Int32.toInt_toInt8]
    simp
  have hz : Int.bmod v.toInt 256 = if v.toBitVec.toNat % 256 < 128 then ((v.toBitVec.toNat % 256 : Nat) : Int) else ((v.toBitVec.toNat % 256 : Nat) : Int) - 256 := by
    rw [hi]
    simp only [Int.bmod_def]
    split <;> split <;> split <;> omega
  refine ⟨by omega, fun h => Int32.toInt_inj.mp ?_, fun h => ?_⟩
  · rw [hx, hz, hy, if_pos (by omega)]
  · rw [hx, hz, if_neg (by omega)]
    omega
section FEED
variable {N : Nat} {G : Gs} {P : Tp} {S : PS} {w : Int32}
def TCp (P : Tp) (S : PS) : Prop := S.1 2 1 = iN P.1 ∧ ∀ k, k < P.1 → BY (S.1 26 k) (P.2 k)
def TMp (P : Tp) (S : PS) : Prop := S.1 80 7 = iN P.1 ∧ ∀ k, k < P.1 → S.1 83 k = P.2 k
abbrev tcC (a : Nat) : Prop := a = 2 ∨ a = 26
theorem C_ap1 {m : Nat} {v2 : Int32} {Q : Int32 × PS → Prop} (hv : ¬ v2 < 0) (h : TCp P S) (hL : P.1 < 700) (ih : ∀ T, TCp (lay1 P ((w >>> (v2 &&& 31)) &&& 255)) T → FC tcC S T → rn (fX10_append_3 N w m (v2 + (-8)) T) Q) : rn (fX10_append_3 N w (m + 1) v2 S) Q := by
  have i7 : inr (iN P.1) 700 := inr_iN hL (by omega)
  have x7 : ix (iN P.1) = P.1 := ix_iN (by omega)
  have k7 : ¬ ((700 : Int32) ≤ S.1 2 1) := by rw [h.1, show (700 : Int32) = iN 700 from rfl, iN_le (by omega) (by omega)]; omega
  rw [fX10_append_3, if_neg hv, if_neg k7, h.1, gd_t i7, x7]
  refine rn_u (fun T1 u1 => ?_)
  refine rn_u (fun T2 u2 => ?_)
  rw [rn_lt]
  refine ih T2 ⟨?_, fun k hk => ?_⟩ ((FC.rfl.ur u1 (Or.inr rfl)).ur u2 (Or.inl rfl))
  · rw [u2.1, upd_at, u1.2.1 2 (by decide), h.1, show (1 : Int32) = iN 1 from rfl, iN_add]
    rfl
  · have hk' : k < P.1 + 1 := hk
    show BY _ (upd P.2 P.1 _ k)
    rw [u2.2.1 26 (by decide), u1.1]
    by_cases e : k = P.1
    · rw [e, upd_at, upd_at]; exact by_ok _
    · rw [upd_o e, upd_o e]; exact h.2 k (by omega)
theorem M_ap1 {m : Nat} {v2 : Int32} {Q : Int32 × PS → Prop} (hv : ¬ v2 < 0) (h : TMp P S) (hL : P.1 < 700) (ih : ∀ T, TMp (lay1 P ((w >>> (v2 &&& 31)) &&& 255)) T → FM (fun a => a = 83) (fun k => k = 7) S T → rn (fX12_lays_3 N w m (v2 + (-8)) T) Q) : rn (fX12_lays_3 N w (m + 1) v2 S) Q := by
  have i7 : inr (iN P.1) 700 := inr_iN hL (by omega)
  have x7 : ix (iN P.1) = P.1 := ix_iN (by omega)
  rw [fX12_lays_3, if_neg hv, h.1, gd_t i7, x7]
  refine rn_u (fun T1 u1 => ?_)
  refine rn_u (fun T2 u2 => ?_)
  rw [rn_lt]
  have F1 : FM (fun a => a = 83) (fun k => k = 7) S T1 := ⟨fun a _ hb => u1.2.1 a hb, fun k _ => by rw [u1.2.1 80 (by decide)], u1.2.2⟩
  refine ih T2 ⟨?_, fun k hk => ?_⟩ (F1.ur u2 rfl)
  · rw [u2.1, upd_at, u1.2.1 80 (by decide), h.1, show (1 : Int32) = iN 1 from rfl, iN_add]
    rfl
  · have hk' : k < P.1 + 1 := hk
    show _ = upd P.2 P.1 _ k
    rw [u2.2.1 83 (by decide), u1.1]
    by_cases e : k = P.1
    · rw [e, upd_at, upd_at]
    · rw [upd_o e, upd_o e]; exact h.2 k (by omega)
theorem C_append (hN : 30000 ≤ N) (h : TCp P S) (hL : P.1 + 4 ≤ 700) : rn (fX10_append N w S) (fun T => TCp (lay4 P w) T ∧ FC tcC S T) := by
  simp only [fX10_append, rn_bT, rn_lt, rn_some]
  obtain ⟨m, hm⟩ : ∃ m, N = m + 5 := ⟨N - 5, by omega⟩
  have : rn (fX10_append_3 N w (m + 5) 24 S) (fun q => TCp (lay4 P w) q.2 ∧ FC tcC S q.2) := by
    refine C_ap1 (by decide) h (by omega) (fun T1 t1 f1 => ?_)
    rw [show (24 : Int32) + (-8) = 16 from by decide]
    refine C_ap1 (by decide) t1 (by show P.1 + 1 < 700; omega) (fun T2 t2 f2 => ?_)
    rw [show (16 : Int32) + (-8) = 8 from by decide]
    refine C_ap1 (by decide) t2 (by show P.1 + 1 + 1 < 700; omega) (fun T3 t3 f3 => ?_)
    rw [show (8 : Int32) + (-8) = 0 from by decide]
    refine C_ap1 (by decide) t3 (by show P.1 + 1 + 1 + 1 < 700; omega) (fun T4 t4 f4 => ?_)
    rw [show (0 : Int32) + (-8) = -8 from by decide]
    rw [fX10_append_3, if_pos (by decide), rn_some]
    exact ⟨t4, ((f1.tr f2).tr f3).tr f4⟩
  rw [← hm] at this
  exact this
theorem M_append (hN : 30000 ≤ N) (h : TMp P S) (hL : P.1 + 4 ≤ 700) : rn (fX12_lays N w S) (fun T => TMp (lay4 P w) T ∧ FM (fun a => a = 83) (fun k => k = 7) S T) := by
  simp only [fX12_lays, rn_bT, rn_lt, rn_some]
  obtain ⟨m, hm⟩ : ∃ m, N = m + 5 := ⟨N - 5, by omega⟩
  have : rn (fX12_lays_3 N w (m + 5) 24 S) (fun q => TMp (lay4 P w) q.2 ∧ FM (fun a => a = 83) (fun k => k = 7) S q.2) := by
    refine M_ap1 (by decide) h (by omega) (fun T1 t1 f1 => ?_)
    rw [show (24 : Int32) + (-8) = 16 from by decide]
    refine M_ap1 (by decide) t1 (by show P.1 + 1 < 700; omega) (fun T2 t2 f2 => ?_)
    rw [show (16 : Int32) + (-8) = 8 from by decide]
    refine M_ap1 (by decide) t2 (by show P.1 + 1 + 1 < 700; omega) (fun T3 t3 f3 => ?_)
    rw [show (8 : Int32) + (-8) = 0 from by decide]
    refine M_ap1 (by decide) t3 (by show P.1 + 1 + 1 + 1 < 700; omega) (fun T4 t4 f4 => ?_)
    rw [show (0 : Int32) + (-8) = -8 from by decide]
    rw [fX12_lays_3, if_pos (by decide), rn_some]
    exact ⟨t4, ((f1.tr f2).tr f3).tr f4⟩
  rw [← hm] at this
  exact this
def tpG (G : Gs) (P : Tp) : Gs := (G.1, G.2.1, G.2.2.1, G.2.2.2.1, G.2.2.2.2.1, P)
theorem GW_tp (hg : GW G) (hP : P.1 ≤ 700) : GW (tpG G P) := ⟨hg.1, hg.2.1, hg.2.2.1, hP⟩
theorem IC_tp {T : PS} (hi : IC G S) (F : FC tcC S T) (hT : TCp P T) : IC (tpG G P) T := by
  obtain ⟨⟨p, h1, h2⟩, ⟨c1, c2, c3⟩, h4, h5, h6, h7, h8⟩ := hi
  have r : ∀ a, ¬ tcC a → T.1 a = S.1 a := F.1
  refine ⟨⟨p, h1.ce (fun a ha => r a (by unfold ceC at ha; omega)) (by rw [F.2]), by rw [F.2]; exact h2⟩, ⟨c1.fr is18 F.1 (fun a ha hc => by unfold cuC at ha; omega), ?_, ?_⟩, ?_, ?_, ?_, hT.1, hT.2⟩
  · rw [r 8 (by omega), r 34 (by omega)]; exact c2
  · rw [r 10 (by omega), r 36 (by omega), r 37 (by omega)]; exact c3
  · show (match G.2.2.1 with | none => T.1 0 9 = 0 | some M => T.1 0 9 = 1 ∧ CMi 19 9 35 11 38 39 M T)
    revert h4
    cases G.2.2.1 with
    | none => intro h4; rw [r 0 (by omega)]; exact h4
    | some M =>
      intro h4
      obtain ⟨d0, d1, d2, d3⟩ := h4
      refine ⟨by rw [r 0 (by omega)]; exact d0, d1.fr is19 F.1 (fun a ha hc => by unfold cuC at ha; omega), ?_, ?_⟩
      · rw [r 9 (by omega), r 35 (by omega)]; exact d2
      · rw [r 11 (by omega), r 38 (by omega), r 39 (by omega)]; exact d3
  · rw [r 23 (by omega)]; exact h5
  · rw [r 0 (by omega)]; exact h6
theorem IM_tp {T : PS} (hi : IM G S) (F : FM (fun a => a = 83) (fun k => k = 7) S T) (hT : TMp P T) : IM (tpG G P) T := by
  obtain ⟨h1, h2, h3, h4, h5, h6, h7⟩ := hi
  refine ⟨?_, ?_, ?_, ?_, ?_, hT.1, hT.2⟩
  · unfold ME
    rw [F.2.1 1 (by decide), F.2.1 2 (by decide), F.2.1 3 (by decide), F.2.1 40 (by decide), F.1 81 (by decide) (by decide), F.1 82 (by decide) (by decide)]
    exact h1
  · rw [F.1 91 (by decide) (by decide), F.1 92 (by decide) (by decide), F.1 105 (by decide) (by decide), F.2.1 33 (by decide), F.2.1 49 (by decide)]
    exact h2
  · rw [F.1 108 (by decide) (by decide), F.1 109 (by decide) (by decide), F.1 110 (by decide) (by decide), F.2.1 54 (by decide), F.2.1 55 (by decide), F.2.1 56 (by decide)]
    exact h3
  · rw [F.1 84 (by decide) (by decide)]; exact h4
  · rw [F.2.1 9 (by decide)]; exact h5
def lay20 (P : Tp) (a b c d e : Int32) : Tp := lay4 (lay4 (lay4 (lay4 (lay4 P a) b) c) d) e
def aFeed (G : Gs) : Int32 := if G.2.2.2.2.2.1 + 20 ≤ 700 then iN (G.2.2.2.2.2.1 + 20) else -1
def nFeed (G : Gs) (a b c d e : Int32) : Gs := if G.2.2.2.2.2.1 + 20 ≤ 700 then tpG G (lay20 G.2.2.2.2.2 a b c d e) else G
theorem GW_feed {a b c d e : Int32} (hg : GW G) : GW (nFeed G a b c d e) := by
  unfold nFeed
  split
  · rename_i h
    exact GW_tp hg h
  · exact hg
theorem C_feed {a b c d e : Int32} (hN : 30000 ≤ N) (hg : GW G) (hi : IC G S) : rn (fX11_feed N a b c d e S) (fun q => q.1 = aFeed G ∧ IC (nFeed G a b c d e) q.2 ∧ MS S q.2) := by
  have h7 := hg.2.2.2
  have hT : TCp G.2.2.2.2.2 S := hi.2.2.2.2.2
  have hs : S.1 2 1 + 20 = iN (G.2.2.2.2.2.1 + 20) := by rw [hT.1, show (20 : Int32) = iN 20 from rfl, iN_add]
  unfold aFeed nFeed fX11_feed
  by_cases h : G.2.2.2.2.2.1 + 20 ≤ 700
  · rw [if_pos (by rw [hs, show (700 : Int32) = iN 700 from rfl, iN_le (by omega) (by omega)]; exact h), if_pos h, if_pos h, rn_bV]
    refine rn_mono (C_append hN hT (by omega)) (fun T1 t1 => ?_)
    rw [rn_bV]
    refine rn_mono (C_append hN t1.1 (by show G.2.2.2.2.2.1 + 4 + 4 ≤ 700; omega)) (fun T2 t2 => ?_)
    rw [rn_bV]
    refine rn_mono (C_append hN t2.1 (by show G.2.2.2.2.2.1 + 4 + 4 + 4 ≤ 700; omega)) (fun T3 t3 => ?_)
    rw [rn_bV]
    refine rn_mono (C_append hN t3.1 (by show G.2.2.2.2.2.1 + 4 + 4 + 4 + 4 ≤ 700; omega)) (fun T4 t4 => ?_)
    rw [rn_bV]
    refine rn_mono (C_append hN t4.1 (by show G.2.2.2.2.2.1 + 4 + 4 + 4 + 4 + 4 ≤ 700; omega)) (fun T5 t5 => ?_)
    rw [rn_some]
    have F := (((t1.2.tr t2.2).tr t3.2).tr t4.2).tr t5.2
    exact ⟨t5.1.1, IC_tp hi F t5.1, MS_fc F (fun a ha => by omega)⟩
  · rw [if_neg (by rw [hs, show (700 : Int32) = iN 700 from rfl, iN_le (by omega) (by omega)]; exact h), if_neg h, if_neg h, rn_some]
    exact ⟨rfl, hi, MS.rfl⟩
theorem M_feed {a b c d e : Int32} (hN : 30000 ≤ N) (hg : GW G) (hi : IM G S) : rn (fX12_feed N a b c d e S) (fun q => q.1 = aFeed G ∧ IM (nFeed G a b c d e) q.2 ∧ CS S q.2) := by
  have h7 := hg.2.2.2
  have hi0 := IM_z (k := 0) hg hi
  have hC0 : CS S (u2 S.1 80 0 0, S.2) := zFP.2
  unfold aFeed nFeed fX12_feed
  refine rn_l (fun T eT => ?_)
  rw [← eT] at hi0 hC0
  clear eT
  have hT : TMp G.2.2.2.2.2 T := hi0.2.2.2.2.2
  have hs : T.1 80 7 + 20 = iN (G.2.2.2.2.2.1 + 20) := by rw [hT.1, show (20 : Int32) = iN 20 from rfl, iN_add]
  by_cases h : G.2.2.2.2.2.1 + 20 ≤ 700
  · rw [if_pos (by rw [hs, show (700 : Int32) = iN 700 from rfl, iN_le (by omega) (by omega)]; exact h), if_pos h, if_pos h, rn_bV]
    refine rn_mono (M_append hN hT (by omega)) (fun T1 t1 => ?_)
    rw [rn_bV]
    refine rn_mono (M_append hN t1.1 (by show G.2.2.2.2.2.1 + 4 + 4 ≤ 700; omega)) (fun T2 t2 => ?_)
    rw [rn_bV]
    refine rn_mono (M_append hN t2.1 (by show G.2.2.2.2.2.1 + 4 + 4 + 4 ≤ 700; omega)) (fun T3 t3 => ?_)
    rw [rn_bV]
    refine rn_mono (M_append hN t3.1 (by show G.2.2.2.2.2.1 + 4 + 4 + 4 + 4 ≤ 700; omega)) (fun T4 t4 => ?_)
    rw [rn_bV]
    refine rn_mono (M_append hN t4.1 (by show G.2.2.2.2.2.1 + 4 + 4 + 4 + 4 + 4 ≤ 700; omega)) (fun T5 t5 => ?_)
    rw [rn_some]
    have F := (((t1.2.tr t2.2).tr t3.2).tr t4.2).tr t5.2
    exact ⟨t5.1.1, IM_tp hi0 F t5.1, hC0.tr (CS_fm F (fun a ha => by omega))⟩
  · rw [if_neg (by rw [hs, show (700 : Int32) = iN 700 from rfl, iN_le (by omega) (by omega)]; exact h), if_neg h, if_neg h, rn_some]
    exact ⟨rfl, hi0, hC0⟩
end FEED
