/-! ===== phase 2: count ===== -/
def mkS (f : Nat → Int32) : Nat → Int32
  | 0 => 0
  | k + 1 => if f k = 0 then mkS f k else mkS f k ||| (1 <<< (iN k &&& 31))
theorem mkS_s {f : Nat → Int32} {k : Nat} : mkS f (k + 1) = if f k = 0 then mkS f k else mkS f k ||| (1 <<< (iN k &&& 31)) := by rw [mkS]
theorem mkS_bt {f : Nat → Int32} (hf : ∀ c, c < 9 → f c = 0 ∨ f c = 1) : ∀ k, k ≤ 9 → bt (mkS f k) (fun c => if c < k then f c else 0)
  | 0, _ => by rw [mkS]; exact bt_congr bt_0 (fun c _ => if_neg (by omega))
  | k + 1, h => by
    have ih := mkS_bt hf k (by omega)
    rw [mkS_s]
    rcases hf k (by omega) with e | e
    · rw [if_pos e]
      refine bt_congr ih (fun c hc => ?_)
      by_cases ec : c = k
      · rw [ec, if_pos (by omega), if_neg (by omega), e]
      · by_cases el : c < k
        · rw [if_pos (by omega), if_pos el]
        · rw [if_neg (by omega), if_neg el]
    · rw [if_neg (by rw [e]; decide)]
      refine bt_congr (bt_or ih (by omega)) (fun c hc => ?_)
      by_cases ec : c = k
      · rw [ec, if_pos (by omega), upd_at, e]
      · rw [upd_o ec]
        by_cases el : c < k
        · rw [if_pos (by omega), if_pos el]
        · rw [if_neg (by omega), if_neg el]
theorem bt_01 {x : Int32} {f : Nat → Int32} {c : Nat} (h : bt x f) (hc : c < 9) : f c = 0 ∨ f c = 1 := by
  obtain ⟨m, -, -, hf⟩ := h
  rw [hf c hc]
  cases m.testBit c <;> simp
theorem bt_mk {x : Int32} {f : Nat → Int32} (h : bt x f) : x = mkS f 9 :=
  bt_uniq h (mkS_bt (fun _ hc => bt_01 h hc) 9 (by omega)) (fun c hc => (if_pos hc).symm)
def cntV (G : Gs) (k : Int32) : Int32 :=
  if k = 0 then iN G.1.1 else if k = 1 then G.2.1.1 7 0 else if k = 2 then mkS (G.2.1.1 5) 9 else if k = 3 then sumS (G.2.1.1 1) G.1.1 else if k = 4 then capS (G.2.1.1 4) G.1.1 else if k = 5 then mkS (rtS G.1.1 G.2.1.1) 9 else if k = 6 then alT G.1.2.1 G.2.1.1 G.1.1 else if k = 7 then iN G.2.1.2.1.1 else if k = 8 then iN G.2.1.2.2.1 else if k = 9 then iN G.2.2.2.2.2.1 else if k = 10 then G.2.2.2.1 0 else if k = 11 then G.2.2.2.1 1 else G.2.2.2.1 2
def aCount (G : Gs) (k : Int32) : Int32 ⊕ String := if btw k 0 12 then .inl (cntV G k) else .inr nNSE
section CNT
variable {N : Nat} {G : Gs} {S : PS}
theorem C_count {k : Int32} (hN : 30000 ≤ N) (hg : GW G) (h : IC G S) : rn (fX11_count N k S) (fun r => r.1 = aCount G k ∧ FQ S r.2) := by
  obtain ⟨⟨p, hp, -⟩, h3, h4, h5, h6, h7, h8⟩ := h
  have hw := hg.2.1.1
  have hn := hw.1
  have hcu := h3.1
  have po := p_ob hp.1
  unfold aCount fX11_count
  by_cases h2 : btw k 0 12
  · rw [nw_t h2, bU_l, if_pos h2]
    unfold cntV
    by_cases k0 : k = 0
    · rw [if_pos k0, if_pos k0, hp.2.1, lt_b, gd_t po.1, rn_some, hp.2.2.1]; exact ⟨rfl, FQ.rfl⟩
    rw [if_neg k0, if_neg k0]
    by_cases k1 : k = 1
    · rw [if_pos k1, if_pos k1, rn_some, hcu.2.1]; exact ⟨rfl, FQ.rfl⟩
    rw [if_neg k1, if_neg k1]
    by_cases k2 : k = 2
    · rw [if_pos k2, if_pos k2, rn_some]; exact ⟨congrArg Sum.inl (bt_mk hcu.2.2.1), FQ.rfl⟩
    rw [if_neg k2, if_neg k2]
    by_cases k3 : k = 3
    · rw [if_pos k3, if_pos k3, C_fillAll hN is18 hw hcu, bI_s, rn_some]; exact ⟨rfl, FQ.rfl⟩
    rw [if_neg k3, if_neg k3]
    by_cases k4 : k = 4
    · rw [if_pos k4, if_pos k4, C_tipsAll hN is18 hw hcu, bI_s, rn_some]; exact ⟨rfl, FQ.rfl⟩
    rw [if_neg k4, if_neg k4]
    by_cases k5 : k = 5
    · obtain ⟨x, ex, bx⟩ := C_roots hN hw hcu
      have bx' : x = mkS (rtS G.1.1 G.2.1.1) 9 := bt_mk bx
      rw [if_pos k5, if_pos k5, hp.2.1, lt_b, gd_t po.1, hp.2.2.1, ex, bI_s, rn_some]; exact ⟨congrArg Sum.inl bx', FQ.rfl⟩
    rw [if_neg k5, if_neg k5]
    by_cases k6 : k = 6
    · rw [if_pos k6, if_pos k6, C_alike hN hn hp hcu, bI_s, rn_some]; exact ⟨rfl, FQ.rfl⟩
    rw [if_neg k6, if_neg k6]
    by_cases k7 : k = 7
    · rw [if_pos k7, if_pos k7, rn_some, h3.2.1.1]; exact ⟨rfl, FQ.rfl⟩
    rw [if_neg k7, if_neg k7]
    by_cases k8 : k = 8
    · rw [if_pos k8, if_pos k8, rn_some, h3.2.2.1]; exact ⟨rfl, FQ.rfl⟩
    rw [if_neg k8, if_neg k8]
    by_cases k9 : k = 9
    · rw [if_pos k9, if_pos k9, rn_some, h7]; exact ⟨rfl, FQ.rfl⟩
    rw [if_neg k9, if_neg k9]
    by_cases k10 : k = 10
    · rw [if_pos k10, if_pos k10, rn_some, h5 0 (by omega)]; exact ⟨rfl, FQ.rfl⟩
    rw [if_neg k10, if_neg k10]
    by_cases k11 : k = 11
    · rw [if_pos k11, if_pos k11, rn_some, h5 1 (by omega)]; exact ⟨rfl, FQ.rfl⟩
    rw [if_neg k11, if_neg k11, rn_some, h5 2 (by omega)]; exact ⟨rfl, FQ.rfl⟩
  · rw [nw_f h2, bU_r, if_neg h2, rn_some]
    exact ⟨rfl, FQ.rfl⟩
theorem M_count {k : Int32} (hN : 30000 ≤ N) (hg : GW G) (hgz : GZ G) (h : IM G S) : rn (fX12_count N k S) (fun r => MA k1 (aCount G k) r.1 (r.2.1 80 0) ∧ FP S r.2) := by
  have hF : FP S (u2 S.1 80 0 0, S.2) := zFP
  have q0 := IM_pm hg h hF.1
  have hz := z0 (S := S)
  unfold aCount fX12_count
  refine rn_l (fun T eT => ?_)
  rw [← eT] at q0 hF hz
  clear eT h
  obtain ⟨hme, h3, h4, h5, h6, h7, h8⟩ := q0
  have hw := hg.2.1.1
  have hn := hw.1
  have hmr : MR 0 G.1.1 G.2.1.1 T := MF_MR.mpr h3.1
  have h80 : T.1 80 1 = iN G.1.1 := hme.1
  have bad : MA k1 (.inr nNSE : Int32 ⊕ String) 0 (u2 T.1 80 0 1 80 0) := by
    show u2 T.1 80 0 1 80 0 = 1
    rw [u2_at, upd_at]
  by_cases h2 : btw k 0 12
  · rw [wi_t h2, bI_s, rt_t hz (by decide), bI_s, if_neg (by decide), if_pos h2]
    unfold cntV
    by_cases k0 : k = 0
    · rw [if_pos k0, if_pos k0, rn_some, h80]; exact ⟨⟨hz, rfl⟩, hF⟩
    rw [if_neg k0, if_neg k0]
    by_cases k1 : k = 1
    · rw [if_pos k1, if_pos k1, rn_some, hmr.1]; exact ⟨⟨hz, rfl⟩, hF⟩
    rw [if_neg k1, if_neg k1]
    by_cases k2 : k = 2
    · obtain ⟨x, bx, ex⟩ := M_plugd hN hw h80 hmr
      have e2 : x = mkS (G.2.1.1 5) 9 := bt_mk (bt_congr bx (fun c hc => by
        by_cases e : c < G.1.1
        · rw [if_pos e]
        · rw [if_neg e]; exact hgz.1.1 c (by omega) hc))
      rw [if_pos k2, if_pos k2, ex, bI_s, rn_some]; exact ⟨⟨hz, e2⟩, hF⟩
    rw [if_neg k2, if_neg k2]
    by_cases k3 : k = 3
    · rw [if_pos k3, if_pos k3, show (0 : Int32) = iN 0 from rfl, M_fillAll hN (by omega) hw h80 hmr, bI_s, rn_some]; exact ⟨⟨hz, rfl⟩, hF⟩
    rw [if_neg k3, if_neg k3]
    by_cases k4 : k = 4
    · rw [if_pos k4, if_pos k4, show (0 : Int32) = iN 0 from rfl, M_tipsAll hN (by omega) hw h80 hmr, bI_s, rn_some]; exact ⟨⟨hz, rfl⟩, hF⟩
    rw [if_neg k4, if_neg k4]
    by_cases k5 : k = 5
    · obtain ⟨x, bx, ex⟩ := M_roots hN hw h80 hmr
      have e5 := bt_mk bx
      rw [if_pos k5, if_pos k5, ex, bI_s, rn_some]; exact ⟨⟨hz, e5⟩, hF⟩
    rw [if_neg k5, if_neg k5]
    by_cases k6 : k = 6
    · rw [if_pos k6, if_pos k6, M_alike hN hn h80 hme.2.1 hmr, bI_s, rn_some]; exact ⟨⟨hz, rfl⟩, hF⟩
    rw [if_neg k6, if_neg k6]
    by_cases k7 : k = 7
    · rw [if_pos k7, if_pos k7, rn_some, h3.2.1.1]; exact ⟨⟨hz, rfl⟩, hF⟩
    rw [if_neg k7, if_neg k7]
    by_cases k8 : k = 8
    · rw [if_pos k8, if_pos k8, rn_some, h3.2.2.1]; exact ⟨⟨hz, rfl⟩, hF⟩
    rw [if_neg k8, if_neg k8]
    by_cases k9 : k = 9
    · rw [if_pos k9, if_pos k9, rn_some, h7]; exact ⟨⟨hz, rfl⟩, hF⟩
    rw [if_neg k9, if_neg k9]
    by_cases k10 : k = 10
    · have i3 : inr (k - 10) 3 := by rw [k10]; decide
      have x3 : ix (k - 10) = 0 := by rw [k10]; decide
      rw [if_pos k10, gd_t i3, rn_some, x3, h5 0 (by omega)]; exact ⟨⟨hz, rfl⟩, hF⟩
    rw [if_neg k10]
    by_cases k11 : k = 11
    · have i3 : inr (k - 10) 3 := by rw [k11]; decide
      have x3 : ix (k - 10) = 1 := by rw [k11]; decide
      rw [if_pos k11, gd_t i3, rn_some, x3, h5 1 (by omega)]; exact ⟨⟨hz, rfl⟩, hF⟩
    rw [if_neg k11]
    have k12 : k = 12 := by
      obtain ⟨m, rfl, m1, m2⟩ := btw_nat (l := 0) (h := 12) rfl rfl (by omega) (by omega) h2
      have q : ∀ j : Nat, j < 2147483648 → iN m ≠ iN j → m ≠ j := fun j _ a b => a (by rw [b])
      have q0 := q 0 (by omega) k0
      have q1 := q 1 (by omega) k1
      have q2 := q 2 (by omega) k2
      have q3 := q 3 (by omega) k3
      have q4 := q 4 (by omega) k4
      have q5 := q 5 (by omega) k5
      have q6 := q 6 (by omega) k6
      have q7 := q 7 (by omega) k7
      have q8 := q 8 (by omega) k8
      have q9 := q 9 (by omega) k9
      have q10 := q 10 (by omega) k10
      have q11 := q 11 (by omega) k11
      have : m = 12 := by omega
      rw [this]
      rfl
    have i3 : inr (k - 10) 3 := by rw [k12]; decide
    have x3 : ix (k - 10) = 2 := by rw [k12]; decide
    rw [gd_t i3, rn_some, x3, h5 2 (by omega)]; exact ⟨⟨hz, rfl⟩, hF⟩
  · rw [wi_f h2, bI_s, rt_f hz (by decide), bI_s, if_pos rfl, if_neg h2, rn_some]
    exact ⟨bad, hF.tr zFP⟩
end CNT
