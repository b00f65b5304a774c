/-! ===== phase 2: fallen, flow, giver ===== -/
def aFallen (V : Cv) (A : Rw) (c h : Int32) : Int32 ⊕ String := if inr c V.1 then (if btw h 0 1000000 then .inl (tiS V.2.1 A h (ix c)) else .inr nIAE) else .inr nNSE
def aFlow (V : Cv) (A : Rw) (c h : Int32) : Int32 ⊕ String := if inr c V.1 then (if btw h 0 1000000 then .inl (flS V.2.1 A h (ix c)) else .inr nIAE) else .inr nNSE
/-- who gives most, and how much -/
def gvF (A : Rw) (T : Nat → Int32) (c : Nat) : Nat → Int32 × Int32
  | 0 => (-1, 0)
  | k + 1 => if blS A k c = 0 then gvF A T c k else if (gvF A T c k).1 = -1 then (iN k, gvS A k c (T k)) else if gvS A k c (T k) ≤ (gvF A T c k).2 then gvF A T c k else (iN k, gvS A k c (T k))
theorem gvF_s {A : Rw} {T : Nat → Int32} {c k : Nat} : gvF A T c (k + 1) = if blS A k c = 0 then gvF A T c k else if (gvF A T c k).1 = -1 then (iN k, gvS A k c (T k)) else if gvS A k c (T k) ≤ (gvF A T c k).2 then gvF A T c k else (iN k, gvS A k c (T k)) := by rw [gvF]
theorem gvF_w {A : Rw} {T : Nat → Int32} {c : Nat} : ∀ k, (gvF A T c k).1 = -1 ∨ ∃ w, w < k ∧ (gvF A T c k).1 = iN w ∧ (gvF A T c k).2 = gvS A w c (T w)
  | 0 => Or.inl (by rw [gvF])
  | k + 1 => by
    have ih : (gvF A T c k).1 = -1 ∨ ∃ w, w < k + 1 ∧ (gvF A T c k).1 = iN w ∧ (gvF A T c k).2 = gvS A w c (T w) := by
      rcases gvF_w (A := A) (T := T) (c := c) k with e | ⟨w, h1, h2⟩
      · exact Or.inl e
      · exact Or.inr ⟨w, by omega, h2⟩
    rw [gvF_s]
    by_cases e : blS A k c = 0
    · rw [if_pos e]; exact ih
    · rw [if_neg e]
      by_cases e1 : (gvF A T c k).1 = -1
      · rw [if_pos e1]; exact Or.inr ⟨k, by omega, rfl, rfl⟩
      · rw [if_neg e1]
        by_cases e2 : gvS A k c (T k) ≤ (gvF A T c k).2
        · rw [if_pos e2]; exact ih
        · rw [if_neg e2]; exact Or.inr ⟨k, by omega, rfl, rfl⟩
def aGiver (V : Cv) (A : Rw) (c h : Int32) : Int32 ⊕ String := if inr c V.1 then (if btw h 0 1000000 then .inl (gvF A (tiS V.2.1 A h) (ix c) (ix c)).1 else .inr nIAE) else .inr nNSE
section FAL
variable {N : Nat} {V : Cv} {A : Rw} {S : PS}
theorem QC.reck {h : Int32} (q : QC N V A S) : rn (fX4_reckon N (S.2.2 5 3) 18 h S) (fun U => (∀ y, y < V.1 → U.1 29 y = flS V.2.1 A h y ∧ U.1 30 y = tiS V.2.1 A h y) ∧ FC (fun a => a = 29 ∨ a = 30) S U ∧ FQ S U) := by
  obtain ⟨hN, hs, hw, hcu, p, hp⟩ := q
  rw [hp.2.1]
  exact rn_mono (C_reckon hN hw hp hcu) (fun U hU => ⟨hU.1, hU.2, FQ.fc hU.2 (fun a ha => by unfold pc ceC; omega)⟩)
theorem QM.flo {h : Int32} (q : QM N V A S) : rn (fX12_flows N h S) (fun U => FLj V.2.1 A h V.1 U ∧ FM flC (fun _ => False) S U ∧ FP S U) := by
  obtain ⟨hN, hs, hw, hmr, hme⟩ := q
  exact rn_mono (M_flows hN hw hme.1 hme.2.1 hmr) (fun U hU => ⟨hU.1, hU.2, FP.fm hU.2 (fun a ha => by unfold pm; omega) (fun _ e => e.elim)⟩)
theorem C_fallen {c h : Int32} (q : QC N V A S) : rn (fX11_fallen N c h S) (fun r => r.1 = aFallen V A c h ∧ FQ S r.2) := by
  have q' := q
  obtain ⟨hN, hs, hw, hcu, p, hp⟩ := q'
  have hn := hw.1
  unfold aFallen fX11_fallen
  by_cases h1 : inr c V.1
  · obtain ⟨d, hd, rfl⟩ := inr_c h1
    have xd : ix (iN d) = d := ix_iN (by omega)
    have i9 : inr (iN d) 9 := inr_iN (by omega) (by omega)
    rw [nc_t hp hn hd, bU_l, if_pos h1]
    by_cases h2 : btw h 0 1000000
    · rw [nr_t h2, bU_l, if_pos h2, lt_b, rn_bV]
      refine rn_mono q.reck (fun U hU => ?_)
      rw [gd_t i9, rn_some, xd, (hU.1 d hd).2]
      exact ⟨rfl, hU.2.2⟩
    · rw [nr_f h2, bU_r, if_neg h2, rn_some]
      exact ⟨rfl, FQ.rfl⟩
  · rw [nc_f hp hn h1, bU_r, if_neg h1, rn_some]
    exact ⟨rfl, FQ.rfl⟩
theorem C_flow {c h : Int32} (q : QC N V A S) : rn (fX11_flow N c h S) (fun r => r.1 = aFlow V A c h ∧ FQ S r.2) := by
  have q' := q
  obtain ⟨hN, hs, hw, hcu, p, hp⟩ := q'
  have hn := hw.1
  unfold aFlow fX11_flow
  by_cases h1 : inr c V.1
  · obtain ⟨d, hd, rfl⟩ := inr_c h1
    have xd : ix (iN d) = d := ix_iN (by omega)
    have i9 : inr (iN d) 9 := inr_iN (by omega) (by omega)
    rw [nc_t hp hn hd, bU_l, if_pos h1]
    by_cases h2 : btw h 0 1000000
    · rw [nr_t h2, bU_l, if_pos h2, lt_b, rn_bV]
      refine rn_mono q.reck (fun U hU => ?_)
      rw [gd_t i9, rn_some, xd, (hU.1 d hd).1]
      exact ⟨rfl, hU.2.2⟩
    · rw [nr_f h2, bU_r, if_neg h2, rn_some]
      exact ⟨rfl, FQ.rfl⟩
  · rw [nc_f hp hn h1, bU_r, if_neg h1, rn_some]
    exact ⟨rfl, FQ.rfl⟩
theorem MAx {T : PS} {k : String → Int32} {E : String} {x : Int32} (h : k E = x) : MA k (.inr E : Int32 ⊕ String) 0 (u2 T.1 80 0 x 80 0) := by
  show u2 T.1 80 0 x 80 0 = k E
  rw [u2_at, upd_at, h]
theorem M_fallen {c h : Int32} (q : QM N V A S) : rn (fX12_fallen N c h S) (fun r => MA k2 (aFallen V A c h) r.1 (r.2.1 80 0) ∧ FP S r.2) := by
  have hF : FP S (u2 S.1 80 0 0, S.2) := zFP
  have q0 := q.fp hF
  have hz := z0 (S := S)
  unfold aFallen fX12_fallen
  refine rn_l (fun T eT => ?_)
  rw [← eT] at q0 hF hz
  clear eT
  have q1 := q0
  obtain ⟨hN, hs, hw, hmr, hme⟩ := q0
  have hn := hw.1
  have h80 : T.1 80 1 = iN V.1 := hme.1
  by_cases h1 : inr c V.1
  · obtain ⟨d, hd, rfl⟩ := inr_c h1
    have xd : ix (iN d) = d := ix_iN (by omega)
    have i9 : inr (iN d) 9 := inr_iN (by omega) (by omega)
    rw [ic_t hz hn h80 hd, bI_s, if_neg (by decide), if_pos h1]
    by_cases h2 : btw h 0 1000000
    · rw [wi_t h2, bI_s, rt_t hz (by decide), bI_s, if_neg (by decide), if_pos h2, rn_bV]
      refine rn_mono q1.flo (fun U hU => ?_)
      rw [gd_t i9, rn_some, xd, (hU.1 d hd).2.1]
      exact ⟨⟨(hU.2.1.2.1 0 id).trans hz, rfl⟩, hF.tr hU.2.2⟩
    · rw [wi_f h2, bI_s, rt_f hz (by decide), bI_s, if_pos rfl, if_neg h2, rn_some]
      exact ⟨MAx (T := T) (x := 2) (by decide), hF.tr zFP⟩
  · rw [ic_f hz hn h80 h1, bI_s, if_pos rfl, if_neg h1, rn_some]
    exact ⟨MAx (T := T) (x := 1) (by decide), hF.tr zFP⟩
theorem M_flow {c h : Int32} (q : QM N V A S) : rn (fX12_flow N c h S) (fun r => MA k2 (aFlow V A c h) r.1 (r.2.1 80 0) ∧ FP S r.2) := by
  have hF : FP S (u2 S.1 80 0 0, S.2) := zFP
  have q0 := q.fp hF
  have hz := z0 (S := S)
  unfold aFlow fX12_flow
  refine rn_l (fun T eT => ?_)
  rw [← eT] at q0 hF hz
  clear eT
  have q1 := q0
  obtain ⟨hN, hs, hw, hmr, hme⟩ := q0
  have hn := hw.1
  have h80 : T.1 80 1 = iN V.1 := hme.1
  by_cases h1 : inr c V.1
  · obtain ⟨d, hd, rfl⟩ := inr_c h1
    have xd : ix (iN d) = d := ix_iN (by omega)
    have i9 : inr (iN d) 9 := inr_iN (by omega) (by omega)
    rw [ic_t hz hn h80 hd, bI_s, if_neg (by decide), if_pos h1]
    by_cases h2 : btw h 0 1000000
    · rw [wi_t h2, bI_s, rt_t hz (by decide), bI_s, if_neg (by decide), if_pos h2, rn_bV]
      refine rn_mono q1.flo (fun U hU => ?_)
      rw [gd_t i9, rn_some, xd, (hU.1 d hd).1]
      exact ⟨⟨(hU.2.1.2.1 0 id).trans hz, rfl⟩, hF.tr hU.2.2⟩
    · rw [wi_f h2, bI_s, rt_f hz (by decide), bI_s, if_pos rfl, if_neg h2, rn_some]
      exact ⟨MAx (T := T) (x := 2) (by decide), hF.tr zFP⟩
  · rw [ic_f hz hn h80 h1, bI_s, if_pos rfl, if_neg h1, rn_some]
    exact ⟨MAx (T := T) (x := 1) (by decide), hF.tr zFP⟩
theorem C_dropsInto {n x y : Nat} {t : Int32} (hw : WF n A) (hx : x < 9) (hy : y < 9) (hcu : CU 18 A S) : fX2_dropsInto N 18 (iN x) (iN y) t S = some (gvS A x y t, S) := by
  have i9 : inr (iN x) 9 := inr_iN hx (by omega)
  have x9 : ix (iN x) = x := ix_iN (by omega)
  unfold fX2_dropsInto
  rw [gd_t is18.ob, C_toFirst hx hcu, bI_s, gd_t is18.ob, gd_t (is18.ar (k := 2) (by omega)), gd_t i9, x9, hcu.1 2 (by omega) x hx, lt_b, gd_t is18.ob, gd_t (is18.ar (k := 3) (by omega)), gd_t i9, hcu.1 3 (by omega) x hx, lt_b, gv_2 hw hx hy]
  by_cases e3 : A 3 x = iN y
  · have e2 : ¬ A 2 x = iN y := fun e2 => by
      rcases (hw.2 x hx).2.2.2.1 with q | ⟨d, q, -, -, q2, -⟩
      · rw [q] at e3; exact iN_n1 (by omega) e3.symm
      · exact q2 (e2.trans e3.symm)
    rw [if_pos e3, if_pos e3, if_neg e2, Int32.zero_add, Int32.zero_add]
  · rw [if_neg e3, if_neg e3, Int32.add_zero]
theorem C_giver {c h : Int32} (q : QC N V A S) : rn (fX11_giver N c h S) (fun r => r.1 = aGiver V A c h ∧ FQ S r.2) := by
  have q' := q
  obtain ⟨hN, hs, hw, hcu, p, hp⟩ := q'
  have hn := hw.1
  unfold aGiver fX11_giver
  by_cases h1 : inr c V.1
  · obtain ⟨d, hd, rfl⟩ := inr_c h1
    have xd : ix (iN d) = d := ix_iN (by omega)
    have d9 : d < 9 := by omega
    rw [nc_t hp hn hd, bU_l, if_pos h1]
    by_cases h2 : btw h 0 1000000
    · rw [nr_t h2, bU_l, if_pos h2, lt_b, rn_bV]
      refine rn_mono q.reck (fun U hU => ?_)
      obtain ⟨u1, u2, u3⟩ := hU
      have cU : CU 18 A U := hcu.fr is18 u2.1 (fun a ha => by unfold cuC at ha; omega)
      have key : ∀ k, k ≤ d → ∀ m, d < m + k → fX11_giver_42 N (iN d) h m (gvF A (tiS V.2.1 A h) d k).1 (gvF A (tiS V.2.1 A h) d k).2 (iN k) U = some ((gvF A (tiS V.2.1 A h) d d).1, (gvF A (tiS V.2.1 A h) d d).2, iN d, U) := by
        intro k hk m
        induction m generalizing k with
        | zero => intro h; omega
        | succ m ih =>
          intro hm
          rw [fX11_giver_42]
          by_cases e : k = d
          · rw [e, if_pos (Int32.le_refl _)]
          · have k9 : k < 9 := by omega
            have ik : inr (iN k) 9 := inr_iN k9 (by omega)
            have xk : ix (iN k) = k := ix_iN (by omega)
            obtain ⟨z, hz, bz⟩ := C_below (N := N) is18 k9 hw cU
            have nx := ih (k + 1) (by omega) (by omega)
            rw [gvF_s] at nx
            rw [if_neg (by rw [iN_le (by omega) (by omega)]; omega), hz, bI_s, has_bt bz d9, bI_s]
            by_cases e0 : blS A k d = 0
            · rw [if_pos e0] at nx
              rw [if_pos e0, lt_b, iN_1]
              exact nx
            · rw [if_neg e0] at nx
              rw [if_neg e0, gd_t ik, xk, (u1 k (by omega)).2, C_dropsInto hw k9 d9 cU, bI_s]
              by_cases e1 : (gvF A (tiS V.2.1 A h) d k).1 = -1
              · rw [if_pos e1] at nx
                rw [if_pos e1, lt_b, iN_1]
                exact nx
              · rw [if_neg e1] at nx
                rw [if_neg e1]
                by_cases e2 : gvS A k d (tiS V.2.1 A h k) ≤ (gvF A (tiS V.2.1 A h) d k).2
                · rw [if_pos e2] at nx
                  rw [if_pos e2, lt_b, iN_1]
                  exact nx
                · rw [if_neg e2] at nx
                  rw [if_neg e2, lt_b, iN_1]
                  exact nx
      have k0 := key 0 (by omega) N (by omega)
      rw [gvF] at k0
      rw [show fX11_giver_42 N (iN d) h N (-1) 0 0 U = fX11_giver_42 N (iN d) h N (-1) 0 (iN 0) U from rfl, k0]
      show rn (some (Sum.inl (gvF A (tiS V.2.1 A h) d d).1, U)) _
      rw [rn_some, xd]
      exact ⟨rfl, u3⟩
    · rw [nr_f h2, bU_r, if_neg h2, rn_some]
      exact ⟨rfl, FQ.rfl⟩
  · rw [nc_f hp hn h1, bU_r, if_neg h1, rn_some]
    exact ⟨rfl, FQ.rfl⟩
theorem M_giver {c h : Int32} (q : QM N V A S) : rn (fX12_giver N c h S) (fun r => MA k2 (aGiver V A c h) r.1 (r.2.1 80 0) ∧ FP S r.2) := by
  have hF : FP S (u2 S.1 80 0 0, S.2) := zFP
  have q0 := q.fp hF
  have hz := z0 (S := S)
  unfold aGiver fX12_giver
  refine rn_l (fun T eT => ?_)
  rw [← eT] at q0 hF hz
  clear eT
  have q1 := q0
  obtain ⟨hN, hs, hw, hmr, hme⟩ := q0
  have hn := hw.1
  have h80 : T.1 80 1 = iN V.1 := hme.1
  by_cases h1 : inr c V.1
  · obtain ⟨d, hd, rfl⟩ := inr_c h1
    have xd : ix (iN d) = d := ix_iN (by omega)
    rw [ic_t hz hn h80 hd, bI_s, if_neg (by decide), if_pos h1]
    by_cases h2 : btw h 0 1000000
    · rw [wi_t h2, bI_s, rt_t hz (by decide), bI_s, if_neg (by decide), if_pos h2, rn_bV]
      refine rn_mono q1.flo (fun U hU => ?_)
      obtain ⟨u1, u2, u3⟩ := hU
      have rU : MR 0 V.1 A U := by rw [MF_MR, u2.1 91 (by decide) (by decide)]; exact hmr
      have key : ∀ k, k ≤ d → ∀ m, d < m + k → fX12_giver_41 N (iN d) h m (gvF A (tiS V.2.1 A h) d k).1 (iN k) U = some ((gvF A (tiS V.2.1 A h) d d).1, iN d, U) := by
        intro k hk m
        induction m generalizing k with
        | zero => intro h; omega
        | succ m ih =>
          intro hm
          rw [fX12_giver_41]
          by_cases e : k = d
          · rw [e, if_pos (Int32.le_refl _)]
          · have k9 : k < V.1 := by omega
            have nx := ih (k + 1) (by omega) (by omega)
            rw [gvF_s] at nx
            rw [if_neg (by rw [iN_le (by omega) (by omega)]; omega), M_below hn k9 rU, bI_s]
            by_cases e0 : blS A k d = 0
            · rw [if_pos e0] at nx
              rw [if_pos e0, lt_b, iN_1]
              exact nx
            · rw [if_neg e0] at nx
              rw [if_neg e0]
              by_cases e1 : (gvF A (tiS V.2.1 A h) d k).1 = -1
              · rw [if_pos e1] at nx
                rw [if_pos e1, lt_b, iN_1]
                exact nx
              · rw [if_neg e1] at nx
                obtain ⟨w, w1, w2, w3⟩ := (gvF_w (A := A) (T := tiS V.2.1 A h) (c := d) k).resolve_left e1
                have gw : fX12_gives N (gvF A (tiS V.2.1 A h) d k).1 (iN d) U = some ((gvF A (tiS V.2.1 A h) d k).2, U) := by
                  rw [w2, w3]
                  exact M_gives hn (by omega) rU (u1 w (by omega)).2.2.1 (u1 w (by omega)).2.2.2
                rw [if_neg e1, M_gives hn k9 rU (u1 k (by omega)).2.2.1 (u1 k (by omega)).2.2.2, bI_s, gw, bI_s]
                by_cases e2 : gvS A k d (tiS V.2.1 A h k) ≤ (gvF A (tiS V.2.1 A h) d k).2
                · rw [if_pos e2] at nx
                  rw [if_pos e2, lt_b, iN_1]
                  exact nx
                · rw [if_neg e2] at nx
                  rw [if_neg e2, lt_b, iN_1]
                  exact nx
      have k0 := key 0 (by omega) N (by omega)
      rw [gvF] at k0
      rw [show fX12_giver_41 N (iN d) h N (-1) 0 U = fX12_giver_41 N (iN d) h N (-1) (iN 0) U from rfl, k0]
      show rn (some ((gvF A (tiS V.2.1 A h) d d).1, U)) _
      rw [rn_some, xd]
      exact ⟨⟨(u2.2.1 0 id).trans hz, rfl⟩, hF.tr u3⟩
    · rw [wi_f h2, bI_s, rt_f hz (by decide), bI_s, if_pos rfl, if_neg h2, rn_some]
      exact ⟨MAx (T := T) (x := 2) (by decide), hF.tr zFP⟩
  · rw [ic_f hz hn h80 h1, bI_s, if_pos rfl, if_neg h1, rn_some]
    exact ⟨MAx (T := T) (x := 1) (by decide), hF.tr zFP⟩
end FAL
