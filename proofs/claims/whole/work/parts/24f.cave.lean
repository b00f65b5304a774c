/-! ===== phase 2: cave, both ===== -/
section CBO
variable {N : Nat} {L : Nat} {S : PS} {G : Gs}
theorem M_cave {out : Fin2} (hN : 30000 ≤ N) (hg : GW G) (hi : IM G S) (hL : L ≤ G.2.2.2.2.2.1) (ok : fiOK out)
    (ho : ∀ (X : List Int32) f v1 v2 S, X.length ≤ 2 * 0 → L - 0 < f → MT0 G.2.2.2.2.2.2 L 0 S → MVs V0 A0 X S → rn (fX12_cave_102 N v1 v2 (f + 1) S) (enM G.2.2.2.2.2.2 L S out)) :
    rn (fX12_cave N (iN L) S) (fun r => (r.2.1 80 0 = 0 ∧ r.1 = aCv out) ∧ IM (nCv G out) r.2 ∧ CS S r.2) := by
  have h7 := hg.2.2.2
  have hi' : IM G (u2 S.1 80 0 0, S.2) := IM_z hg hi
  have h0 := z0 (S := S)
  have cs := (zFP (S := S) (k := 0)).2
  unfold fX12_cave
  rw [lt_b]
  generalize ((u2 S.1 80 0 0, S.2) : PS) = S1 at *
  have hT := hi'.2.2.2.2.2
  rw [if_neg (iN_pos (by omega)), hT.1, if_neg (by rw [iN_lt (by omega) (by omega)]; omega), lt_b, rt_t h0 (by decide), bI_s, if_neg (by decide)]
  refine M_prep (b := G.2.2.2.2.2.2) hN (by omega) (fun k hk => hT.2 k (by omega)) (fun v T mt mv pr => ?_)
  rw [rn_bT]
  obtain ⟨f', ef⟩ : ∃ f', N = f' + 1 := ⟨N - 1, by omega⟩
  have go := ho [] f' (iN L) v T (Nat.zero_le _) (by omega) mt mv
  rw [← ef] at go
  refine rn_mono go (fun U hU => ?_)
  cases out with
  | inl q =>
    obtain ⟨⟨p', mt'⟩, ⟨X, hX, hv⟩, f⟩ := hU
    rw [mt'.good, bI_s, if_neg (by decide)]
    exact rn_mono (M_cave_s hN hi' h0 ok hX mt'.2.2 hv (PM2.mk' pr f)) (fun r hr => ⟨hr.1, hr.2.1, cs.tr hr.2.2⟩)
  | inr q =>
    obtain ⟨mf, f⟩ := hU
    rw [mf.bad, bI_s, if_pos rfl]
    exact rn_mono (M_cave_f hi' h0 mf (PM2.mk' pr f)) (fun r hr => ⟨hr.1, hr.2.1, cs.tr hr.2.2⟩)
theorem cave_both (hN : 30000 ≤ N) (hg : GW G) (hz : GZ G) (v : Int32) : ∃ a G', GW G' ∧ GZ G' ∧ (∀ E, a = .inr E → E = nIAE) ∧ (∀ S, IC G S → rn (fX11_cave N v S) (fun r => r.1 = a ∧ IC G' r.2 ∧ MS S r.2)) ∧ (∀ T, IM G T → rn (fX12_cave N v T) (fun r => MA k1 a r.1 (r.2.1 80 0) ∧ IM G' r.2 ∧ CS T r.2)) := by
  have h7 := hg.2.2.2
  by_cases h : btw v 0 (iN G.2.2.2.2.2.1)
  · obtain ⟨L, rfl, -, hL⟩ := btw_nat (l := 0) rfl rfl (by omega) (by omega) h
    obtain ⟨out, ok, oc, om⟩ := lines_both (N := N) (b := G.2.2.2.2.2.2) (L := L) hN (by omega) (L + 1) 0 V0 A0 (Nat.zero_le _) (by omega) V0_W
    exact ⟨.inl (aCv out), nCv G out, GW_cv hg ok, GZ_cv hz ok, fun E e => (by cases e), fun S hi => C_cave hN hg hi hL ok oc, fun T hi => M_cave hN hg hi hL ok om⟩
  · refine ⟨.inr nIAE, G, hg, hz, fun E e => (by cases e; rfl), fun S hi => ?_, fun T hi => ?_⟩
    · unfold fX11_cave
      rw [hi.2.2.2.2.2.1, nr_f h, bU_r, rn_some]
      exact ⟨rfl, hi, MS.rfl⟩
    · have hi' : IM G (u2 T.1 80 0 0, T.2) := IM_z hg hi
      have h0 := z0 (S := T)
      have cs := (zFP (S := T) (k := 0)).2
      unfold fX12_cave
      rw [lt_b]
      generalize ((u2 T.1 80 0 0, T.2) : PS) = S1 at *
      have fin : rn (some ((0 : Int32), ((u2 S1.1 80 0 1, S1.2) : PS))) (fun r => MA k1 (.inr nIAE) r.1 (r.2.1 80 0) ∧ IM G r.2 ∧ CS T r.2) := by
        rw [rn_some]
        refine ⟨?_, IM_z hg hi', cs.tr zFP.2⟩
        show u2 S1.1 80 0 1 80 0 = 1
        rw [u2_at, upd_at]
      by_cases hn : v < 0
      · rw [if_pos hn, rt_f h0 (by decide), bI_s, if_pos rfl]
        exact fin
      · have hlt : iN G.2.2.2.2.2.1 < v := Int32.not_le.mp (fun e => h ⟨Int32.not_lt.mp hn, e⟩)
        rw [if_neg hn, hi'.2.2.2.2.2.1, if_pos hlt, lt_b, rt_f h0 (by decide), bI_s, if_pos rfl]
        exact fin
end CBO
