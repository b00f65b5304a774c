/-! ===== phase 2: the depth, named ===== -/
def dpW (n : Nat) (A : Rw) : Nat → Nat → Int32
  | 0 => fun _ => 0
  | k + 1 => upd (dpW n A k) (n - 1 - k) (mxS (dpW n A k) A (n - 1 - k) k)
theorem dpW_ok {n : Nat} {A : Rw} : ∀ k, k ≤ n → DPm n A (dpW n A k) (n - k)
  | 0, _ => fun c h1 h2 => by omega
  | k + 1, hk => fun c h1 h2 => by
    have ih := dpW_ok (n := n) (A := A) k (by omega)
    rw [dpW]
    by_cases e : c = n - 1 - k
    · rw [e, upd_at, show n - 1 - (n - 1 - k) = k from by omega]
      exact mxS_cg _ (fun d h3 h4 => by rw [upd_o (by omega)])
    · rw [upd_o e, ih c (by omega) h2]
      exact mxS_cg _ (fun d h3 h4 => by rw [upd_o (by omega)])
def dpS (n : Nat) (A : Rw) (c : Nat) : Int32 := dpW n A n c
theorem dpS_ok {n : Nat} {A : Rw} : DPm n A (dpW n A n) 0 := by
  have := dpW_ok (A := A) n (Nat.le_refl n)
  rw [Nat.sub_self] at this
  exact this
theorem DPm_eq {n : Nat} {A : Rw} {V W : Nat → Int32} (hV : DPm n A V 0) (hW : DPm n A W 0) : ∀ k c, c < n → n - c ≤ k → V c = W c
  | 0, c, h2, h3 => by omega
  | k + 1, c, h2, h3 => by
    rw [hV c (by omega) h2, hW c (by omega) h2]
    exact mxS_cg _ (fun d h4 h5 => DPm_eq hV hW k d (by omega) (by omega))
section DPS
variable {N n c : Nat} {A : Rw} {S : PS}
theorem C_deepS (hN : 30000 ≤ N) (hc : c < n) (hw : WF n A) (h : CU 18 A S) : rn (fX2_deepest N 18 (iN c) S) (fun q => q.1 = dpS n A c ∧ FC (fun a => a = 55) S q.2) := by
  have hn := hw.1
  refine rn_mono (C_deep hN (by omega) hw h) (fun q hq => ?_)
  obtain ⟨⟨V, h1, h2⟩, h3⟩ := hq
  refine ⟨?_, h3⟩
  rw [h2]
  exact DP_eq hw h1 (fun d _ h5 => dpS_ok d (Nat.zero_le d) h5) n c (Nat.le_refl c) hc (by omega)
theorem M_deepS (hN : 30000 ≤ N) (hn : n ≤ 9) (hc : c < n) (hm : S.1 80 1 = iN n) (h : MR 0 n A S) : rn (fX12_deep N (iN c) S) (fun q => q.1 = dpS n A c ∧ FM (fun a => a = 97) (fun _ => False) S q.2) := by
  refine rn_mono (M_deep hN hn hc hm h) (fun q hq => ?_)
  obtain ⟨⟨V, h1, h2⟩, h3⟩ := hq
  refine ⟨?_, h3⟩
  rw [h2]
  exact DPm_eq h1 dpS_ok n c hc (by omega)
end DPS
