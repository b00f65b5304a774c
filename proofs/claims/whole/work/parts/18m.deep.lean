/-! ===== phase 2: how deep ===== -/
def mxS (V : Nat → Int32) (A : Rw) (c : Nat) : Nat → Int32
  | 0 => 0
  | k + 1 => if blS A c (c + 1 + k) = 0 then mxS V A c k else if mxS V A c k < V (c + 1 + k) + 1 then V (c + 1 + k) + 1 else mxS V A c k
theorem mxS_s {V : Nat → Int32} {A : Rw} {c k : Nat} : mxS V A c (k + 1) = if blS A c (c + 1 + k) = 0 then mxS V A c k else if mxS V A c k < V (c + 1 + k) + 1 then V (c + 1 + k) + 1 else mxS V A c k := by rw [mxS]
theorem mxS_cg {V W : Nat → Int32} {A : Rw} {c : Nat} : ∀ k, (∀ d, c < d → d < c + 1 + k → V d = W d) → mxS V A c k = mxS W A c k
  | 0, _ => by rw [mxS, mxS]
  | k + 1, h => by rw [mxS_s, mxS_s, mxS_cg k (fun d h1 h2 => h d h1 (by omega)), h (c + 1 + k) (by omega) (by omega)]
theorem bl_z {n c d : Nat} {A : Rw} (hw : WF n A) (hc : c < 9) (hd : n ≤ d) (hd9 : d < 9) : blS A c d = 0 := by
  have hr := hw.2 c hc
  have m1 : ¬ ((-1 : Int32) = iN d) := fun q => by
    have := congrArg Int32.toInt q
    rw [iN_ti (by omega), show (-1 : Int32).toInt = -1 from by decide] at this
    omega
  have hn := hw.1
  unfold blS
  refine if_neg (fun q => ?_)
  rcases q with q | q
  · rcases hr.2.2.1 with e | ⟨f, e, h1, h2⟩
    · rw [e] at q; exact m1 q
    · rw [e, iN_eq (by omega) (by omega)] at q
      omega
  · rcases hr.2.2.2.1 with e | ⟨f, e, h1, h2, -⟩
    · rw [e] at q; exact m1 q
    · rw [e, iN_eq (by omega) (by omega)] at q
      omega
theorem mxS_z {n c k : Nat} {V : Nat → Int32} {A : Rw} (hw : WF n A) (hc : c < 9) (hk : n ≤ c + 1 + k) : ∀ m, c + 1 + k + m ≤ 9 → mxS V A c (k + m) = mxS V A c k
  | 0, _ => rfl
  | m + 1, h => by
    rw [← Nat.add_assoc, mxS_s, bl_z hw hc (by omega) (by omega), if_pos rfl]
    exact mxS_z hw hc hk m (by omega)
/-- what the class lays down, and the model -/
def DPc (A : Rw) (V : Nat → Int32) (lo : Nat) : Prop := ∀ c, lo ≤ c → c < 9 → V c = mxS V A c (8 - c)
def DPm (n : Nat) (A : Rw) (V : Nat → Int32) (lo : Nat) : Prop := ∀ c, lo ≤ c → c < n → V c = mxS V A c (n - 1 - c)
theorem DP_eq {n lo : Nat} {A : Rw} {V W : Nat → Int32} (hw : WF n A) (hV : DPc A V lo) (hW : DPm n A W lo) : ∀ k c, lo ≤ c → c < n → n - c ≤ k → V c = W c
  | 0, c, _, h2, h3 => by omega
  | k + 1, c, h1, h2, h3 => by
    have hn := hw.1
    rw [hV c h1 (by omega), hW c h1 h2]
    have e := mxS_z (V := V) (k := n - 1 - c) hw (show c < 9 by omega) (by omega) (9 - n) (by omega)
    rw [show n - 1 - c + (9 - n) = 8 - c from by omega] at e
    rw [e]
    exact mxS_cg _ (fun d h4 h5 => DP_eq hw hV hW k d (by omega) (by omega) (by omega))
section DEEP
variable {N n c : Nat} {A : Rw} {S : PS} {v1 : Int32}
theorem CU_55 {T : PS} (h : CU 18 A S) (F : FC (fun a => a = 55) S T) : CU 18 A T := by
  have e18 : T.1 18 = S.1 18 := F.1 18 (by omega)
  refine ⟨fun k hk d hd => ?_, ?_, ?_, ?_⟩
  · rw [F.1 (sr 18 k) (by rw [is18.sr (by omega)]; omega)]; exact h.1 k hk d hd
  · rw [e18]; exact h.2.1
  · rw [e18]; exact h.2.2.1
  · rw [e18]; exact h.2.2.2
theorem C_dp19 (hN : 30000 ≤ N) (hc : c < 9) (hw : WF n A) (h : CU 18 A S) (h0 : S.1 55 c = 0) : rn (fX2_deepest_19 N 18 v1 (iN c) N (iN (c + 1)) S) (fun q => q.2.1 55 c = mxS (S.1 55) A c (8 - c) ∧ (∀ d, d ≠ c → q.2.1 55 d = S.1 55 d) ∧ FC (fun a => a = 55) S q.2) := by
  have s5 : sr 18 5 = 55 := rfl
  refine forG (f := fun m j s => fX2_deepest_19 N 18 v1 (iN c) m (iN j) s) 9 (J := fun j U => c + 1 ≤ j ∧ U.1 55 c = mxS (S.1 55) A c (j - (c + 1)) ∧ (∀ d, d ≠ c → U.1 55 d = S.1 55 d) ∧ FC (fun a => a = 55) S U) ?_ ?_ N (c + 1) S (by omega) ⟨Nat.le_refl _, by rw [Nat.sub_self, mxS]; exact h0, fun _ _ => rfl, FC.rfl⟩ (by omega)
  · rintro m U ⟨-, g1, g2, g3⟩
    simp only [fX2_deepest_19]
    rw [if_pos (show (9 : Int32) ≤ iN 9 from Int32.le_refl _), rn_some]
    exact ⟨by rw [g1, show 9 - (c + 1) = 8 - c from by omega], g2, g3⟩
  · rintro m j U hj ⟨g0, g1, g2, g3⟩ ih
    have hii : ¬ (9 : Int32) ≤ iN j := by rw [i9l (by omega)]; omega
    have cU : CU 18 A U := CU_55 h g3
    obtain ⟨x, hx, bx⟩ := C_below (N := N) is18 hc hw cU
    have hb := bt_has bx hj
    have ic : inr (iN c) 9 := inr_iN hc (by omega)
    have ij : inr (iN j) 9 := inr_iN hj (by omega)
    have xc : ix (iN c) = c := ix_iN (by omega)
    have xj : ix (iN j) = j := ix_iN (by omega)
    have ej : j = c + 1 + (j - (c + 1)) := by omega
    have ms : mxS (S.1 55) A c (j + 1 - (c + 1)) = if blS A c j = 0 then mxS (S.1 55) A c (j - (c + 1)) else if mxS (S.1 55) A c (j - (c + 1)) < S.1 55 j + 1 then S.1 55 j + 1 else mxS (S.1 55) A c (j - (c + 1)) := by
      rw [show j + 1 - (c + 1) = (j - (c + 1)) + 1 from by omega, mxS_s, ← ej]
    have a55 : arr 55 1 9 := ⟨rfl, by decide⟩
    simp only [fX2_deepest_19]
    rw [if_neg hii, gd_t is18.ob, hx, bI_s]
    unfold fX11_has
    rw [hb]
    by_cases e : blS A c j = 0
    · rw [e, lt_b, if_neg (by decide), gd_t (Or.inl rfl), bI_s, if_pos rfl, rn_lt, iN_1]
      refine ih U ⟨by omega, ?_, g2, g3⟩
      rw [ms, if_pos e]; exact g1
    · have e1 : blS A c j = 1 := by
        unfold blS at e ⊢
        by_cases q : A 2 c = iN j ∨ A 3 c = iN j
        · exact if_pos q
        · exact absurd (if_neg q) e
      rw [e1, lt_b, if_pos rfl, gd_t (Or.inr rfl), bI_s, if_neg (by decide), s5, gd_t is18.ob, gd_t is18.ob, gd_t a55, gd_t ic, gd_t is18.ob, gd_t a55, gd_t ij, xc, xj, lt_b, gd_t a55, gd_t ic]
      refine rn_u (fun U2 u2 => ?_)
      rw [rn_lt, iN_1]
      refine ih U2 ⟨by omega, ?_, fun d hd => ?_, g3.ur u2 rfl⟩
      · rw [u2.1, upd_at, ms, if_neg e, g1, g2 j (by omega)]
      · rw [u2.1, upd_o hd]; exact g2 d hd
theorem C_dp3 (hN : 30000 ≤ N) (hw : WF n A) : ∀ k m S, c + k ≤ 9 → k < m → CU 18 A S → DPc A (S.1 55) (c + k) → rn (fX2_deepest_3 N 18 (iN c) m (iN (c + k) - 1) S) (fun q => DPc A (q.2.1 55) c ∧ FC (fun a => a = 55) S q.2)
  | 0, m, S, hc, hm, h, hD => by
    obtain ⟨m', rfl⟩ : ∃ m', m = m' + 1 := ⟨m - 1, by omega⟩
    have e : iN (c + 0) - 1 < iN c := by
      rw [lt_ti, Nat.add_zero, ti_sub (by rw [iN_ti (by omega), o_ti]; omega) (by rw [iN_ti (by omega), o_ti]; omega), iN_ti (by omega), o_ti]
      omega
    rw [fX2_deepest_3, if_pos e, rn_some]
    exact ⟨hD, FC.rfl⟩
  | k + 1, m, S, hc, hm, h, hD => by
    obtain ⟨m', rfl⟩ : ∃ m', m = m' + 1 := ⟨m - 1, by omega⟩
    have s5 : sr 18 5 = 55 := rfl
    have a55 : arr 55 1 9 := ⟨rfl, by decide⟩
    have ev : iN (c + (k + 1)) - 1 = iN (c + k) := by rw [← Nat.add_assoc, iN_s1]
    have e : ¬ iN (c + k) < iN c := by rw [iN_lt (by omega) (by omega)]; omega
    have ic : inr (iN (c + k)) 9 := inr_iN (by omega) (by omega)
    have xc : ix (iN (c + k)) = c + k := ix_iN (by omega)
    rw [ev, fX2_deepest_3, if_neg e, gd_t is18.ob, s5, gd_t a55, gd_t ic, xc]
    refine rn_u (fun T u => ?_)
    have F1 : FC (fun a => a = 55) S T := FC.rfl.ur u rfl
    rw [lt_b, iN_1, rn_bT]
    refine rn_mono (C_dp19 hN (by omega) hw (CU_55 h F1) (by rw [u.1, upd_at])) (fun q hq => ?_)
    rw [rn_lt, rn_lt, rn_lt, show iN (c + k) + (-1) = iN (c + k) - 1 from (Int32.sub_eq_add_neg _ _).symm]
    obtain ⟨q1, q2, q3⟩ := hq
    have F2 := F1.tr q3
    have old : ∀ d, d ≠ c + k → q.2.1 55 d = S.1 55 d := fun d hd => by rw [q2 d hd, u.1, upd_o hd]
    refine rn_mono (C_dp3 hN hw k m' q.2 (by omega) (by omega) (CU_55 h F2) (fun d h1 h2 => ?_)) (fun r hr => ⟨hr.1, F2.tr hr.2⟩)
    by_cases ed : d = c + k
    · subst ed
      rw [q1]
      exact mxS_cg _ (fun f h3 h4 => (q2 f (by omega)).symm)
    · rw [old d ed, hD d (by omega) h2]
      exact mxS_cg _ (fun f h3 h4 => (old f (by omega)).symm)
theorem C_deep (hN : 30000 ≤ N) (hc : c < 9) (hw : WF n A) (h : CU 18 A S) : rn (fX2_deepest N 18 (iN c) S) (fun q => (∃ V, DPc A V c ∧ q.1 = V c) ∧ FC (fun a => a = 55) S q.2) := by
  have s5 : sr 18 5 = 55 := rfl
  have a55 : arr 55 1 9 := ⟨rfl, by decide⟩
  have ic : inr (iN c) 9 := inr_iN hc (by omega)
  have xc : ix (iN c) = c := ix_iN (by omega)
  unfold fX2_deepest
  rw [rn_bT]
  have e8 : (8 : Int32) = iN (c + (9 - c)) - 1 := by rw [show c + (9 - c) = 9 from by omega]; decide
  rw [e8]
  refine rn_mono (C_dp3 hN hw (9 - c) N S (by omega) (by omega) h (fun d h1 h2 => by omega)) (fun q hq => ?_)
  rw [rn_lt, rn_lt, gd_t is18.ob, s5, gd_t a55, gd_t ic, xc, rn_some]
  exact ⟨⟨_, hq.1, rfl⟩, hq.2⟩
end DEEP
