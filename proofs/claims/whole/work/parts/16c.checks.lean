/-! ===== phase 2: what calls are refused by; one question on both sides ===== -/
theorem lt_b {α β : Type} {x : α} {f : α → β} : lt x f = f x := rfl
theorem bI_s {β : Type} {x : Int32} {S : PS} {f : Int32 → PS → Option β} : bI (some (x, S)) f = f x S := rfl
theorem lg_eq (x : Int64) : lg_cmp x x = 0 := by
  unfold lg_cmp
  rw [if_neg (fun h : x < x => Int64.lt_irrefl h), if_pos rfl]
theorem inr_c {x : Int32} {n : Nat} (h : inr x n) : ∃ c, c < n ∧ x = iN c := by
  refine ⟨ix x, ?_, iN_of h.1⟩
  have h1 : ((ix x : Nat) : Int) = x.toInt := Int.toNat_of_nonneg h.1
  have := h.2
  omega
section CK
variable {N n p : Nat} {lk fr : Option (List Int32)} {sp : Nat → Int32} {S : PS}
theorem nc_t {c : Nat} (h : CE p n lk fr sp S) (hn : n ≤ 9) (hc : c < n) : fX11_needCup N (iN c) S = some (.inl (), S) := by
  unfold fX11_needCup
  rw [if_neg (iN_pos (by omega)), lt_b, h.2.1, gd_t (p_ob h.1).1, h.2.2.1, if_pos (by rw [iN_lt (by omega) (by omega)]; exact hc)]
theorem nc_f {x : Int32} (h : CE p n lk fr sp S) (hn : n ≤ 9) (hc : ¬ inr x n) : fX11_needCup N x S = some (.inr nNSE, S) := by
  unfold fX11_needCup
  by_cases h0 : x < 0
  · rw [if_pos h0]
  · rw [if_neg h0, lt_b, h.2.1, gd_t (p_ob h.1).1, h.2.2.1, if_neg]
    intro hh
    apply hc
    rw [lt_ti, z_ti] at h0
    rw [lt_ti, iN_ti (by omega)] at hh
    exact ⟨by omega, hh⟩
/-- a number within bounds -/
abbrev btw (x lo hi : Int32) : Prop := lo ≤ x ∧ x ≤ hi
theorem nw_t {x l : Int32} (h : btw x 0 l) : fX11_needWhat N x l S = some (.inl (), S) := by
  unfold fX11_needWhat
  rw [if_neg (Int32.not_lt.mpr h.1), if_pos h.2]
theorem nw_f {x l : Int32} (h : ¬ btw x 0 l) : fX11_needWhat N x l S = some (.inr nNSE, S) := by
  unfold fX11_needWhat
  by_cases h0 : x < 0
  · rw [if_pos h0]
  · rw [if_neg h0, if_neg (fun e => h ⟨Int32.not_lt.mp h0, e⟩)]
theorem nr_t {x lo hi : Int32} (h : btw x lo hi) : fX11_needRange N x lo hi S = some (.inl (), S) := by
  unfold fX11_needRange
  rw [if_neg (Int32.not_lt.mpr h.1), if_pos h.2]
theorem nr_f {x lo hi : Int32} (h : ¬ btw x lo hi) : fX11_needRange N x lo hi S = some (.inr nIAE, S) := by
  unfold fX11_needRange
  by_cases h0 : x < lo
  · rw [if_pos h0]
  · rw [if_neg h0, if_neg (fun e => h ⟨Int32.not_lt.mp h0, e⟩)]
/-- bits of cups -/
abbrev bcu (n : Nat) (x : Int32) : Prop := 0 ≤ x ∧ x < 1 <<< (iN n &&& 31)
theorem ns_t {x : Int32} (h : CE p n lk fr sp S) (hb : bcu n x) : fX11_needCups N x S = some (.inl (), S) := by
  unfold fX11_needCups
  rw [if_neg (Int32.not_lt.mpr hb.1), lt_b, h.2.1, gd_t (p_ob h.1).1, h.2.2.1, if_pos hb.2]
theorem ns_f {x : Int32} (h : CE p n lk fr sp S) (hb : ¬ bcu n x) : fX11_needCups N x S = some (.inr nIAE, S) := by
  unfold fX11_needCups
  by_cases h0 : x < 0
  · rw [if_pos h0]
  · rw [if_neg h0, lt_b, h.2.1, gd_t (p_ob h.1).1, h.2.2.1, if_neg (fun e => hb ⟨Int32.not_lt.mp h0, e⟩)]
theorem rt_t {x k : Int32} (h0 : S.1 80 0 = 0) (hx : x ≠ 0) : fX12_right N x k S = some (1, S) := by
  unfold fX12_right
  rw [if_pos h0, if_neg hx]
  unfold lt
  rw [if_pos h0]
  exact gd_t (Or.inr rfl)
theorem rt_f {k : Int32} (h0 : S.1 80 0 = 0) (hk : k ≠ 0) : fX12_right N 0 k S = some (0, (u2 S.1 80 0 k, S.2)) := by
  unfold fX12_right
  rw [if_pos h0, if_pos rfl]
  unfold lt
  show gd (b01 (if u2 S.1 80 0 k 80 0 = 0 then 1 else 0)) (some ((if u2 S.1 80 0 k 80 0 = 0 then 1 else 0), (u2 S.1 80 0 k, S.2))) = _
  rw [u2_at, upd_at, if_neg hk]
  exact gd_t (Or.inl rfl)
theorem wi_t {x lo hi : Int32} (h : btw x lo hi) : fX12_within N x lo hi S = some (1, S) := by
  unfold fX12_within lt
  rw [if_neg (Int32.not_lt.mpr h.1), if_neg (Int32.not_lt.mpr h.2)]
  exact gd_t (Or.inr rfl)
theorem wi_f {x lo hi : Int32} (h : ¬ btw x lo hi) : fX12_within N x lo hi S = some (0, S) := by
  unfold fX12_within lt
  by_cases h0 : x < lo
  · rw [if_pos h0]
    exact gd_t (Or.inl rfl)
  · rw [if_neg h0, if_pos (Int32.not_le.mp (fun e => h ⟨Int32.not_lt.mp h0, e⟩))]
    exact gd_t (Or.inl rfl)
theorem iw_t {x l : Int32} (h0 : S.1 80 0 = 0) (h : btw x 0 l) : fX12_isWhat N x l S = some (1, S) := by
  unfold fX12_isWhat
  rw [wi_t h]
  rw [bI_s, rt_t h0 (by decide)]
  exact gd_t (Or.inr rfl)
theorem iw_f {x l : Int32} (h0 : S.1 80 0 = 0) (h : ¬ btw x 0 l) : fX12_isWhat N x l S = some (0, (u2 S.1 80 0 1, S.2)) := by
  unfold fX12_isWhat
  rw [wi_f h]
  rw [bI_s, rt_f h0 (by decide)]
  exact gd_t (Or.inl rfl)
theorem is_t {x lo k : Int32} (h0 : S.1 80 0 = 0) (h : btw x lo 200) : fX12_isSoon N x lo k S = some (1, S) := by
  unfold fX12_isSoon
  rw [wi_t h]
  rw [bI_s, rt_t h0 (by decide)]
  exact gd_t (Or.inr rfl)
theorem is_f {x lo k : Int32} (h0 : S.1 80 0 = 0) (hk : k ≠ 0) (h : ¬ btw x lo 200) : fX12_isSoon N x lo k S = some (0, (u2 S.1 80 0 k, S.2)) := by
  unfold fX12_isSoon
  rw [wi_f h]
  rw [bI_s, rt_f h0 hk]
  exact gd_t (Or.inl rfl)
theorem ic_t {c : Nat} (h0 : S.1 80 0 = 0) (hn : n ≤ 9) (h : S.1 80 1 = iN n) (hc : c < n) : fX12_isCup N (iN c) S = some (1, S) := by
  unfold fX12_isCup
  rw [if_neg (iN_pos (by omega)), h]
  rw [lt_b, if_neg (by rw [iN_le (by omega) (by omega)]; omega), rt_t h0 (by decide), bI_s]
  exact gd_t (Or.inr rfl)
theorem ic_f {x : Int32} (h0 : S.1 80 0 = 0) (hn : n ≤ 9) (h : S.1 80 1 = iN n) (hc : ¬ inr x n) : fX12_isCup N x S = some (0, (u2 S.1 80 0 1, S.2)) := by
  unfold fX12_isCup
  by_cases hx : x < 0
  · rw [if_pos hx, rt_f h0 (by decide), bI_s]
    exact gd_t (Or.inl rfl)
  · rw [if_neg hx, h]
    rw [lt_b, if_pos, rt_f h0 (by decide), bI_s]
    · exact gd_t (Or.inl rfl)
    · rw [lt_ti, z_ti] at hx
      rw [le_ti, iN_ti (by omega)]
      have : ¬ x.toInt < (n : Int) := fun e => hc ⟨by omega, e⟩
      omega
theorem so_t {x : Int32} (h0 : S.1 80 0 = 0) (h : S.1 80 1 = iN n) (hb : bcu n x) : fX12_isSome N x S = some (1, S) := by
  unfold fX12_isSome
  rw [if_neg (Int32.not_lt.mpr hb.1), h]
  rw [lt_b, if_neg (Int32.not_le.mpr hb.2), rt_t h0 (by decide), bI_s]
  exact gd_t (Or.inr rfl)
theorem so_f {x : Int32} (h0 : S.1 80 0 = 0) (h : S.1 80 1 = iN n) (hb : ¬ bcu n x) : fX12_isSome N x S = some (0, (u2 S.1 80 0 1, S.2)) := by
  unfold fX12_isSome
  by_cases hx : x < 0
  · rw [if_pos hx, rt_f h0 (by decide), bI_s]
    exact gd_t (Or.inl rfl)
  · rw [if_neg hx, h]
    rw [lt_b, if_pos (Int32.not_lt.mp (fun e => hb ⟨Int32.not_lt.mp hx, e⟩)), rt_f h0 (by decide), bI_s]
    exact gd_t (Or.inl rfl)
end CK
theorem btw_nat {x lo hi : Int32} {l h : Nat} (hl : lo = iN l) (hh : hi = iN h) (h2 : h < 2147483648) (h3 : l < 2147483648) (hb : btw x lo hi) : ∃ m, x = iN m ∧ l ≤ m ∧ m ≤ h := by
  subst hl hh
  have h1 : (l : Int) ≤ x.toInt := by have := hb.1; rw [le_ti, iN_ti h3] at this; exact this
  have h4 : x.toInt ≤ (h : Int) := by have := hb.2; rw [le_ti, iN_ti h2] at this; exact this
  refine ⟨ix x, iN_of (by omega), ?_, ?_⟩
  · have e : ((ix x : Nat) : Int) = x.toInt := Int.toNat_of_nonneg (by omega)
    omega
  · have e : ((ix x : Nat) : Int) = x.toInt := Int.toNat_of_nonneg (by omega)
    omega
/-- the answer, and how the model tells it: thrown t, answer r; k numbers what is thrown -/
def MA (k : String → Int32) (a : Int32 ⊕ String) (r t : Int32) : Prop := match a with
  | .inl v => t = 0 ∧ r = v
  | .inr E => t = k E
def k2 (E : String) : Int32 := if E = nNSE then 1 else 2
def k1 (_ : String) : Int32 := 1
/-- the state of both -/
def Inv (S : PS) : Prop := ∃ G, GW G ∧ IC G S ∧ IM G S
theorem IC_out {G : Gs} {S : PS} {x : Int64} (h : IC G S) : IC G (S.1, u2L S.2.1 111 0 x, S.2.2) := h
theorem IM_out {G : Gs} {S : PS} {x : Int64} (h : IM G S) : IM G (S.1, u2L S.2.1 111 0 x, S.2.2) := h
theorem u2L_at {f : Nat → Nat → Int64} {a k : Nat} {x : Int64} : u2L f a k x a k = x := by simp [u2L, vp_updL]
/-- one call: the class's answer a, the model's the same -/
theorem one_q {G G' : Gs} {S : PS} {mC : Option ((Int32 ⊕ String) × PS)} {mM : PS → Option (Int32 × PS)} {a : Int32 ⊕ String} {kk : String → Int32} {fN fI : PS → Option (Int32 × PS)} {N : Nat}
    (hg : GW G) (hg' : GW G') (him : IM G S) (hC : rn mC (fun q => q.1 = a ∧ IC G' q.2 ∧ MS S q.2)) (hM : ∀ T, IM G T → rn (mM T) (fun q => MA kk a q.1 (q.2.1 80 0) ∧ IM G' q.2 ∧ CS T q.2))
    (hE : ∀ E, a = .inr E → kk E ≠ 0 ∧ ∀ T : PS, (if E = nNSE then fN T else if E = nIAE then fI T else none) = some (kk E, T)) :
    rn (bI (bH mC (fun x4 S2 => lt ((S2.1, u2L S2.2.1 111 0 x4.toInt64, S2.2.2) : PS) fun S5 => some (0, S5)) fN fI) fun x1 S2 => bI (mM S2) fun x4 S5 => bI (fX12_thrown N S5) fun x7 S8 => (if x7 = x1 then (if x1 = 0 then (if (lg_cmp (S8.2.1 111 0) x4.toInt64) = 0 then some S8 else none) else some S8) else none)) Inv := by
  rw [rn_bI, rn_bH]
  refine rn_mono hC (fun q hq => ?_)
  obtain ⟨h1, h2, h3⟩ := hq
  refine ⟨fun x hx => ?_, fun E hE' => ?_⟩
  · rw [rn_lt, rn_some, rn_bI]
    rw [hx] at h1
    have hi : IM G (q.2.1, u2L q.2.2.1 111 0 x.toInt64, q.2.2.2) := IM_out (IM_pm hg him (MS_pm h3))
    refine rn_mono (hM _ hi) (fun r hr => ?_)
    obtain ⟨m1, m2, m3⟩ := hr
    rw [← h1] at m1
    rw [rn_bI, fX12_thrown, rn_some]
    have e1 : r.2.1 80 0 = 0 := m1.1
    have e2 : r.1 = x := m1.2
    have e3 : r.2.2.1 111 0 = x.toInt64 := by rw [(m3 111 (by omega)).2.1]; exact u2L_at (f := q.2.2.1) (a := 111) (k := 0)
    simp only [e1, e2, e3, lg_eq, if_true, rn_some]
    exact ⟨G', hg', IC_pc (IC_out h2) (CS_pc m3), m2⟩
  · rw [hE'] at h1
    obtain ⟨e1, e2⟩ := hE E h1.symm
    rw [e2, rn_some, rn_bI]
    have hi : IM G q.2 := IM_pm hg him (MS_pm h3)
    refine rn_mono (hM _ hi) (fun r hr => ?_)
    obtain ⟨m1, m2, m3⟩ := hr
    rw [← h1] at m1
    have e3 : r.2.1 80 0 = kk E := m1
    rw [rn_bI, fX12_thrown, rn_some]
    simp only [e3, if_true, if_neg e1, rn_some]
    exact ⟨G', hg', IC_pc h2 (CS_pc m3), m2⟩
/-- the model's object with nothing thrown -/
theorem z0 {S : PS} : (u2 S.1 80 0 0, S.2).1 80 0 = 0 := by
  show u2 S.1 80 0 0 80 0 = 0
  rw [u2_at, upd_at]
theorem zFP {S : PS} {k : Int32} : FP S (u2 S.1 80 0 k, S.2) := FP.rfl.f (by unfold pf; omega)
