/-! ===== phase 2: ways ===== -/
theorem sumS_ml {a : Int32} {f : Nat → Int32} : ∀ n, sumS (fun x => a * f x) n = a * sumS f n
  | 0 => by rw [sumS, sumS, Int32.mul_zero]
  | n + 1 => by rw [sumS_s, sumS_s, sumS_ml n, Int32.mul_add]
theorem sumS_mr {a : Int32} {f : Nat → Int32} (n : Nat) : sumS (fun x => f x * a) n = sumS f n * a := by
  rw [Int32.mul_comm, ← sumS_ml]
  exact sumS_cg n (fun c _ => Int32.mul_comm _ _)
theorem sumS_sw {F : Nat → Nat → Int32} {m : Nat} : ∀ n, sumS (fun x => sumS (fun y => F x y) m) n = sumS (fun y => sumS (fun x => F x y) n) m
  | 0 => by
    rw [sumS, sumS_cg m (g := fun _ => 0) (fun c _ => by rw [sumS]), sumS_0]
  | n + 1 => by
    rw [sumS_s, sumS_sw n, ← sumS_add (f := fun y => sumS (fun x => F x y) n) (g := fun y => F n y) (h := fun y => sumS (fun x => F x y) n + F n y) (fun _ => rfl)]
    exact sumS_cg m (fun c _ => by rw [sumS_s])
theorem sumS_d {f : Nat → Int32} {o : Nat} : ∀ n, sumS (fun x => if x = o then f x else 0) n = if o < n then f o else 0
  | 0 => by rw [sumS, if_neg (by omega)]
  | n + 1 => by
    rw [sumS_s, sumS_d n]
    by_cases e : n = o
    · subst e
      rw [if_neg (Nat.lt_irrefl _), if_pos rfl, if_pos (by omega), Int32.zero_add]
    · rw [if_neg e, Int32.add_zero]
      by_cases e2 : o < n
      · rw [if_pos e2, if_pos (by omega)]
      · rw [if_neg e2, if_neg (by omega)]
theorem add_cg {a b c : Int32} (h : b = c) : a + b = a + c := by rw [h]
theorem i_cancel {a b c : Int32} (h : a + c = b + c) : a = b := by
  have := congrArg (fun z => z - c) h
  rwa [Int32.add_sub_cancel, Int32.add_sub_cancel] at this
theorem dual {U W d e : Nat → Int32} {b : Nat → Nat → Int32} {n : Nat} (h1 : ∀ x, x < n → U x * W x = U x * (e x + sumS (fun y => b x y * W y) n)) (h2 : ∀ y, y < n → U y = d y + sumS (fun x => U x * b x y) n) : sumS (fun x => U x * e x) n = sumS (fun y => d y * W y) n := by
  have a1 : sumS (fun x => U x * W x) n = sumS (fun x => U x * e x) n + sumS (fun x => sumS (fun y => U x * b x y * W y) n) n := by
    rw [← sumS_add (h := fun x => U x * e x + sumS (fun y => U x * b x y * W y) n) (fun _ => rfl)]
    refine sumS_cg n (fun x hx => ?_)
    rw [h1 x hx, Int32.mul_add, ← sumS_ml]
    exact add_cg (sumS_cg n (fun y _ => (Int32.mul_assoc _ _ _).symm))
  have a2 : sumS (fun x => U x * W x) n = sumS (fun y => d y * W y) n + sumS (fun x => sumS (fun y => U x * b x y * W y) n) n := by
    rw [sumS_sw, ← sumS_add (h := fun y => d y * W y + sumS (fun x => U x * b x y * W y) n) (fun _ => rfl)]
    refine sumS_cg n (fun y hy => ?_)
    rw [sumS_mr (f := fun x => U x * b x y), ← Int32.add_mul, ← h2 y hy]
  exact i_cancel (a1.symm.trans a2)
/-- in how many ways a drop of c comes to y -/
def wyF (A : Rw) (c : Nat) : Nat → Nat → Int32
  | 0, _ => 0
  | k + 1, y => (if y = c then 1 else 0) + sumS (fun x => if blS A x y = 0 then 0 else wyF A c k x) y
theorem wyF_s {A : Rw} {c k y : Nat} : wyF A c (k + 1) y = (if y = c then 1 else 0) + sumS (fun x => if blS A x y = 0 then 0 else wyF A c k x) y := by rw [wyF]
theorem wyF_st {A : Rw} {c : Nat} : ∀ k m y, y < k → y < m → wyF A c k y = wyF A c m y
  | 0, m, y, h, _ => by omega
  | k + 1, 0, y, _, h => by omega
  | k + 1, m + 1, y, h1, h2 => by
    rw [wyF_s, wyF_s]
    refine add_cg (sumS_cg y (fun x hx => ?_))
    rw [wyF_st k m x (by omega) (by omega)]
def wyS (A : Rw) (c y : Nat) : Int32 := wyF A c 9 y
theorem wyS_e {A : Rw} {c y : Nat} (hy : y < 9) : wyS A c y = (if y = c then 1 else 0) + sumS (fun x => if blS A x y = 0 then 0 else wyS A c x) y := by
  unfold wyS
  rw [wyF_s]
  refine add_cg (sumS_cg y (fun x hx => ?_))
  rw [wyF_st 8 9 x (by omega) (by omega)]
theorem wyS_z {A : Rw} {c : Nat} : ∀ k y, y < 9 → y < k → y < c → wyS A c y = 0
  | 0, y, _, h, _ => by omega
  | k + 1, y, h9, hk, hc => by
    rw [wyS_e h9, if_neg (by omega), Int32.zero_add, sumS_cg y (g := fun _ => 0) (fun x hx => ?_), sumS_0]
    rw [wyS_z k x (by omega) (by omega) (by omega)]
    split <;> rfl
theorem bl_lo {n : Nat} {A : Rw} {a b : Nat} (hw : WF n A) (ha : a < 9) (hb : b < 9) (h : b ≤ a) : blS A a b = 0 := by
  rcases bl01 (A := A) (c := a) (d := b) with e | e
  · exact e
  · have := bl_up hw ha hb e
    omega
/-- what the class lays down -/
def WYc (A : Rw) (o : Nat) (V : Nat → Int32) (lo : Nat) : Prop := ∀ x, lo ≤ x → x < 9 → V x = (if x = o then 1 else 0) + sumS (fun d => if blS A x d = 0 then 0 else V d) 9
theorem ifm {b v : Int32} (h : b = 0 ∨ b = 1) : (if b = 0 then 0 else v) = b * v := by
  rcases h with e | e
  · rw [e, if_pos rfl, Int32.zero_mul]
  · rw [e, if_neg (by decide), Int32.one_mul]
theorem WY_eq {n c o : Nat} {A : Rw} {V : Nat → Int32} (hw : WF n A) (hc : c < 9) (ho : o < 9) (h : WYc A o V c) : V c = wyS A c o := by
  have := dual (U := wyS A c) (W := V) (d := fun y => if y = c then 1 else 0) (e := fun x => if x = o then 1 else 0) (b := blS A) (n := 9) (fun x hx => ?_) (fun y hy => ?_)
  · have e1 : sumS (fun x => wyS A c x * (if x = o then 1 else 0)) 9 = wyS A c o := by
      rw [sumS_cg 9 (g := fun x => if x = o then wyS A c x else 0) (fun x _ => ?_), sumS_d, if_pos ho]
      by_cases e : x = o
      · rw [if_pos e, if_pos e, Int32.mul_one]
      · rw [if_neg e, if_neg e, Int32.mul_zero]
    have e2 : sumS (fun y => (if y = c then (1 : Int32) else 0) * V y) 9 = V c := by
      rw [sumS_cg 9 (g := fun x => if x = c then V x else 0) (fun x _ => ?_), sumS_d, if_pos hc]
      by_cases e : x = c
      · rw [if_pos e, if_pos e, Int32.one_mul]
      · rw [if_neg e, if_neg e, Int32.zero_mul]
    rw [e1, e2] at this
    exact this.symm
  · by_cases e : c ≤ x
    · rw [← sumS_cg 9 (f := fun d => if blS A x d = 0 then 0 else V d) (fun d _ => ifm bl01), ← h x e hx]
    · rw [wyS_z 9 x hx hx (by omega), Int32.zero_mul, Int32.zero_mul]
  · rw [wyS_e hy]
    refine add_cg ?_
    have e : sumS (fun x => if blS A x y = 0 then 0 else wyS A c x) (y + (9 - y)) = sumS (fun x => if blS A x y = 0 then 0 else wyS A c x) y := sumS_z (9 - y) (fun x h1 h2 => by
      rw [bl_lo hw (by omega) hy h1, if_pos rfl])
    rw [← e, show y + (9 - y) = 9 from by omega]
    refine sumS_cg 9 (fun x _ => ?_)
    rw [ifm bl01, Int32.mul_comm]
section WYC
variable {N n c o : Nat} {A : Rw} {S : PS} {v1 v2 : Int32}
theorem C_wy29 (hN : 30000 ≤ N) (hc : c < 9) (hw : WF n A) (h : CU 18 A S) : rn (fX2_rowsOfPipes_29 N 18 v1 v2 (iN c) N (iN (c + 1)) S) (fun q => q.2.1 55 c = S.1 55 c + sumS (fun d => if blS A c d = 0 then 0 else S.1 55 d) 9 ∧ (∀ d, d ≠ c → q.2.1 55 d = S.1 55 d) ∧ FC (fun a => a = 55) S q.2) := by
  have s5 : sr 18 5 = 55 := rfl
  have z0 : sumS (fun d => if blS A c d = 0 then 0 else S.1 55 d) (c + 1) = 0 := by
    rw [sumS_cg (c + 1) (g := fun _ => 0) (fun d hd => by rw [bl_lo hw hc (by omega) (by omega), if_pos rfl]), sumS_0]
  refine forG (f := fun m j s => fX2_rowsOfPipes_29 N 18 v1 v2 (iN c) m (iN j) s) 9 (J := fun j U => c + 1 ≤ j ∧ U.1 55 c = S.1 55 c + sumS (fun d => if blS A c d = 0 then 0 else S.1 55 d) j ∧ (∀ d, d ≠ c → U.1 55 d = S.1 55 d) ∧ FC (fun a => a = 55) S U) ?_ ?_ N (c + 1) S (by omega) ⟨Nat.le_refl _, by rw [z0, Int32.add_zero], fun _ _ => rfl, FC.rfl⟩ (by omega)
  · rintro m U ⟨-, g1, g2, g3⟩
    simp only [fX2_rowsOfPipes_29]
    rw [if_pos (show (9 : Int32) ≤ iN 9 from Int32.le_refl _), rn_some]
    exact ⟨g1, g2, g3⟩
  · rintro m j U hj ⟨g0, g1, g2, g3⟩ ih
    have hii : ¬ (9 : Int32) ≤ iN j := by rw [i9l (by omega)]; omega
    have cU : CU 18 A U := CU_55 h g3
    obtain ⟨x, hx, bx⟩ := C_below (N := N) is18 hc hw cU
    have ic : inr (iN c) 9 := inr_iN hc (by omega)
    have ij : inr (iN j) 9 := inr_iN hj (by omega)
    have xc : ix (iN c) = c := ix_iN (by omega)
    have xj : ix (iN j) = j := ix_iN (by omega)
    have a55 : arr 55 1 9 := ⟨rfl, by decide⟩
    simp only [fX2_rowsOfPipes_29]
    rw [if_neg hii, gd_t is18.ob, hx, bI_s, has_bt bx hj, bI_s]
    by_cases e : blS A c j = 0
    · rw [if_pos e, rn_lt, iN_1]
      refine ih U ⟨by omega, ?_, g2, g3⟩
      rw [sumS_s, if_pos e, Int32.add_zero]; exact g1
    · rw [if_neg e, s5, gd_t is18.ob, gd_t a55, gd_t ic, gd_t is18.ob, gd_t a55, gd_t ij, gd_t a55, gd_t ic, xc, xj]
      refine rn_u (fun U2 u2 => ?_)
      rw [rn_lt, iN_1]
      refine ih U2 ⟨by omega, ?_, fun d hd => ?_, g3.ur u2 rfl⟩
      · rw [u2.1, upd_at, sumS_s, if_neg e, g1, g2 j (by omega), Int32.add_assoc]
      · rw [u2.1, upd_o hd]; exact g2 d hd
theorem C_wy3 (hN : 30000 ≤ N) (ho : o < 9) (hw : WF n A) : ∀ k m S, c + k ≤ 9 → k < m → CU 18 A S → WYc A o (S.1 55) (c + k) → rn (fX2_rowsOfPipes_3 N 18 (iN c) (iN o) m (iN (c + k) - 1) S) (fun q => WYc A o (q.2.1 55) c ∧ FC (fun a => a = 55) S q.2)
  | 0, m, S, hc, hm, h, hD => by
    obtain ⟨m', rfl⟩ : ∃ m', m = m' + 1 := ⟨m - 1, by omega⟩
    have e : iN (c + 0) - 1 < iN c := by
      rw [lt_ti, Nat.add_zero, ti_sub (by rw [iN_ti (by omega), o_ti]; omega) (by rw [iN_ti (by omega), o_ti]; omega), iN_ti (by omega), o_ti]
      omega
    rw [fX2_rowsOfPipes_3, if_pos e, rn_some]
    exact ⟨hD, FC.rfl⟩
  | k + 1, m, S, hc, hm, h, hD => by
    obtain ⟨m', rfl⟩ : ∃ m', m = m' + 1 := ⟨m - 1, by omega⟩
    have s5 : sr 18 5 = 55 := rfl
    have a55 : arr 55 1 9 := ⟨rfl, by decide⟩
    have ev : iN (c + (k + 1)) - 1 = iN (c + k) := by rw [← Nat.add_assoc, iN_s1]
    have e : ¬ iN (c + k) < iN c := by rw [iN_lt (by omega) (by omega)]; omega
    have ic : inr (iN (c + k)) 9 := inr_iN (by omega) (by omega)
    have xc : ix (iN (c + k)) = c + k := ix_iN (by omega)
    have eo : iN (c + k) = iN o ↔ c + k = o := iN_eq (by omega) (by omega)
    rw [ev, fX2_rowsOfPipes_3, if_neg e, gd_t is18.ob, lt_b, s5, gd_t a55, gd_t ic, xc]
    refine rn_u (fun T u => ?_)
    have F1 : FC (fun a => a = 55) S T := FC.rfl.ur u rfl
    rw [lt_b, iN_1, rn_bT]
    refine rn_mono (C_wy29 hN (by omega) hw (CU_55 h F1)) (fun q hq => ?_)
    rw [rn_lt, rn_lt, rn_lt, show iN (c + k) + (-1) = iN (c + k) - 1 from (Int32.sub_eq_add_neg _ _).symm]
    obtain ⟨q1, q2, q3⟩ := hq
    have F2 := F1.tr q3
    have old : ∀ d, d ≠ c + k → q.2.1 55 d = S.1 55 d := fun d hd => by rw [q2 d hd, u.1, upd_o hd]
    refine rn_mono (C_wy3 hN ho hw k m' q.2 (by omega) (by omega) (CU_55 h F2) (fun d h1 h2 => ?_)) (fun r hr => ⟨hr.1, F2.tr hr.2⟩)
    by_cases ed : d = c + k
    · subst ed
      rw [q1, u.1, upd_at]
      simp only [eo]
      refine add_cg (sumS_cg 9 (fun f hf => ?_))
      by_cases ef : f = c + k
      · rw [ef, bl_lo hw h2 h2 (Nat.le_refl _), if_pos rfl, if_pos rfl]
      · rw [upd_o ef, old f ef]
    · rw [old d ed, hD d (by omega) h2]
      refine add_cg (sumS_cg 9 (fun f hf => ?_))
      by_cases ef : f = c + k
      · rw [bl_lo hw h2 hf (by omega), if_pos rfl, if_pos rfl]
      · rw [old f ef]
theorem C_rows (hN : 30000 ≤ N) (hc : c < 9) (ho : o < 9) (hw : WF n A) (h : CU 18 A S) : rn (fX2_rowsOfPipes N 18 (iN c) (iN o) S) (fun q => q.1 = wyS A c o ∧ FC (fun a => a = 55) S q.2) := by
  have s5 : sr 18 5 = 55 := rfl
  have a55 : arr 55 1 9 := ⟨rfl, by decide⟩
  have ic : inr (iN c) 9 := inr_iN hc (by omega)
  have xc : ix (iN c) = c := ix_iN (by omega)
  unfold fX2_rowsOfPipes
  rw [rn_bT]
  have e8 : (8 : Int32) = iN (c + (9 - c)) - 1 := by rw [show c + (9 - c) = 9 from by omega]; decide
  rw [e8]
  refine rn_mono (C_wy3 hN ho hw (9 - c) N S (by omega) (by omega) h (fun d h1 h2 => by omega)) (fun q hq => ?_)
  rw [rn_lt, rn_lt, gd_t is18.ob, s5, gd_t a55, gd_t ic, xc, rn_some]
  exact ⟨WY_eq hw hc ho hq.1, hq.2⟩
end WYC
section WYM
variable {N n c y : Nat} {A : Rw} {S : PS} {v2 : Int32}
theorem MR_a {T : PS} {a : Nat} (h : MR 0 n A S) (F : FM (fun b => b = a) (fun _ => False) S T) (ha : 91 ≠ a) : MR 0 n A T := by
  rw [MF_MR, F.1 91 (by decide) ha]
  exact h
theorem M_wy52 (hN : 30000 ≤ N) (hn : n ≤ 9) (hy : y < n) (h : MR 0 n A S) : rn (fX12_ways_52 N (iN c) v2 (iN y) N 0 S) (fun q => q.2.1 104 y = S.1 104 y + sumS (fun x => if blS A x y = 0 then 0 else S.1 104 x) y ∧ (∀ d, d ≠ y → q.2.1 104 d = S.1 104 d) ∧ FM (fun a => a = 104) (fun _ => False) S q.2) := by
  refine forG (f := fun m j s => fX12_ways_52 N (iN c) v2 (iN y) m (iN j) s) y (J := fun j U => U.1 104 y = S.1 104 y + sumS (fun x => if blS A x y = 0 then 0 else S.1 104 x) j ∧ (∀ d, d ≠ y → U.1 104 d = S.1 104 d) ∧ FM (fun a => a = 104) (fun _ => False) S U) ?_ ?_ N 0 S (by omega) ⟨by rw [sumS, Int32.add_zero], fun _ _ => rfl, FM.rfl⟩ (by omega)
  · rintro m U ⟨g1, g2, g3⟩
    simp only [fX12_ways_52]
    rw [if_pos (Int32.le_refl _), rn_some]
    exact ⟨g1, g2, g3⟩
  · rintro m j U hj ⟨g1, g2, g3⟩ ih
    have hii : ¬ iN y ≤ iN j := by rw [iN_le (by omega) (by omega)]; omega
    have cU : MR 0 n A U := MR_a h g3 (by decide)
    have iy : inr (iN y) 9 := inr_iN (by omega) (by omega)
    have ij : inr (iN j) 9 := inr_iN (by omega) (by omega)
    have xy : ix (iN y) = y := ix_iN (by omega)
    have xj : ix (iN j) = j := ix_iN (by omega)
    simp only [fX12_ways_52]
    rw [if_neg hii, gd_t iy, M_below hn (by omega) cU, bI_s]
    by_cases e : blS A j y = 0
    · rw [if_pos e, gd_t iy, xy]
      refine rn_u (fun U2 u2 => ?_)
      rw [rn_lt, iN_1]
      refine ih U2 ⟨?_, fun d hd => ?_, ⟨fun a ha hb => (u2.2.1 a hb).trans (g3.1 a ha hb), fun q hq => (congrFun (u2.2.1 80 (by decide)) q).trans (g3.2.1 q hq), u2.2.2.trans g3.2.2⟩⟩
      · rw [u2.1, upd_at, sumS_s, if_pos e, g1, Int32.add_assoc]
      · rw [u2.1, upd_o hd]; exact g2 d hd
    · rw [if_neg e, gd_t ij, gd_t iy, xy, xj]
      refine rn_u (fun U2 u2 => ?_)
      rw [rn_lt, iN_1]
      refine ih U2 ⟨?_, fun d hd => ?_, ⟨fun a ha hb => (u2.2.1 a hb).trans (g3.1 a ha hb), fun q hq => (congrFun (u2.2.1 80 (by decide)) q).trans (g3.2.1 q hq), u2.2.2.trans g3.2.2⟩⟩
      · rw [u2.1, upd_at, sumS_s, if_neg e, g1, g2 j (by omega), Int32.add_assoc]
      · rw [u2.1, upd_o hd]; exact g2 d hd
theorem M_wy25 (hN : 30000 ≤ N) (hn : n ≤ 9) (hc : c < n) (hm : S.1 80 1 = iN n) (h : MR 0 n A S) : rn (fX12_ways_25 N (iN c) v2 N 0 S) (fun q => (∀ y, y < n → q.2.1 104 y = wyS A c y) ∧ FM (fun a => a = 104) (fun _ => False) S q.2) := by
  refine forG (f := fun m j s => fX12_ways_25 N (iN c) v2 m (iN j) s) n (J := fun j U => (∀ y, y < j → U.1 104 y = wyS A c y) ∧ FM (fun a => a = 104) (fun _ => False) S U) ?_ ?_ N 0 S (by omega) ⟨fun y hy => by omega, FM.rfl⟩ (by omega)
  · rintro m U ⟨g1, g2⟩
    simp only [fX12_ways_25]
    rw [if_pos (show U.1 80 1 ≤ iN n by rw [g2.2.1 1 id, hm]; exact Int32.le_refl _), rn_some]
    exact ⟨g1, g2⟩
  · rintro m j U hj ⟨g1, g2⟩ ih
    have hii : ¬ U.1 80 1 ≤ iN j := by rw [g2.2.1 1 id, hm, iN_le (by omega) (by omega)]; omega
    have ij : inr (iN j) 9 := inr_iN (by omega) (by omega)
    have xj : ix (iN j) = j := ix_iN (by omega)
    have ec : iN j = iN c ↔ j = c := iN_eq (by omega) (by omega)
    simp only [fX12_ways_25]
    rw [if_neg hii, lt_b, gd_t ij, xj]
    refine rn_u (fun T u => ?_)
    have F1 : FM (fun a => a = 104) (fun _ => False) U T := ⟨fun a ha hb => u.2.1 a hb, fun q hq => by rw [u.2.1 80 (by decide)], u.2.2⟩
    have F2 := g2.tr F1
    rw [rn_bT]
    refine rn_mono (M_wy52 hN hn hj (MR_a h F2 (by decide))) (fun q hq => ?_)
    obtain ⟨q1, q2, q3⟩ := hq
    rw [rn_lt, rn_lt, rn_lt, iN_1]
    refine ih q.2 ⟨fun y hy => ?_, F2.tr q3⟩
    by_cases ey : y = j
    · subst ey
      rw [q1, wyS_e (by omega), u.1, upd_at]
      simp only [ec]
      refine add_cg (sumS_cg y (fun x hx => ?_))
      rw [upd_o (by omega), g1 x hx]
    · rw [q2 y ey, u.1, upd_o ey]
      exact g1 y (by omega)
end WYM
def aWays (V : Cv) (A : Rw) (c o : Int32) : Int32 ⊕ String := if inr c V.1 then (if inr o V.1 then .inl (wyS A (ix c) (ix o)) else .inr nNSE) else .inr nNSE
section WYQ
variable {N : Nat} {V : Cv} {A : Rw} {S : PS}
theorem C_ways {c o : Int32} (q : QC N V A S) : rn (fX11_ways N c o S) (fun r => r.1 = aWays V A c o ∧ FQ S r.2) := by
  obtain ⟨hN, hs, hw, hcu, p, hp⟩ := q
  have hn := hw.1
  unfold aWays fX11_ways
  by_cases h1 : inr c V.1
  · obtain ⟨d, hd, rfl⟩ := inr_c h1
    have xd : ix (iN d) = d := ix_iN (by omega)
    rw [nc_t hp hn hd, bU_l, if_pos h1]
    by_cases h2 : inr o V.1
    · obtain ⟨f, hf, rfl⟩ := inr_c h2
      have xf : ix (iN f) = f := ix_iN (by omega)
      rw [nc_t hp hn hf, bU_l, if_pos h2, xd, xf, rn_bI]
      refine rn_mono (C_rows hN (by omega) (by omega) hw hcu) (fun r hr => ?_)
      rw [rn_some]
      exact ⟨by rw [hr.1], FQ.fc hr.2 (fun a ha => by unfold pc ceC; omega)⟩
    · rw [nc_f hp hn h2, bU_r, if_neg h2, rn_some]
      exact ⟨rfl, FQ.rfl⟩
  · rw [nc_f hp hn h1, bU_r, if_neg h1, rn_some]
    exact ⟨rfl, FQ.rfl⟩
theorem M_ways {c o : Int32} (q : QM N V A S) : rn (fX12_ways N c o S) (fun r => MA k1 (aWays V A c o) r.1 (r.2.1 80 0) ∧ FP S r.2) := by
  have hF : FP S (u2 S.1 80 0 0, S.2) := zFP
  have q0 := q.fp hF
  have hz := z0 (S := S)
  unfold aWays fX12_ways
  refine rn_l (fun T eT => ?_)
  rw [← eT] at q0 hF hz
  clear eT
  obtain ⟨hN, hs, hw, hmr, hme⟩ := q0
  have hn := hw.1
  have h80 : T.1 80 1 = iN V.1 := hme.1
  have bad : MA k1 (.inr nNSE : Int32 ⊕ String) 0 (u2 T.1 80 0 1 80 0) := by
    show u2 T.1 80 0 1 80 0 = 1
    rw [u2_at, upd_at]
  by_cases h1 : inr c V.1
  · obtain ⟨d, hd, rfl⟩ := inr_c h1
    have xd : ix (iN d) = d := ix_iN (by omega)
    rw [ic_t hz hn h80 hd, bI_s, if_neg (by decide), if_pos h1]
    by_cases h2 : inr o V.1
    · obtain ⟨f, hf, rfl⟩ := inr_c h2
      have xf : ix (iN f) = f := ix_iN (by omega)
      have i9 : inr (iN f) 9 := inr_iN (by omega) (by omega)
      rw [ic_t hz hn h80 hf, bI_s, if_neg (by decide), if_pos h2, xd, xf, rn_bT]
      refine rn_mono (M_wy25 hN hn hd h80 hmr) (fun u hu => ?_)
      rw [rn_lt, rn_lt, gd_t i9, rn_some, hu.1 f hf]
      exact ⟨⟨(hu.2.2.1 0 id).trans hz, rfl⟩, hF.tr (FP.fm hu.2 (fun a ha => by unfold pm; omega) (fun _ e => e.elim))⟩
    · rw [ic_f hz hn h80 h2, bI_s, if_pos rfl, if_neg h2, rn_some]
      exact ⟨bad, hF.tr zFP⟩
  · rw [ic_f hz hn h80 h1, bI_s, if_pos rfl, if_neg h1, rn_some]
    exact ⟨bad, hF.tr zFP⟩
end WYQ
