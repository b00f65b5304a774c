/-! ===== phase 2: image, restore ===== -/
section IMG
variable {N : Nat} {G : Gs} {M : Mi} {S : PS}
theorem C_acopy {a a' K : Nat} (o1 : obj a 0) (o2 : obj a' 0) (r1 : arr (sr a 0) 1 1920) (r2 : arr (sr a' 0) 1 1920) (n2 : a' ≠ sr a 0) (n3 : sr a 0 ≠ a) (hK : K ≤ 40) (hS : S.1 a' 1 = iN K) : rn (fX0_copy N a a' S) (fun T => T.1 a 1 = iN K ∧ (∀ k, k < 48 * K → T.1 (sr a 0) k = S.1 (sr a' 0) k) ∧ FC (fun b => b = a ∨ b = sr a 0) S T) := by
  have em : S.1 a' 1 * 48 = iN (48 * K) := by rw [hS, show (48 : Int32) = iN 48 from rfl, iN_mul, Nat.mul_comm]
  have x48 : ix (iN (48 * K)) = 48 * K := ix_iN (by omega)
  have x0 : ix (0 : Int32) = 0 := by decide
  have z48 : (0 : Int32) ≤ iN (48 * K) := by rw [show (0 : Int32) = iN 0 from rfl, iN_le (by omega) (by omega)]; omega
  have hg : ((0 ≤ (0 : Int32) ∧ 0 ≤ (0 : Int32) ∧ 0 ≤ iN (48 * K)) ∧ ix 0 + ix (iN (48 * K)) ≤ 1920 ∧ ix 0 + ix (iN (48 * K)) ≤ 1920) := by
    rw [x48, x0]
    exact ⟨⟨Int32.le_refl _, Int32.le_refl _, z48⟩, by omega, by omega⟩
  unfold fX0_copy
  rw [gd_t o2, gd_t o1, gd_t o2, gd_t r2, gd_t r1, em, gd_t hg]
  refine rn_r (fun T1 u1 => ?_)
  rw [gd_t o2, gd_t o1]
  refine rn_u (fun T2 u2 => ?_)
  rw [rn_some]
  refine ⟨?_, fun k hk => ?_, (FC.rfl.ur u1 (Or.inr rfl)).ur u2 (Or.inl rfl)⟩
  · rw [u2.1, upd_at, u1.2.1 a' n2]; exact hS
  · rw [u2.2.1 (sr a 0) n3, u1.1, x0, x48]
    unfold va_cpy
    rw [if_pos (by omega), Nat.zero_add, Nat.sub_zero]
theorem C_hcopy {h h' : Nat} (o1 : obj h 5) (o2 : obj h' 5) (r1 : arr (sr h 0) 1 8) (r2 : arr (sr h' 0) 1 8) (q1 : arr (sr h 1) 1 8) (q2 : arr (sr h' 1) 1 8) (n0 : h' ≠ h) (n1 : h' ≠ sr h 0 ∧ h' ≠ sr h 1) (n2 : sr h 0 ≠ h ∧ sr h 1 ≠ h ∧ sr h 0 ≠ sr h 1 ∧ sr h' 1 ≠ sr h 0) : rn (fX5_copy N h h' S) (fun T => (T.1 h 2 = S.1 h' 2 ∧ T.1 h 3 = S.1 h' 3) ∧ (∀ k, k < 8 → T.1 (sr h 0) k = S.1 (sr h' 0) k ∧ T.1 (sr h 1) k = S.1 (sr h' 1) k) ∧ FC (fun b => b = h ∨ b = sr h 0 ∨ b = sr h 1) S T) := by
  have x0 : ix (0 : Int32) = 0 := by decide
  have x8 : ix (8 : Int32) = 8 := by decide
  have hg : ((0 ≤ (0 : Int32) ∧ 0 ≤ (0 : Int32) ∧ 0 ≤ (8 : Int32)) ∧ ix 0 + ix 8 ≤ 8 ∧ ix 0 + ix 8 ≤ 8) := by decide
  unfold fX5_copy
  rw [gd_t o2, gd_t o1, gd_t r2, gd_t r1, gd_t hg]
  refine rn_r (fun T1 u1 => ?_)
  rw [gd_t o2, gd_t o1, gd_t q2, gd_t q1, gd_t hg]
  refine rn_r (fun T2 u2 => ?_)
  rw [gd_t o2, gd_t o1]
  refine rn_u (fun T3 u3 => ?_)
  rw [gd_t o2, gd_t o1]
  refine rn_u (fun T4 u4 => ?_)
  rw [rn_some]
  refine ⟨⟨?_, ?_⟩, fun k hk => ⟨?_, ?_⟩, (((FC.rfl.ur u1 (Or.inr (Or.inl rfl))).ur u2 (Or.inr (Or.inr rfl))).ur u3 (Or.inl rfl)).ur u4 (Or.inl rfl)⟩
  · rw [u4.1, upd_o (by decide), u3.1, upd_at, u2.2.1 h' n1.2, u1.2.1 h' n1.1]
  · rw [u4.1, upd_at, u3.2.1 h' n0, u2.2.1 h' n1.2, u1.2.1 h' n1.1]
  · rw [u4.2.1 _ n2.1, u3.2.1 _ n2.1, u2.2.1 _ n2.2.2.1, u1.1, x0, x8]
    unfold va_cpy
    rw [if_pos (by omega), Nat.zero_add, Nat.sub_zero]
  · rw [u4.2.1 _ n2.2.1, u3.2.1 _ n2.2.1, u2.1, x0, x8, u1.2.1 _ n2.2.2.2]
    unfold va_cpy
    rw [if_pos (by omega), Nat.zero_add, Nat.sub_zero]
theorem is19 : isCu 19 := Or.inr (Or.inl rfl)
/-- minutes copied, in the class -/
theorem C_take (hw : M.2.1.1 ≤ 40 ∧ M.2.2.1 ≤ 8) (hm : CMi 18 8 34 10 36 37 M S) : rn (fX6_copy N 4 3 S) (fun T => CMi 19 9 35 11 38 39 M T ∧ FC (fun a => a = 19 ∨ (56 ≤ a ∧ a < 61) ∨ a = 9 ∨ a = 35 ∨ a = 11 ∨ a = 38 ∨ a = 39) S T) := by
  obtain ⟨h1, ⟨h2, h3⟩, h4, ⟨f, h5, h5'⟩, h6⟩ := hm
  have e0 : sr 4 0 = 19 := rfl
  have e1 : sr 4 1 = 9 := rfl
  have e2 : sr 4 2 = 11 := rfl
  have e3 : sr 3 0 = 18 := rfl
  have e4 : sr 3 1 = 8 := rfl
  have e5 : sr 3 2 = 10 := rfl
  unfold fX6_copy
  rw [gd_t (show obj 4 6 from ⟨rfl, by decide⟩), gd_t (show obj 3 6 from ⟨rfl, by decide⟩), e0, e1, e2, e3, e4, e5, gd_t is19.ob, rn_bV]
  refine rn_mono (C_copy is19 is18 (by decide) h1) (fun T1 hT1 => ?_)
  obtain ⟨c1, F1⟩ := hT1
  rw [gd_t (show obj 4 6 from ⟨rfl, by decide⟩), gd_t (show obj 3 6 from ⟨rfl, by decide⟩), gd_t ob9, rn_bV]
  have k1 : T1.1 8 1 = iN M.2.1.1 := by rw [F1.1 8 (by omega)]; exact h2
  refine rn_mono (C_acopy ob9 ob8 ar35 ar34 (by decide) (by decide) hw.1 k1) (fun T2 hT2 => ?_)
  obtain ⟨a1, a2, F2⟩ := hT2
  have F2' : FC (fun b => b = 9 ∨ b = 35) T1 T2 := F2
  rw [gd_t (show obj 4 6 from ⟨rfl, by decide⟩), gd_t (show obj 3 6 from ⟨rfl, by decide⟩), gd_t ob11, rn_bV]
  refine rn_mono (C_hcopy ob11 ob10 ar38 ar36 ar39 ar37 (by decide) (by decide) (by decide)) (fun T3 hT3 => ?_)
  obtain ⟨b1, b2, F3⟩ := hT3
  have F3' : FC (fun b => b = 11 ∨ b = 38 ∨ b = 39) T2 T3 := F3
  rw [rn_some]
  have F : FC (fun a => a = 19 ∨ (56 ≤ a ∧ a < 61) ∨ a = 9 ∨ a = 35 ∨ a = 11 ∨ a = 38 ∨ a = 39) S T3 := ((F1.mono (fun a ha => by omega)).tr (F2'.mono (fun a ha => by omega))).tr (F3'.mono (fun a ha => by omega))
  have F12 : FC (fun a => a = 19 ∨ (56 ≤ a ∧ a < 61) ∨ a = 9 ∨ a = 35) S T2 := (F1.mono (fun a ha => by omega)).tr (F2'.mono (fun a ha => by omega))
  refine ⟨⟨(c1.fr is19 F2'.1 (fun a ha hc => by unfold cuC at ha; omega)).fr is19 F3'.1 (fun a ha hc => by unfold cuC at ha; omega), ⟨?_, fun j hj => ?_⟩, ?_, ⟨f, ?_, h5'⟩, fun i hi => ?_⟩, F⟩
  · rw [F3'.1 9 (by omega)]; exact a1
  · refine (h3 j hj).cg (fun k hk => ?_)
    rw [F3'.1 35 (by omega)]
    have := a2 (48 * j + k) (by omega)
    rw [show sr 9 0 = 35 from rfl, show sr 8 0 = 34 from rfl, F1.1 34 (by omega)] at this
    exact this
  · rw [b1.2, F12.1 10 (by omega)]; exact h4
  · rw [b1.1, F12.1 10 (by omega)]; exact h5
  · have := b2 i (by have : i < M.2.2.1 := hi; omega)
    rw [show sr 11 0 = 38 from rfl, show sr 11 1 = 39 from rfl, show sr 10 0 = 36 from rfl, show sr 10 1 = 37 from rfl, F12.1 36 (by omega), F12.1 37 (by omega)] at this
    rw [this.1, this.2]
    exact h6 i hi
theorem C_give (hw : M.2.1.1 ≤ 40 ∧ M.2.2.1 ≤ 8) (hm : CMi 19 9 35 11 38 39 M S) : rn (fX6_copy N 3 4 S) (fun T => CMi 18 8 34 10 36 37 M T ∧ FC nowC S T) := by
  obtain ⟨h1, ⟨h2, h3⟩, h4, ⟨f, h5, h5'⟩, h6⟩ := hm
  have e0 : sr 4 0 = 19 := rfl
  have e1 : sr 4 1 = 9 := rfl
  have e2 : sr 4 2 = 11 := rfl
  have e3 : sr 3 0 = 18 := rfl
  have e4 : sr 3 1 = 8 := rfl
  have e5 : sr 3 2 = 10 := rfl
  unfold fX6_copy
  rw [gd_t (show obj 3 6 from ⟨rfl, by decide⟩), gd_t (show obj 4 6 from ⟨rfl, by decide⟩), e0, e1, e2, e3, e4, e5, gd_t is18.ob, rn_bV]
  refine rn_mono (C_copy is18 is19 (by decide) h1) (fun T1 hT1 => ?_)
  obtain ⟨c1, F1⟩ := hT1
  rw [gd_t (show obj 3 6 from ⟨rfl, by decide⟩), gd_t (show obj 4 6 from ⟨rfl, by decide⟩), gd_t ob8, rn_bV]
  have k1 : T1.1 9 1 = iN M.2.1.1 := by rw [F1.1 9 (by omega)]; exact h2
  refine rn_mono (C_acopy ob8 ob9 ar34 ar35 (by decide) (by decide) hw.1 k1) (fun T2 hT2 => ?_)
  obtain ⟨a1, a2, F2⟩ := hT2
  have F2' : FC (fun b => b = 8 ∨ b = 34) T1 T2 := F2
  rw [gd_t (show obj 3 6 from ⟨rfl, by decide⟩), gd_t (show obj 4 6 from ⟨rfl, by decide⟩), gd_t ob10, rn_bV]
  refine rn_mono (C_hcopy ob10 ob11 ar36 ar38 ar37 ar39 (by decide) (by decide) (by decide)) (fun T3 hT3 => ?_)
  obtain ⟨b1, b2, F3⟩ := hT3
  have F3' : FC (fun b => b = 10 ∨ b = 36 ∨ b = 37) T2 T3 := F3
  rw [rn_some]
  have F : FC nowC S T3 := ((F1.mono (fun a ha => by unfold nowC; omega)).tr (F2'.mono (fun a ha => by unfold nowC; omega))).tr (F3'.mono (fun a ha => by unfold nowC; omega))
  have F12 : FC (fun a => a = 18 ∨ (50 ≤ a ∧ a < 55) ∨ a = 8 ∨ a = 34) S T2 := (F1.mono (fun a ha => by omega)).tr (F2'.mono (fun a ha => by omega))
  refine ⟨⟨(c1.fr is18 F2'.1 (fun a ha hc => by unfold cuC at ha; omega)).fr is18 F3'.1 (fun a ha hc => by unfold cuC at ha; omega), ⟨?_, fun j hj => ?_⟩, ?_, ⟨f, ?_, h5'⟩, fun i hi => ?_⟩, F⟩
  · rw [F3'.1 8 (by omega)]; exact a1
  · refine (h3 j hj).cg (fun k hk => ?_)
    rw [F3'.1 34 (by omega)]
    have := a2 (48 * j + k) (by omega)
    rw [show sr 9 0 = 35 from rfl, show sr 8 0 = 34 from rfl, F1.1 35 (by omega)] at this
    exact this
  · rw [b1.2, F12.1 11 (by omega)]; exact h4
  · rw [b1.1, F12.1 11 (by omega)]; exact h5
  · have := b2 i (by have : i < M.2.2.1 := hi; omega)
    rw [show sr 11 0 = 38 from rfl, show sr 11 1 = 39 from rfl, show sr 10 0 = 36 from rfl, show sr 10 1 = 37 from rfl, F12.1 38 (by omega), F12.1 39 (by omega)] at this
    rw [this.1, this.2]
    exact h6 i hi
/-! restore, in the class -/
def aRest (G : Gs) : Int32 := match G.2.2.1 with | none => 0 | some _ => 1
def nRest (G : Gs) : Gs := match G.2.2.1 with | none => G | some M => nwG G M
theorem GW_rest (hg : GW G) : GW (nRest G) := by
  have := hg.2.2.1
  unfold nRest
  revert this
  cases G.2.2.1 with
  | none => intro _; exact hg
  | some M => intro h; exact GW_now hg (h M rfl)
theorem C_restore (hg : GW G) (hi : IC G S) : rn (fX11_restore N S) (fun q => q.1 = aRest G ∧ IC (nRest G) q.2 ∧ MS S q.2) := by
  have h4 := hi.2.2.1
  have hw := hg.2.2.1
  unfold aRest nRest fX11_restore
  revert h4 hw
  cases G.2.2.1 with
  | none =>
    intro h4 _
    rw [if_pos h4, rn_some]
    exact ⟨rfl, hi, MS.rfl⟩
  | some M =>
    intro h4 hw
    have w := hw M rfl
    rw [if_neg (by rw [h4.1]; decide), rn_bV]
    refine rn_mono (C_give ⟨w.2.1.1, w.2.2.1⟩ h4.2) (fun T hT => ?_)
    rw [rn_some]
    exact ⟨rfl, IC_now hi (PN_fc hT.2 (fun a ha => ⟨Or.inr ha, by unfold nowC at ha; omega, by unfold nowC at ha; omega⟩)) hT.1, MS_fc hT.2 (fun a ha => by unfold nowC at ha; omega)⟩
/-! image, in the class -/
def nImg (G : Gs) : Gs := (G.1, G.2.1, some G.2.1, G.2.2.2)
theorem GW_img (hg : GW G) : GW (nImg G) := ⟨hg.1, hg.2.1, fun M e => by
  have e' : some G.2.1 = some M := e
  cases e'
  exact hg.2.1, hg.2.2.2⟩
theorem C_image (hg : GW G) (hi : IC G S) : rn (fX11_image N S) (fun q => IC (nImg G) q ∧ MS S q) := by
  have w := hg.2.1
  unfold fX11_image
  rw [rn_bV]
  refine rn_mono (C_take ⟨w.2.1.1, w.2.2.1⟩ hi.2.1) (fun T hT => ?_)
  obtain ⟨t1, F⟩ := hT
  refine rn_u (fun U u => ?_)
  rw [rn_some]
  have r : ∀ a, ¬ (a = 0 ∨ a = 19 ∨ (56 ≤ a ∧ a < 61) ∨ a = 9 ∨ a = 35 ∨ a = 11 ∨ a = 38 ∨ a = 39) → U.1 a = S.1 a := fun a ha => by rw [u.2.1 a (by omega)]; exact F.1 a (by omega)
  have FU : FC (fun a => a = 0 ∨ a = 19 ∨ (56 ≤ a ∧ a < 61) ∨ a = 9 ∨ a = 35 ∨ a = 11 ∨ a = 38 ∨ a = 39) S U := ⟨r, by rw [u.2.2]; exact F.2⟩
  refine ⟨?_, MS_fc FU (fun a ha => by omega)⟩
  obtain ⟨⟨p, h1, h2⟩, h3, h4, h5, h6, h7, h8⟩ := hi
  obtain ⟨c1, c2, c3⟩ := h3
  obtain ⟨d1, d2, d3⟩ := t1
  refine ⟨⟨p, h1.ce (fun a ha => r a (by unfold ceC at ha; omega)) (by rw [FU.2]), by rw [FU.2]; exact h2⟩, ⟨c1.fr is18 FU.1 (fun a ha hc => by unfold cuC at ha; omega), ?_, ?_⟩, ⟨?_, d1.ur is19 u (by unfold cuC; omega), ?_, ?_⟩, ?_, ?_, ?_, ?_⟩
  · rw [r 8 (by omega), r 34 (by omega)]; exact c2
  · rw [r 10 (by omega), r 36 (by omega), r 37 (by omega)]; exact c3
  · rw [u.1, upd_at]
  · rw [u.2.1 9 (by decide), u.2.1 35 (by decide)]; exact d2
  · rw [u.2.1 11 (by decide), u.2.1 38 (by decide), u.2.1 39 (by decide)]; exact d3
  · rw [r 23 (by omega)]; exact h5
  · rw [u.1, upd_o (by decide), F.1 0 (by omega)]; exact h6
  · rw [r 2 (by omega)]; exact h7
  · rw [r 26 (by omega)]; exact h8
end IMG
