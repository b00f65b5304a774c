/-! ===== phase 2: an EXPR's value ===== -/
def jnS (x a b : Int32) : Int32 := if x = -14 then a * b else if x = -13 then a - b else if x = -12 then a + b else if x = -11 then (if a = b then 1 else 0) else if x = -10 then (if b ≤ a then 0 else 1) else if x = -9 then (if a = 0 then 0 else if b = 0 then 0 else 1) else if x = -8 then (if a = 0 then (if b = 0 then 0 else 1) else 1) else (if b = 0 then 0 else a / b)
def gS (A : Nat → Nat → Int32) (sp : Nat → Int32) (c : Nat) (x : Int32) : Int32 := if x = -5 then iN c else if x = -4 then A 4 c else if x = -3 then sp c else if x = -2 then A 0 c else if x = -1 then A 1 c else A 7 0
def evS (g : Int32 → Int32) : List Int32 → List Int32 → List Int32
  | [], st => st
  | x :: r, st =>
    if x ≤ -7 then
      if x = -7 then evS g r ((if st.headD 0 = 0 then 1 else 0) :: st.tail)
      else evS g r (jnS x (st.tail.headD 0) (st.headD 0) :: st.tail.tail)
    else evS g r ((if x < 0 then g x else x) :: st)
/-- a code that leaves one value, and never piles up more than 40 -/
def okc : List Int32 → Nat → Prop
  | [], h => h = 1
  | x :: r, h => if x ≤ -7 then (if x = -7 then 1 ≤ h ∧ okc r h else -15 ≤ x ∧ 2 ≤ h ∧ okc r (h - 1)) else h < 40 ∧ okc r (h + 1)
def valS (L : List Int32) (A : Nat → Nat → Int32) (sp : Nat → Int32) (c : Nat) : Int32 := (evS (gS A sp c) L []).headD 0
/-- a pile in an array, its top at the head -/
def SK (f : Nat → Int32) : List Int32 → Prop
  | [] => True
  | a :: t => f t.length = a ∧ SK f t
theorem SK.u {f : Nat → Int32} {k : Nat} {x : Int32} : ∀ {st : List Int32}, SK f st → st.length ≤ k → SK (upd f k x) st
  | [], _, _ => trivial
  | a :: t, h, hk => by
    have hk' : t.length + 1 ≤ k := by simpa using hk
    exact ⟨by rw [upd_o (by omega)]; exact h.1, SK.u h.2 (by omega)⟩
theorem SK.push {f : Nat → Nat → Int32} {a : Nat} {t : List Int32} {v : Int32} (h : SK (f a) t) : SK (u2 f a t.length v a) (v :: t) := by
  rw [u2_at]
  exact ⟨upd_at, SK.u h (Nat.le_refl _)⟩
/-- a code in an array from i on -/
def CDL (f : Nat → Int32) : Nat → List Int32 → Prop
  | _, [] => True
  | i, x :: r => f i = x ∧ CDL f (i + 1) r
/-- the model's code from i on -/
def mv (x : Int32) : Int32 := if x = -5 then 5 else if x = -4 then 3 else if x = -3 then 2 else if x = -2 then 1 else if x = -1 then 0 else 4
def mo (x : Int32) : Int32 := if x = -7 then 3 else if x = -8 then 5 else if x = -9 then 4 else -x - 4
def MC (f : Nat → Int32) : Nat → List Int32 → Prop
  | i, [] => f i = 0 ∧ i < 1400
  | i, x :: r => if x ≤ -7 then f i = mo x ∧ MC f (i + 1) r else if x < 0 then f i = 2 ∧ f (i + 1) = mv x ∧ MC f (i + 2) r else f i = 1 ∧ f (i + 1) = x ∧ MC f (i + 2) r
theorem MC.lt {f : Nat → Int32} : ∀ {L : List Int32} {i : Nat}, MC f i L → i < 1400
  | [], _, h => h.2
  | x :: r, i, h => by
    unfold MC at h
    split at h
    · have := MC.lt h.2; omega
    · split at h
      · have := MC.lt h.2.2; omega
      · have := MC.lt h.2.2; omega
theorem evS_len (g : Int32 → Int32) : ∀ (L st : List Int32), okc L st.length → (evS g L st).length = 1
  | [], st, h => h
  | x :: r, st, h => by
    unfold okc at h
    unfold evS
    by_cases h7 : x ≤ -7
    · simp only [h7, if_true] at h ⊢
      by_cases e : x = -7
      · simp only [e, if_true] at h ⊢
        apply evS_len
        have : (st.tail.length + 1) = st.length := by rw [List.length_tail]; omega
        rw [List.length_cons, this]; exact h.2
      · simp only [e, if_false] at h ⊢
        apply evS_len
        have : (st.tail.tail.length + 1) = st.length - 1 := by rw [List.length_tail, List.length_tail]; omega
        rw [List.length_cons, this]; exact h.2.2
    · simp only [h7, if_false] at h ⊢
      apply evS_len
      exact h.2
section CV
variable {N p o c : Nat} {A : Nat → Nat → Int32} {sp : Nat → Int32}
/-- the class's loop over a code -/
theorem C_val_l (hp : obj p 8) (h0 : arr (sr p 0) 1 700) (h1 : arr (sr p 1) 1 40) (hne : sr p 1 ≠ sr p 0) (hnp : sr p 1 ≠ p) (ho : isCu o) (hno : ¬ cuC o (sr p 1)) (hc : c < 9) :
    ∀ (r st : List Int32) (n i : Nat) (S : PS), r.length < n → CDL (S.1 (sr p 0)) i r → S.1 p 2 = iN (i + r.length) → SK (S.1 (sr p 1)) st → okc r st.length → CU o A S → i + r.length ≤ 700 → st.length ≤ 40 →
      rn (fX8_value_13 N p o (iN c) (sp c) n (iN st.length) (iN i) S) (fun q => SK (q.2.2.1 (sr p 1)) (evS (gS A sp c) r st) ∧ FC (fun a => a = sr p 1) S q.2.2)
  | r, st, 0, i, S, hn, _, _, _, _, _, _, _ => by omega
  | [], st, n + 1, i, S, hn, hcl, hsz, hsk, hok, hcu, hi, hst => by
    simp only [fX8_value_13, rn_gd, rn_ite, rn_some, hsz]
    refine ⟨hp, fun _ => ⟨hsk, FC.rfl⟩, fun hh => ?_⟩
    exact absurd (by simp only [List.length_nil, Nat.add_zero]; exact Int32.le_refl _) hh
  | x :: r, st, n + 1, i, S, hn, hcl, hsz, hsk, hok, hcu, hi, hst => by
    have hl : (x :: r).length = r.length + 1 := rfl
    rw [hl] at hn hsz hi
    have hii : ¬ iN (i + (r.length + 1)) ≤ iN i := by rw [iN_le (by omega) (by omega)]; omega
    have hin : inr (iN i) 700 := inr_iN (by omega) (by omega)
    have hxi : ix (iN i) = i := ix_iN (by omega)
    have ih := C_val_l hp h0 h1 hne hnp ho hno hc r
    unfold okc at hok
    unfold evS
    have hfr : ∀ (j : Nat) (v : Int32), FC (fun a => a = sr p 1) S (u2 S.1 (sr p 1) j v, S.2) := fun j v => FC.rfl.u rfl
    have hcl2 : ∀ (j : Nat) (v : Int32), CDL (u2 S.1 (sr p 1) j v (sr p 0)) (i + 1) r := fun j v => by rw [u2_o (Ne.symm hne)]; exact hcl.2
    have hsz2 : ∀ (j : Nat) (v : Int32), u2 S.1 (sr p 1) j v p 2 = iN (i + 1 + r.length) := fun j v => by rw [u2_o (Ne.symm hnp), hsz]; congr 1; omega
    have hcu2 : ∀ (j : Nat) (v : Int32), CU o A (u2 S.1 (sr p 1) j v, S.2) := fun j v => hcu.o ho hno
    simp only [fX8_value_13, rn_gd, rn_ite, rn_some, rn_lt, rn_bI, hsz, hii, gd_t hp, gd_t h0, gd_t h1, gd_t hin, hxi, hcl.1, iN_1, true_and, not_false_eq_true, false_imp_iff, true_imp_iff]
    refine ⟨fun h7 => ⟨fun e7 => ⟨fun hb => ?_, fun hb => ?_⟩, fun e7 => ⟨fun hb => ?_, fun hb => ?_⟩⟩, fun h7 => ⟨fun hb => ?_, fun hb => ⟨fun hx => ?_, fun hx => ?_⟩⟩⟩
    · rw [if_pos h7, if_pos e7] at hok
      exfalso
      have : iN st.length ≤ iN 0 := hb
      rw [iN_le (by omega) (by omega)] at this
      omega
    · rw [if_pos h7, if_pos e7] at hok ⊢
      obtain ⟨a, t, rfl⟩ : ∃ a t, st = a :: t := by
        cases st with
        | nil => simp at hok
        | cons a t => exact ⟨a, t, rfl⟩
      simp only [List.length_cons] at hok hst ⊢
      have hs := iN_s1 t.length
      have hin2 : inr (iN t.length) 40 := inr_iN (by omega) (by omega)
      have hxt : ix (iN t.length) = t.length := ix_iN (by omega)
      simp only [hs, and_iff_right hin2, hxt, true_and]
      have hta : S.1 (sr p 1) t.length = a := hsk.1
      rw [hta]
      refine rn_mono (ih ((if a = 0 then 1 else 0) :: t) n (i + 1) (u2 S.1 (sr p 1) t.length (if a = 0 then 1 else 0), S.2) (by omega) (hcl2 _ _) (hsz2 _ _) (SK.push hsk.2) hok.2 (hcu2 _ _) (by omega) hst) (fun q hq => ⟨hq.1, (hfr _ _).tr hq.2⟩)
    · rw [if_pos h7, if_neg e7] at hok
      exfalso
      have : iN st.length ≤ iN 1 := hb
      rw [iN_le (by omega) (by omega)] at this
      omega
    · rw [if_pos h7, if_neg e7] at hok ⊢
      obtain ⟨b, a, t, rfl⟩ : ∃ b a t, st = b :: a :: t := by
        rcases st with _ | ⟨b, _ | ⟨a, t⟩⟩
        · simp at hok
        · simp at hok
        · exact ⟨b, a, t, rfl⟩
      simp only [List.length_cons] at hok hst ⊢
      have hs := iN_m1 (t.length + 1)
      have hs2 := iN_s1 t.length
      have hin1 : inr (iN (t.length + 1)) 40 := inr_iN (by omega) (by omega)
      have hin2 : inr (iN t.length) 40 := inr_iN (by omega) (by omega)
      have hxt : ix (iN t.length) = t.length := ix_iN (by omega)
      have hxt1 : ix (iN (t.length + 1)) = t.length + 1 := ix_iN (by omega)
      have htb : S.1 (sr p 1) (t.length + 1) = b := hsk.1
      have hta : S.1 (sr p 1) t.length = a := hsk.2.1
      have hj : ∀ S : PS, fX8_joined N x a b S = some (jnS x a b, S) := by
        intro S
        unfold fX8_joined jnS
        repeat' split
        all_goals simp_all [lt, gd]
      simp only [hs, hs2, and_iff_right hin1, and_iff_right hin2, hxt, hxt1, htb, hta, hj, rn_some, true_and]
      refine rn_mono (ih (jnS x a b :: t) n (i + 1) (u2 S.1 (sr p 1) t.length (jnS x a b), S.2) (by omega) (hcl2 _ _) (hsz2 _ _) (SK.push hsk.2.2) hok.2.2 (hcu2 _ _) (by omega) (by simp only [List.length_cons]; omega)) (fun q hq => ⟨hq.1, (hfr _ _).tr hq.2⟩)
    · rw [if_neg h7] at hok
      exfalso
      have : iN 40 ≤ iN st.length := hb
      rw [iN_le (by omega) (by omega)] at this
      omega
    · rw [if_neg h7] at hok ⊢
      rw [if_pos hx]
      have hin2 : inr (iN st.length) 40 := inr_iN (by omega) (by omega)
      have hxt : ix (iN st.length) = st.length := ix_iN (by omega)
      have hic : inr (iN c) 9 := inr_iN hc (by omega)
      have hxc : ix (iN c) = c := ix_iN (by omega)
      have hj : fX8_valueOf N x o (iN c) (sp c) S = some (gS A sp c x, S) := by
        unfold fX8_valueOf gS
        simp only [gd_t ho.ob, gd_t (ho.ar (k := 0) (by omega)), gd_t (ho.ar (k := 1) (by omega)), gd_t (ho.ar (k := 4) (by omega)), gd_t hic, hxc, if_true, hcu.1 0 (by omega) c hc, hcu.1 1 (by omega) c hc, hcu.1 4 (by omega) c hc, hcu.2.1]
        repeat' split
        all_goals rfl
      simp only [hj, rn_some, and_iff_right hin2, hxt, true_and]
      refine rn_mono (ih (gS A sp c x :: st) n (i + 1) (u2 S.1 (sr p 1) st.length (gS A sp c x), S.2) (by omega) (hcl2 _ _) (hsz2 _ _) (SK.push hsk) hok.2 (hcu2 _ _) (by omega) (by simp only [List.length_cons]; omega)) (fun q hq => ⟨hq.1, (hfr _ _).tr hq.2⟩)
    · rw [if_neg h7] at hok ⊢
      rw [if_neg hx]
      have hin2 : inr (iN st.length) 40 := inr_iN (by omega) (by omega)
      have hxt : ix (iN st.length) = st.length := ix_iN (by omega)
      simp only [and_iff_right hin2, hxt, true_and]
      refine rn_mono (ih (x :: st) n (i + 1) (u2 S.1 (sr p 1) st.length x, S.2) (by omega) (hcl2 _ _) (hsz2 _ _) (SK.push hsk) hok.2 (hcu2 _ _) (by omega) (by simp only [List.length_cons]; omega)) (fun q hq => ⟨hq.1, (hfr _ _).tr hq.2⟩)
theorem C_val {L : List Int32} {S : PS} (hN : 30000 ≤ N) (hp : obj p 8) (h0 : arr (sr p 0) 1 700) (h1 : arr (sr p 1) 1 40) (hne : sr p 1 ≠ sr p 0) (hnp : sr p 1 ≠ p) (ho : isCu o) (hno : ¬ cuC o (sr p 1)) (hc : c < 9)
    (hcl : CDL (S.1 (sr p 0)) 0 L) (hsz : S.1 p 2 = iN L.length) (hok : okc L 0) (hcu : CU o A S) (hl : L.length ≤ 700) :
    rn (fX8_value N p o (iN c) (sp c) S) (fun q => q.1 = valS L A sp c ∧ FC (fun a => a = sr p 1) S q.2) := by
  simp only [fX8_value, rn_gd, rn_lt, rn_bT, rn_some, gd_t hp, gd_t h1, true_and]
  refine rn_mono (C_val_l hp h0 h1 hne hnp ho hno hc L [] N 0 (u2 S.1 (sr p 1) 0 0, S.2) (by omega) (by show CDL (u2 S.1 (sr p 1) 0 0 (sr p 0)) 0 L; rw [u2_o (Ne.symm hne)]; exact hcl) (by show u2 S.1 (sr p 1) 0 0 p 2 = _; rw [u2_o (Ne.symm hnp), hsz, Nat.zero_add]) trivial hok (hcu.o ho hno) (by omega) (by simp)) (fun q hq => ?_)
  refine ⟨?_, ((FC.rfl (cs := fun a => a = sr p 1)).u rfl).tr hq.2⟩
  have hlen := evS_len (gS A sp c) L [] hok
  unfold valS
  obtain ⟨v, hv⟩ : ∃ v, evS (gS A sp c) L [] = [v] := by
    match h : evS (gS A sp c) L [], hlen with
    | [v], _ => exact ⟨v, rfl⟩
  rw [hv] at hq ⊢
  exact hq.1.1
end CV
theorem x15 {x : Int32} (h : -15 ≤ x) (h7 : x ≤ -7) : x = -7 ∨ x = -8 ∨ x = -9 ∨ x = -10 ∨ x = -11 ∨ x = -12 ∨ x = -13 ∨ x = -14 ∨ x = -15 := by
  rw [le_ti] at h h7
  have e1 : (-15 : Int32).toInt = -15 := by decide
  have e2 : (-7 : Int32).toInt = -7 := by decide
  have : x.toInt = -7 ∨ x.toInt = -8 ∨ x.toInt = -9 ∨ x.toInt = -10 ∨ x.toInt = -11 ∨ x.toInt = -12 ∨ x.toInt = -13 ∨ x.toInt = -14 ∨ x.toInt = -15 := by omega
  simp only [eq_ti]
  exact this
theorem x6 {x : Int32} (h7 : ¬ x ≤ -7) (h0 : x < 0) : x = -1 ∨ x = -2 ∨ x = -3 ∨ x = -4 ∨ x = -5 ∨ x = -6 := by
  rw [le_ti] at h7
  rw [lt_ti] at h0
  have e1 : (0 : Int32).toInt = 0 := by decide
  have e2 : (-7 : Int32).toInt = -7 := by decide
  have : x.toInt = -1 ∨ x.toInt = -2 ∨ x.toInt = -3 ∨ x.toInt = -4 ∨ x.toInt = -5 ∨ x.toInt = -6 := by omega
  simp only [eq_ti]
  exact this
theorem wk_jn {N : Nat} {x a b : Int32} {S : PS} (h : x = -8 ∨ x = -9 ∨ x = -10 ∨ x = -11 ∨ x = -12 ∨ x = -13 ∨ x = -14 ∨ x = -15) : fX12_works N (mo x) a b S = some (jnS x a b, S) := by
  rcases h with rfl | rfl | rfl | rfl | rfl | rfl | rfl | rfl
  · rw [show mo (-8) = 5 from by decide]; simp [fX12_works, jnS, lt]
  · rw [show mo (-9) = 4 from by decide]; simp [fX12_works, jnS, lt]
  · rw [show mo (-10) = 6 from by decide]; simp [fX12_works, jnS, lt]
  · rw [show mo (-11) = 7 from by decide]; simp [fX12_works, jnS, lt]
  · rw [show mo (-12) = 8 from by decide]; simp [fX12_works, jnS]
  · rw [show mo (-13) = 9 from by decide]; simp [fX12_works, jnS]
  · rw [show mo (-14) = 10 from by decide]; simp [fX12_works, jnS]
  · rw [show mo (-15) = 11 from by decide]
    unfold fX12_works jnS gd
    simp
    split <;> rfl
theorem mo_ne {x : Int32} (h : x = -8 ∨ x = -9 ∨ x = -10 ∨ x = -11 ∨ x = -12 ∨ x = -13 ∨ x = -14 ∨ x = -15) : mo x ≠ 0 ∧ mo x ≠ 1 ∧ mo x ≠ 2 ∧ mo x ≠ 3 := by
  rcases h with rfl | rfl | rfl | rfl | rfl | rfl | rfl | rfl <;> decide
section MV
variable {N : Nat} {v1 : Int32} {g : Int32 → Int32}
theorem M_val_l : ∀ (r st : List Int32) (n i : Nat) (S : PS), r.length < n → MC (S.1 82) i r → SK (S.1 94) st → okc r st.length → (∀ x, ¬ x ≤ -7 → x < 0 → S.1 93 (ix (mv x)) = g x) → st.length ≤ 40 →
      rn (fX12_reckons_4 N v1 n (iN st.length) (iN i) S) (fun q => SK (q.2.2.1 94) (evS g r st) ∧ FM (fun a => a = 94) (fun _ => False) S q.2.2)
  | r, st, 0, i, S, hn, _, _, _, _, _ => by omega
  | [], st, n + 1, i, S, hn, hmc, hsk, hok, hg, hst => by
    have hin : inr (iN i) 1400 := inr_iN hmc.2 (by have := hmc.2; omega)
    have hxi : ix (iN i) = i := ix_iN (by have := hmc.2; omega)
    simp only [fX12_reckons_4, rn_gd, rn_ite, rn_some, gd_t hin, hxi, hmc.1, true_and, not_true_eq_false, false_imp_iff, true_imp_iff, and_true]
    exact ⟨hsk, FM.rfl⟩
  | x :: r, st, n + 1, i, S, hn, hmc, hsk, hok, hg, hst => by
    have hl : (x :: r).length = r.length + 1 := rfl
    rw [hl] at hn
    have hi4 := hmc.lt
    have hin : inr (iN i) 1400 := inr_iN hi4 (by omega)
    have hxi : ix (iN i) = i := ix_iN (by omega)
    have ih := M_val_l r
    unfold okc at hok
    unfold MC at hmc
    unfold evS
    have hfr : ∀ (j : Nat) (v : Int32), FM (fun a => a = 94) (fun _ => False) S (u2 S.1 94 j v, S.2) := fun j v => FM.rfl.u (by decide) rfl
    have hg2 : ∀ (j : Nat) (v : Int32), ∀ x, ¬ x ≤ -7 → x < 0 → u2 S.1 94 j v 93 (ix (mv x)) = g x := fun j v x h1 h2 => by rw [u2_o (by decide)]; exact hg x h1 h2
    have hmc2 : ∀ (j : Nat) (v : Int32) (k : Nat), MC (S.1 82) k r → MC (u2 S.1 94 j v 82) k r := fun j v k h => by rw [u2_o (by decide)]; exact h
    by_cases h7 : x ≤ -7
    · rw [if_pos h7] at hok hmc ⊢
      by_cases e7 : x = -7
      · rw [if_pos e7] at hok ⊢
        have hm : S.1 82 i = 3 := by rw [hmc.1, e7]; decide
        obtain ⟨a, t, rfl⟩ : ∃ a t, st = a :: t := by
          cases st with
          | nil => simp at hok
          | cons a t => exact ⟨a, t, rfl⟩
        simp only [List.length_cons] at hok hst ⊢
        have hs := iN_s1 t.length
        have hin2 : inr (iN t.length) 950 := inr_iN (by omega) (by omega)
        have hxt : ix (iN t.length) = t.length := ix_iN (by omega)
        have hta : S.1 94 t.length = a := hsk.1
        simp only [fX12_reckons_4, rn_gd, rn_lt, gd_t hin, hxi, hm, iN_1, hs, gd_t hin2, hxt, hta, true_and]
        simp only [show ¬ ((3 : Int32) = 0) from by decide, show ¬ ((3 : Int32) = 1) from by decide, show ¬ ((3 : Int32) = 2) from by decide, if_false, if_true, rn_gd, rn_lt, gd_t hin2, and_iff_right hin2, true_and]
        refine rn_mono (ih ((if a = 0 then 1 else 0) :: t) n (i + 1) (u2 S.1 94 t.length (if a = 0 then 1 else 0), S.2) (by omega) (hmc2 t.length (if a = 0 then 1 else 0) _ hmc.2) (SK.push hsk.2) hok.2 (hg2 t.length (if a = 0 then 1 else 0)) hst) (fun q hq => ⟨hq.1, (hfr _ _).tr hq.2⟩)
      · rw [if_neg e7] at hok ⊢
        have hx := (x15 hok.1 h7).resolve_left e7
        have hmn := mo_ne hx
        obtain ⟨b, a, t, rfl⟩ : ∃ b a t, st = b :: a :: t := by
          rcases st with _ | ⟨b, _ | ⟨a, t⟩⟩
          · simp at hok
          · simp at hok
          · exact ⟨b, a, t, rfl⟩
        simp only [List.length_cons] at hok hst ⊢
        have hs := iN_m1 (t.length + 1)
        have hs2 := iN_s1 t.length
        have hin1 : inr (iN (t.length + 1)) 950 := inr_iN (by omega) (by omega)
        have hin2 : inr (iN t.length) 950 := inr_iN (by omega) (by omega)
        have hxt : ix (iN t.length) = t.length := ix_iN (by omega)
        have hxt1 : ix (iN (t.length + 1)) = t.length + 1 := ix_iN (by omega)
        have htb : S.1 94 (t.length + 1) = b := hsk.1
        have hta : S.1 94 t.length = a := hsk.2.1
        simp only [fX12_reckons_4, rn_gd, rn_lt, rn_bI, gd_t hin, hxi, hmc.1, iN_1, hs, hs2, gd_t hin1, gd_t hin2, hxt, hxt1, htb, hta, true_and, hmn.1, hmn.2.1, hmn.2.2.1, hmn.2.2.2, if_false, wk_jn hx, rn_some]
        refine rn_mono (ih (jnS x a b :: t) n (i + 1) (u2 S.1 94 t.length (jnS x a b), S.2) (by omega) (hmc2 t.length (jnS x a b) _ hmc.2) (SK.push hsk.2.2) hok.2.2 (hg2 t.length (jnS x a b)) (by simp only [List.length_cons]; omega)) (fun q hq => ⟨hq.1, (hfr _ _).tr hq.2⟩)
    · rw [if_neg h7] at hok hmc ⊢
      have hin2 : inr (iN st.length) 950 := inr_iN (by omega) (by omega)
      have hxt : ix (iN st.length) = st.length := ix_iN (by omega)
      by_cases hx : x < 0
      · rw [if_pos hx] at hmc ⊢
        have hi5 := hmc.2.2.lt
        have hin1 : inr (iN (i + 1)) 1400 := inr_iN (by omega) (by omega)
        have hxi1 : ix (iN (i + 1)) = i + 1 := ix_iN (by omega)
        have hmv : inr (mv x) 6 := by rcases x6 h7 hx with rfl | rfl | rfl | rfl | rfl | rfl <;> decide
        simp only [fX12_reckons_4, rn_gd, rn_lt, gd_t hin, hxi, hmc.1, iN_1, gd_t hin1, hxi1, hmc.2.1, gd_t hmv, gd_t hin2, hxt, true_and, hg x h7 hx]
        simp only [show ¬ ((2 : Int32) = 0) from by decide, show ¬ ((2 : Int32) = 1) from by decide, if_false, if_true, rn_gd, rn_lt, gd_t hin1, and_iff_right hin1, hxi1, hmc.2.1, hg x h7 hx, iN_1, gd_t hmv, and_iff_right hmv, gd_t hin2, and_iff_right hin2, true_and]
        refine rn_mono (ih (g x :: st) n (i + 2) (u2 S.1 94 st.length (g x), S.2) (by omega) (hmc2 st.length (g x) _ hmc.2.2) (SK.push hsk) hok.2 (hg2 st.length (g x)) (by simp only [List.length_cons]; omega)) (fun q hq => ⟨hq.1, (hfr _ _).tr hq.2⟩)
      · rw [if_neg hx] at hmc ⊢
        have hi5 := hmc.2.2.lt
        have hin1 : inr (iN (i + 1)) 1400 := inr_iN (by omega) (by omega)
        have hxi1 : ix (iN (i + 1)) = i + 1 := ix_iN (by omega)
        simp only [fX12_reckons_4, rn_gd, rn_lt, gd_t hin, hxi, hmc.1, iN_1, gd_t hin1, hxi1, hmc.2.1, gd_t hin2, hxt, true_and]
        simp only [show ¬ ((1 : Int32) = 0) from by decide, if_false, if_true, rn_gd, rn_lt, gd_t hin1, and_iff_right hin1, hxi1, hmc.2.1, iN_1, gd_t hin2, and_iff_right hin2, true_and]
        refine rn_mono (ih (x :: st) n (i + 2) (u2 S.1 94 st.length x, S.2) (by omega) (hmc2 st.length x _ hmc.2.2) (SK.push hsk) hok.2 (hg2 st.length x) (by simp only [List.length_cons]; omega)) (fun q hq => ⟨hq.1, (hfr _ _).tr hq.2⟩)
end MV
theorem of_add (b k c : Nat) : iN b + iN k + iN c = iN (b + k + c) := by rw [iN_add, iN_add]
theorem M_asks {N b n c a : Nat} {A : Nat → Nat → Int32} {sp : Nat → Int32} {L : List Int32} {S : PS} (hN : 30000 ≤ N) (hn : n ≤ 9) (hb : b ≤ 64) (hc : c < n) (hmr : MR b n A S) (hsp : S.1 81 c = sp c) (hmc : MC (S.1 82) a L) (hok : okc L 0) (hl : L.length ≤ 700) :
    rn (fX12_asks N (iN a) (iN b) (iN c) S) (fun q => q.1 = valS L A sp c ∧ FM (fun a => a = 93 ∨ a = 94) (fun _ => False) S q.2) := by
  have o1 : iN b + 10 + iN c = iN (b + 10 + c) := of_add b 10 c
  have o2 : iN b + 1 + iN c = iN (b + 1 + c) := of_add b 1 c
  have o3 : iN b + 46 + iN c = iN (b + 46 + c) := of_add b 46 c
  have o4 : iN b + 0 = iN b := Int32.add_zero _
  have i1 : inr (iN (b + 10 + c)) 128 := inr_iN (by omega) (by omega)
  have i2 : inr (iN (b + 1 + c)) 128 := inr_iN (by omega) (by omega)
  have i3 : inr (iN (b + 46 + c)) 128 := inr_iN (by omega) (by omega)
  have i4 : inr (iN b) 128 := inr_iN (by omega) (by omega)
  have i5 : inr (iN c) 9 := inr_iN (by omega) (by omega)
  have x1 : ix (iN (b + 10 + c)) = b + 10 + c := ix_iN (by omega)
  have x2 : ix (iN (b + 1 + c)) = b + 1 + c := ix_iN (by omega)
  have x3 : ix (iN (b + 46 + c)) = b + 46 + c := ix_iN (by omega)
  have x4 : ix (iN b) = b := ix_iN (by omega)
  have x5 : ix (iN c) = c := ix_iN (by omega)
  have hr := hmr.2 c hc
  simp only [fX12_asks, fX12_reckons, rn_gd, rn_lt, rn_bI, rn_bT, rn_some, o1, o2, o3, o4, gd_t i1, gd_t i2, gd_t i3, gd_t i4, gd_t i5, x1, x2, x3, x4, x5, true_and]
  refine rn_mono (M_val_l (g := gS A sp c) L [] N a _ (by omega) (by simp only [u2_o (show (82 : Nat) ≠ 93 by decide)]; exact hmc) trivial hok ?_ (by simp)) (fun q hq => ?_)
  · intro x h7 hx
    have : ix (0 : Int32) = 0 ∧ ix (1 : Int32) = 1 ∧ ix (2 : Int32) = 2 ∧ ix (3 : Int32) = 3 ∧ ix (4 : Int32) = 4 ∧ ix (5 : Int32) = 5 := by decide
    rcases x6 h7 hx with rfl | rfl | rfl | rfl | rfl | rfl
    · simp [mv, gS, u2_a2, hr.2.1, this]
    · simp [mv, gS, u2_a2, hr.1, this]
    · simp [mv, gS, u2_a2, hsp, this]
    · simp [mv, gS, u2_a2, hr.2.2.2.2.1, this]
    · simp [mv, gS, u2_a2, this]
    · simp [mv, gS, u2_a2, hmr.1, this]
  · refine ⟨?_, ?_⟩
    · have hlen := evS_len (gS A sp c) L [] hok
      unfold valS
      obtain ⟨v, hv⟩ : ∃ v, evS (gS A sp c) L [] = [v] := by
        match h : evS (gS A sp c) L [], hlen with
        | [v], _ => exact ⟨v, rfl⟩
      rw [hv] at hq ⊢
      exact hq.1.1
    · refine FM.tr ?_ (hq.2.mono (fun a h => Or.inr h) (fun _ h => h))
      exact (((((FM.rfl.u (by decide) (Or.inl rfl)).u (by decide) (Or.inl rfl)).u (by decide) (Or.inl rfl)).u (by decide) (Or.inl rfl)).u (by decide) (Or.inl rfl)).u (by decide) (Or.inl rfl)
