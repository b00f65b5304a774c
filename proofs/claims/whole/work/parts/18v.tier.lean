/-! ===== phase 2: tier ===== -/
theorem bt_and0 {x y : Int32} {f g : Nat → Int32} (h : bt x f) (h' : bt y g) : (x &&& y) = 0 ↔ ∀ i, i < 9 → ¬ (f i = 1 ∧ g i = 1) := by
  have hb : bt (x &&& y) (fun c => if f c = 1 then g c else 0) := by
    obtain ⟨m, hm, rfl, hf⟩ := h
    obtain ⟨m', hm', rfl, hg⟩ := h'
    refine ⟨m &&& m', bclr_lt hm, by rw [iN_and], fun c hc => ?_⟩
    show (if f c = 1 then g c else 0) = _
    rw [Nat.testBit_and, hf c hc, hg c hc]
    cases m.testBit c <;> cases m'.testBit c <;> simp
  constructor
  · intro e i hi q
    have := bt_fun hb (by rw [e]; exact bt_0) hi
    rw [if_pos q.1, q.2] at this
    exact absurd this (by decide)
  · intro e
    refine bt_uniq hb bt_0 (fun i hi => ?_)
    by_cases q : f i = 1
    · rw [if_pos q]
      rcases bt_01 h' hi with z | z
      · exact z
      · exact absurd ⟨q, z⟩ (e i hi)
    · rw [if_neg q]
/-- is there one that is of both -/
def anS (f g : Nat → Int32) : Nat → Int32
  | 0 => 0
  | k + 1 => if f k = 1 ∧ g k = 1 then 1 else anS f g k
theorem anS_s {f g : Nat → Int32} {k : Nat} : anS f g (k + 1) = if f k = 1 ∧ g k = 1 then 1 else anS f g k := by rw [anS]
theorem anS_1 {f g : Nat → Int32} : ∀ k, anS f g k = 1 ↔ ∃ s, s < k ∧ f s = 1 ∧ g s = 1
  | 0 => ⟨fun h => by rw [anS] at h; exact absurd h (by decide), fun ⟨s, h, _⟩ => by omega⟩
  | k + 1 => by
    rw [anS_s]
    by_cases e : f k = 1 ∧ g k = 1
    · rw [if_pos e]
      exact ⟨fun _ => ⟨k, by omega, e⟩, fun _ => rfl⟩
    · rw [if_neg e, anS_1 k]
      constructor
      · rintro ⟨s, h1, h2⟩
        exact ⟨s, by omega, h2⟩
      · rintro ⟨s, h1, h2⟩
        by_cases es : s = k
        · rw [es] at h2; exact absurd h2 e
        · exact ⟨s, by omega, h2⟩
theorem anS_01 {f g : Nat → Int32} : ∀ k, anS f g k = 0 ∨ anS f g k = 1
  | 0 => Or.inl (by rw [anS])
  | k + 1 => by
    rw [anS_s]
    by_cases e : f k = 1 ∧ g k = 1
    · rw [if_pos e]; exact Or.inr rfl
    · rw [if_neg e]; exact anS_01 k
theorem eq_01 {a b : Int32} (ha : a = 0 ∨ a = 1) (hb : b = 0 ∨ b = 1) (h : a = 1 ↔ b = 1) : a = b := by
  rcases ha with e | e <;> rcases hb with e' | e'
  · rw [e, e']
  · have := h.mpr e'; rw [e] at this; exact absurd this (by decide)
  · have := h.mp e; rw [e'] at this; exact absurd this (by decide)
  · rw [e, e']
/-- the next in the way told: w 0 straight below, else straight above -/
def nxR (w : Int32) (A : Rw) (t s : Nat) : Int32 := if w = 0 then blS A t s else blS A s t
def gR9 (w : Int32) (A : Rw) (c : Nat) : Nat → Nat → Int32
  | 0, x => if x = c then 1 else 0
  | k + 1, x => if x = c then 1 else anS (nxR w A x) (gR9 w A c k) 9
def rkR (w : Int32) (x : Nat) : Nat := if w = 0 then 8 - x else x
theorem gR9_s {w : Int32} {A : Rw} {c k x : Nat} : gR9 w A c (k + 1) x = if x = c then 1 else anS (nxR w A x) (gR9 w A c k) 9 := by rw [gR9]
theorem gR9_01 {w : Int32} {A : Rw} {c k x : Nat} : gR9 w A c k x = 0 ∨ gR9 w A c k x = 1 := by
  cases k with
  | zero =>
    rw [gR9]
    by_cases e : x = c
    · rw [if_pos e]; exact Or.inr rfl
    · rw [if_neg e]; exact Or.inl rfl
  | succ k =>
    rw [gR9_s]
    by_cases e : x = c
    · rw [if_pos e]; exact Or.inr rfl
    · rw [if_neg e]; exact anS_01 9
theorem bl_up {n : Nat} {A : Rw} {a b : Nat} (hw : WF n A) (ha : a < 9) (hb : b < 9) (h : blS A a b = 1) : a < b ∧ b < n := by
  have hn := hw.1
  have hr := hw.2 a ha
  unfold blS at h
  by_cases q : A 2 a = iN b ∨ A 3 a = iN b
  · rcases q with q | q
    · rcases hr.2.2.1 with e | ⟨d, e, h1, h2⟩
      · rw [e] at q; exact absurd q.symm (iN_n1 (by omega))
      · rw [e, iN_eq (by omega) (by omega)] at q
        omega
    · rcases hr.2.2.2.1 with e | ⟨d, e, h1, h2, -⟩
      · rw [e] at q; exact absurd q.symm (iN_n1 (by omega))
      · rw [e, iN_eq (by omega) (by omega)] at q
        omega
  · rw [if_neg q] at h; exact absurd h (by decide)
theorem nx_rk {n : Nat} {w : Int32} {A : Rw} {t s : Nat} (hw : WF n A) (ht : t < 9) (hs : s < 9) (h : nxR w A t s = 1) : rkR w s < rkR w t ∧ t < n ∧ s < n := by
  unfold nxR at h
  unfold rkR
  by_cases e : w = 0
  · rw [if_pos e] at h ⊢
    rw [if_pos e]
    have := bl_up hw ht hs h
    omega
  · rw [if_neg e] at h ⊢
    rw [if_neg e]
    have := bl_up hw hs ht h
    omega
theorem gR9_st {n : Nat} {w : Int32} {A : Rw} {c : Nat} (hw : WF n A) : ∀ k x, x < 9 → rkR w x ≤ k → gR9 w A c (k + 1) x = gR9 w A c k x
  | 0, x, hx, hr => by
    rw [gR9_s, gR9]
    by_cases e : x = c
    · rw [if_pos e, if_pos e]
    · rw [if_neg e, if_neg e]
      rcases anS_01 (f := nxR w A x) (g := gR9 w A c 0) 9 with q | q
      · exact q
      · obtain ⟨s, h1, h2, -⟩ := (anS_1 9).mp q
        have := nx_rk hw hx h1 h2
        omega
  | k + 1, x, hx, hr => by
    rw [gR9_s (k := k + 1), gR9_s]
    by_cases e : x = c
    · rw [if_pos e, if_pos e]
    · rw [if_neg e, if_neg e]
      refine eq_01 (anS_01 9) (anS_01 9) ?_
      rw [anS_1, anS_1]
      constructor
      · rintro ⟨s, h1, h2, h3⟩
        have := nx_rk hw hx h1 h2
        rw [gR9_st hw k s h1 (by omega)] at h3
        exact ⟨s, h1, h2, h3⟩
      · rintro ⟨s, h1, h2, h3⟩
        have := nx_rk hw hx h1 h2
        rw [← gR9_st hw k s h1 (by omega)] at h3
        exact ⟨s, h1, h2, h3⟩
def trT (w : Int32) (A : Rw) (c : Nat) (x : Nat) : Int32 := gR9 w A c 9 x
theorem trT_e {n : Nat} {w : Int32} {A : Rw} {c x : Nat} (hw : WF n A) (hx : x < 9) : trT w A c x = 1 ↔ x = c ∨ ∃ s, s < 9 ∧ nxR w A x s = 1 ∧ trT w A c s = 1 := by
  unfold trT
  have hk : rkR w x ≤ 8 := by unfold rkR; split <;> omega
  rw [gR9_s]
  by_cases e : x = c
  · rw [if_pos e]
    exact ⟨fun _ => Or.inl e, fun _ => rfl⟩
  · rw [if_neg e, anS_1]
    constructor
    · rintro ⟨s, h1, h2, h3⟩
      have := nx_rk hw hx h1 h2
      rw [← gR9_st hw 8 s h1 (by omega)] at h3
      exact Or.inr ⟨s, h1, h2, h3⟩
    · rintro (h | ⟨s, h1, h2, h3⟩)
      · exact absurd h e
      · have := nx_rk hw hx h1 h2
        rw [gR9_st hw 8 s h1 (by omega)] at h3
        exact ⟨s, h1, h2, h3⟩
theorem trT_c {w : Int32} {A : Rw} {c : Nat} : trT w A c c = 1 := by unfold trT; rw [gR9_s, if_pos rfl]
theorem trT_01 {w : Int32} {A : Rw} {c x : Nat} : trT w A c x = 0 ∨ trT w A c x = 1 := gR9_01
theorem trT_r {n : Nat} {w : Int32} {A : Rw} {c : Nat} (hw : WF n A) : ∀ k x, x < 9 → rkR w x ≤ k → trT w A c x = 1 → rkR w c ≤ rkR w x
  | 0, x, hx, hk, h => by
    rcases (trT_e hw hx).mp h with e | ⟨s, h1, h2, h3⟩
    · rw [e]; exact Nat.le_refl _
    · have := nx_rk hw hx h1 h2
      omega
  | k + 1, x, hx, hk, h => by
    rcases (trT_e hw hx).mp h with e | ⟨s, h1, h2, h3⟩
    · rw [e]; exact Nat.le_refl _
    · have h4 := nx_rk hw hx h1 h2
      have := trT_r hw k s h1 (by omega) h3
      omega
theorem trT_n {n : Nat} {w : Int32} {A : Rw} {c x : Nat} (hw : WF n A) (hc : c < n) (hx : x < 9) (h : trT w A c x = 1) : x < n := by
  rcases (trT_e hw hx).mp h with e | ⟨s, h1, h2, h3⟩
  · omega
  · exact (nx_rk hw hx h1 h2).2.1
def tieV (w : Int32) (A : Rw) (c : Nat) : Int32 := mkS (upd (trT w A c) c 0) 9
section TIE
variable {N n c : Nat} {A : Rw} {S : PS}
theorem C_above (hN : 30000 ≤ N) (hw : WF n A) (hc : c < n) (h : CU 18 A S) : fX2_allAbove N 18 (iN c) S = some (tieV 0 A c, S) := by
  have hn := hw.1
  have key : ∀ k x m, k ≤ c → bt x (fun i => if k ≤ i then trT 0 A c i else 0) → k < m → ∃ y, bt y (trT 0 A c) ∧ fX2_allAbove_9 N 18 (iN c) m x (iN k - 1) S = some (y, -1, S) := by
    intro k
    induction k with
    | zero =>
      intro x m hk hx hm
      obtain ⟨m', rfl⟩ : ∃ m', m = m' + 1 := ⟨m - 1, by omega⟩
      refine ⟨x, bt_congr hx (fun i _ => by rw [if_pos (by omega)]), ?_⟩
      rw [fX2_allAbove_9, if_pos (by decide)]
      rfl
    | succ k ih =>
      intro x m hk hx hm
      obtain ⟨m', rfl⟩ : ∃ m', m = m' + 1 := ⟨m - 1, by omega⟩
      obtain ⟨z, hz, bz⟩ := C_below (N := N) is18 (show k < 9 by omega) hw h
      have hg : ((z &&& x) = 0) ↔ ¬ trT 0 A c k = 1 := by
        rw [bt_and0 bz hx, trT_e hw (by omega)]
        constructor
        · intro a b
          rcases b with b | ⟨s, h1, h2, h3⟩
          · omega
          · have h4 : blS A k s = 1 := h2
            have := bl_up hw (by omega) h1 h4
            refine a s h1 ⟨h4, ?_⟩
            rw [if_pos (by omega)]; exact h3
        · intro a i hi b
          have := bl_up hw (by omega) hi b.1
          have b2 := b.2
          rw [if_pos (show k + 1 ≤ i by omega)] at b2
          exact a (Or.inr ⟨i, hi, b.1, b2⟩)
      rw [iN_s1, fX2_allAbove_9, if_neg (iN_pos (by omega)), gd_t is18.ob, hz, bI_s]
      by_cases e : trT 0 A c k = 1
      · rw [if_neg (fun q => hg.mp q e), bitOf_c (by omega), bI_s, lt_b, lt_b, show iN k + (-1) = iN k - 1 from (Int32.sub_eq_add_neg _ _).symm]
        refine ih _ m' (by omega) (bt_congr (bt_or hx (show k < 9 by omega)) (fun i hi => ?_)) (by omega)
        by_cases ei : i = k
        · rw [ei, if_pos (Nat.le_refl _), upd_at, e]
        · rw [upd_o ei]
          by_cases el : k ≤ i
          · rw [if_pos el, if_pos (by omega)]
          · rw [if_neg el, if_neg (by omega)]
      · rw [if_pos (hg.mpr e), lt_b, show iN k + (-1) = iN k - 1 from (Int32.sub_eq_add_neg _ _).symm]
        refine ih _ m' (by omega) (bt_congr hx (fun i hi => ?_)) (by omega)
        by_cases ei : i = k
        · rw [ei, if_pos (Nat.le_refl _), if_neg (by omega)]
          rcases trT_01 (w := 0) (A := A) (c := c) (x := k) with q | q
          · exact q
          · exact absurd q e
        · by_cases el : k ≤ i
          · rw [if_pos el, if_pos (by omega)]
          · rw [if_neg el, if_neg (by omega)]
  have hb : bt (1 <<< (iN c &&& 31)) (fun i => if c ≤ i then trT 0 A c i else 0) := by
    have := bt_or bt_0 (show c < 9 by omega)
    rw [show (0 : Int32) ||| (1 <<< (iN c &&& 31)) = 1 <<< (iN c &&& 31) from by simp] at this
    refine bt_congr this (fun i hi => ?_)
    by_cases ei : i = c
    · rw [ei, if_pos (Nat.le_refl _), upd_at, trT_c]
    · rw [upd_o ei]
      by_cases el : c ≤ i
      · rw [if_pos el]
        rcases trT_01 (w := 0) (A := A) (c := c) (x := i) with q | q
        · exact q
        · have := trT_r hw 8 i hi (by unfold rkR; rw [if_pos rfl]; omega) q
          unfold rkR at this
          rw [if_pos rfl, if_pos rfl] at this
          omega
      · rw [if_neg el]
  obtain ⟨y, hy, e⟩ := key c _ N (by omega) hb (by omega)
  unfold fX2_allAbove tieV
  rw [bitOf_c (by omega), bI_s, lt_b, e]
  show bI (fX11_bitOf N (iN c) S) (fun x23 S24 => some ((y &&& (x23 ^^^ (-1))), S24)) = _
  rw [bitOf_c (by omega), bI_s, bt_mk (bt_clr hy (show c < 9 by omega))]
theorem C_allBelow (hN : 30000 ≤ N) (hw : WF n A) (hc : c < n) (h : CU 18 A S) : fX2_allBelow N 18 (iN c) S = some (tieV 1 A c, S) := by
  have hn := hw.1
  have nx1 : ∀ t s, nxR 1 A t s = blS A s t := fun t s => if_neg (by decide)
  have key : ∀ k j x m, j + k = 9 → c < j → bt x (fun i => anS (fun a => blS A a i) (trT 1 A c) j) → k < m → ∃ y, bt y (fun i => anS (fun a => blS A a i) (trT 1 A c) 9) ∧ fX2_allBelow_10 N 18 (iN c) m x (iN j) S = some (y, iN 9, S) := by
    intro k
    induction k with
    | zero =>
      intro j x m hj hcj hx hm
      obtain ⟨m', rfl⟩ : ∃ m', m = m' + 1 := ⟨m - 1, by omega⟩
      have e : j = 9 := by omega
      subst e
      refine ⟨x, hx, ?_⟩
      rw [fX2_allBelow_10, if_pos (show (9 : Int32) ≤ iN 9 from Int32.le_refl _)]
    | succ k ih =>
      intro j x m hj hcj hx hm
      obtain ⟨m', rfl⟩ : ∃ m', m = m' + 1 := ⟨m - 1, by omega⟩
      have hj9 : j < 9 := by omega
      have hg : anS (fun a => blS A a j) (trT 1 A c) j = trT 1 A c j := by
        refine eq_01 (anS_01 _) trT_01 ?_
        rw [anS_1, trT_e hw hj9]
        constructor
        · rintro ⟨s, h1, h2, h3⟩
          exact Or.inr ⟨s, by omega, by rw [nx1]; exact h2, h3⟩
        · rintro (q | ⟨s, h1, h2, h3⟩)
          · omega
          · rw [nx1] at h2
            have := bl_up hw h1 hj9 h2
            exact ⟨s, by omega, h2, h3⟩
      have nxt : ∀ i, anS (fun a => blS A a i) (trT 1 A c) (j + 1) = if blS A j i = 1 ∧ trT 1 A c j = 1 then 1 else anS (fun a => blS A a i) (trT 1 A c) j := fun i => anS_s
      rw [fX2_allBelow_10, if_neg (by rw [i9l (by omega)]; omega), has_bt hx hj9, bI_s]
      rw [hg]
      rcases trT_01 (w := 1) (A := A) (c := c) (x := j) with e | e
      · rw [if_pos e, lt_b, iN_1]
        refine ih (j + 1) _ m' (by omega) (by omega) (bt_congr hx (fun i hi => ?_)) (by omega)
        rw [nxt, if_neg (fun q => by rw [e] at q; exact absurd q.2 (by decide))]
      · obtain ⟨z, hz, bz⟩ := C_below (N := N) is18 hj9 hw h
        rw [if_neg (by rw [e]; decide), gd_t is18.ob, hz, bI_s, lt_b, lt_b, iN_1]
        refine ih (j + 1) _ m' (by omega) (by omega) (bt_congr (bt_orr hx bz) (fun i hi => ?_)) (by omega)
        rw [nxt]
        rcases anS_01 (f := fun a => blS A a i) (g := trT 1 A c) j with q | q
        · rw [q, if_pos rfl]
          rcases bl01 (A := A) (c := j) (d := i) with b | b
          · rw [b, if_neg (fun q => absurd q.1 (by decide))]
          · rw [b, if_pos ⟨rfl, e⟩]
        · rw [q, if_neg (show ¬ (1 : Int32) = 0 by decide)]
          split <;> rfl
  obtain ⟨z, hz, bz⟩ := C_below (N := N) is18 (show c < 9 by omega) hw h
  have low : ∀ a, a < 9 → trT 1 A c a = 1 → c ≤ a := fun a ha q => by
    have := trT_r hw 8 a ha (by unfold rkR; rw [if_neg (by decide)]; omega) q
    unfold rkR at this
    rw [if_neg (by decide), if_neg (by decide)] at this
    exact this
  have hb : bt z (fun i => anS (fun a => blS A a i) (trT 1 A c) (c + 1)) := by
    refine bt_congr bz (fun i hi => eq_01 (anS_01 _) bl01 ?_)
    rw [anS_1]
    constructor
    · rintro ⟨s, h1, h2, h3⟩
      have := low s (by omega) h3
      have e : s = c := by omega
      rw [e] at h2
      exact h2
    · intro q
      exact ⟨c, by omega, q, trT_c⟩
  obtain ⟨y, hy, e⟩ := key (8 - c) (c + 1) z N (by omega) (by omega) hb (by omega)
  have hy2 : bt y (upd (trT 1 A c) c 0) := by
    refine bt_congr hy (fun i hi => ?_)
    by_cases ei : i = c
    · rw [ei, upd_at]
      rcases anS_01 (f := fun a => blS A a c) (g := trT 1 A c) 9 with q | q
      · exact q.symm
      · obtain ⟨s, h1, h2, h3⟩ := (anS_1 9).mp q
        have a1 := low s h1 h3
        have a2 := bl_up hw h1 (by omega) h2
        omega
    · rw [upd_o ei]
      refine eq_01 trT_01 (anS_01 _) ?_
      rw [trT_e hw hi, anS_1]
      constructor
      · rintro (q | ⟨s, h1, h2, h3⟩)
        · exact absurd q ei
        · rw [nx1] at h2
          exact ⟨s, h1, h2, h3⟩
      · rintro ⟨s, h1, h2, h3⟩
        exact Or.inr ⟨s, h1, by rw [nx1]; exact h2, h3⟩
  unfold fX2_allBelow tieV
  rw [gd_t is18.ob, hz, bI_s, lt_b, iN_1, e, ← bt_mk hy2]
  rfl
end TIE
