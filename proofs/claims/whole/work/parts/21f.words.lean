/-! ===== phase 2: words, in the model ===== -/
/-- the class's number of the model's k-th word -/
def m2c (k : Nat) : Nat := [4, 5, 6, 7, 8, 0, 1, 2, 11, 9, 10, 3].getD k 0
theorem k_m2c : ∀ k : Fin 12, m2c k.val < 12 := by decide
theorem k_dist : ∀ j k : Fin 12, lLen (m2c j.val) = lLen (m2c k.val) → (∀ i : Fin 6, i.val < lLen (m2c k.val) → sch (m2c j.val) i.val = sch (m2c k.val) i.val) → j = k := by decide +kernel
def ltK (k : Nat) : Int64 := pkL (sch (m2c k)) 0 (lLen (m2c k))
section LET
variable {N : Nat} {S : PS}
theorem M_lt0 : fX12_letters N (iN 0) S = some (ltK 0, S) := by
  rw [show ltK 0 = (((((((102 : Int32).toInt64 - 96) <<< ((5 : Int32).toInt64 &&& 63)) ||| ((105 - 96 : Int32).toInt64)) <<< ((5 : Int32).toInt64 &&& 63)) ||| ((108 - 96 : Int32).toInt64)) <<< ((5 : Int32).toInt64 &&& 63)) ||| ((108 - 96 : Int32).toInt64) from by decide +kernel]
  rfl
theorem M_lt1 : fX12_letters N (iN 1) S = some (ltK 1, S) := by
  rw [show ltK 1 = (((((((((104 : Int32).toInt64 - 96) <<< ((5 : Int32).toInt64 &&& 63)) ||| ((111 - 96 : Int32).toInt64)) <<< ((5 : Int32).toInt64 &&& 63)) ||| ((108 - 96 : Int32).toInt64)) <<< ((5 : Int32).toInt64 &&& 63)) ||| ((100 - 96 : Int32).toInt64)) <<< ((5 : Int32).toInt64 &&& 63)) ||| ((115 - 96 : Int32).toInt64) from by decide +kernel]
  rfl
theorem M_lt2 : fX12_letters N (iN 2) S = some (ltK 2, S) := by
  rw [show ltK 2 = (((((((((((115 : Int32).toInt64 - 96) <<< ((5 : Int32).toInt64 &&& 63)) ||| ((112 - 96 : Int32).toInt64)) <<< ((5 : Int32).toInt64 &&& 63)) ||| ((114 - 96 : Int32).toInt64)) <<< ((5 : Int32).toInt64 &&& 63)) ||| ((105 - 96 : Int32).toInt64)) <<< ((5 : Int32).toInt64 &&& 63)) ||| ((110 - 96 : Int32).toInt64)) <<< ((5 : Int32).toInt64 &&& 63)) ||| ((103 - 96 : Int32).toInt64) from by decide +kernel]
  rfl
theorem M_lt3 : fX12_letters N (iN 3) S = some (ltK 3, S) := by
  rw [show ltK 3 = (((((((116 : Int32).toInt64 - 96) <<< ((5 : Int32).toInt64 &&& 63)) ||| ((105 - 96 : Int32).toInt64)) <<< ((5 : Int32).toInt64 &&& 63)) ||| ((112 - 96 : Int32).toInt64)) <<< ((5 : Int32).toInt64 &&& 63)) ||| ((115 - 96 : Int32).toInt64) from by decide +kernel]
  rfl
theorem M_lt4 : fX12_letters N (iN 4) S = some (ltK 4, S) := by
  rw [show ltK 4 = (((((((104 : Int32).toInt64 - 96) <<< ((5 : Int32).toInt64 &&& 63)) ||| ((111 - 96 : Int32).toInt64)) <<< ((5 : Int32).toInt64 &&& 63)) ||| ((117 - 96 : Int32).toInt64)) <<< ((5 : Int32).toInt64 &&& 63)) ||| ((114 - 96 : Int32).toInt64) from by decide +kernel]
  rfl
theorem M_lt5 : fX12_letters N (iN 5) S = some (ltK 5, S) := by
  rw [show ltK 5 = (((((99 : Int32).toInt64 - 96) <<< ((5 : Int32).toInt64 &&& 63)) ||| ((117 - 96 : Int32).toInt64)) <<< ((5 : Int32).toInt64 &&& 63)) ||| ((112 - 96 : Int32).toInt64) from by decide +kernel]
  rfl
theorem M_lt6 : fX12_letters N (iN 6) S = some (ltK 6, S) := by
  rw [show ltK 6 = (((((((112 : Int32).toInt64 - 96) <<< ((5 : Int32).toInt64 &&& 63)) ||| ((105 - 96 : Int32).toInt64)) <<< ((5 : Int32).toInt64 &&& 63)) ||| ((112 - 96 : Int32).toInt64)) <<< ((5 : Int32).toInt64 &&& 63)) ||| ((101 - 96 : Int32).toInt64) from by decide +kernel]
  rfl
theorem M_lt7 : fX12_letters N (iN 7) S = some (ltK 7, S) := by
  rw [show ltK 7 = (((((((((108 : Int32).toInt64 - 96) <<< ((5 : Int32).toInt64 &&& 63)) ||| ((101 - 96 : Int32).toInt64)) <<< ((5 : Int32).toInt64 &&& 63)) ||| ((97 - 96 : Int32).toInt64)) <<< ((5 : Int32).toInt64 &&& 63)) ||| ((107 - 96 : Int32).toInt64)) <<< ((5 : Int32).toInt64 &&& 63)) ||| ((115 - 96 : Int32).toInt64) from by decide +kernel]
  rfl
theorem M_lt8 : fX12_letters N (iN 8) S = some (ltK 8, S) := by
  rw [show ltK 8 = (((((((((102 : Int32).toInt64 - 96) <<< ((5 : Int32).toInt64 &&& 63)) ||| ((114 - 96 : Int32).toInt64)) <<< ((5 : Int32).toInt64 &&& 63)) ||| ((111 - 96 : Int32).toInt64)) <<< ((5 : Int32).toInt64 &&& 63)) ||| ((115 - 96 : Int32).toInt64)) <<< ((5 : Int32).toInt64 &&& 63)) ||| ((116 - 96 : Int32).toInt64) from by decide +kernel]
  rfl
theorem M_lt9 : fX12_letters N (iN 9) S = some (ltK 9, S) := by
  rw [show ltK 9 = (((((97 : Int32).toInt64 - 96) <<< ((5 : Int32).toInt64 &&& 63)) ||| ((110 - 96 : Int32).toInt64)) <<< ((5 : Int32).toInt64 &&& 63)) ||| ((100 - 96 : Int32).toInt64) from by decide +kernel]
  rfl
theorem M_lt10 : fX12_letters N (iN 10) S = some (ltK 10, S) := by
  rw [show ltK 10 = (((111 : Int32).toInt64 - 96) <<< ((5 : Int32).toInt64 &&& 63)) ||| ((114 - 96 : Int32).toInt64) from by decide +kernel]
  rfl
theorem M_lt11 : fX12_letters N (iN 11) S = some (ltK 11, S) := by
  rw [show ltK 11 = (((((110 : Int32).toInt64 - 96) <<< ((5 : Int32).toInt64 &&& 63)) ||| ((111 - 96 : Int32).toInt64)) <<< ((5 : Int32).toInt64 &&& 63)) ||| ((116 - 96 : Int32).toInt64) from by decide +kernel]
  rfl
theorem M_lt {k : Nat} (hk : k < 12) : fX12_letters N (iN k) S = some (ltK k, S) := by
  have : k = 0 ∨ k = 1 ∨ k = 2 ∨ k = 3 ∨ k = 4 ∨ k = 5 ∨ k = 6 ∨ k = 7 ∨ k = 8 ∨ k = 9 ∨ k = 10 ∨ k = 11 := by omega
  rcases this with rfl | rfl | rfl | rfl | rfl | rfl | rfl | rfl | rfl | rfl | rfl | rfl
  · exact M_lt0
  · exact M_lt1
  · exact M_lt2
  · exact M_lt3
  · exact M_lt4
  · exact M_lt5
  · exact M_lt6
  · exact M_lt7
  · exact M_lt8
  · exact M_lt9
  · exact M_lt10
  · exact M_lt11
end LET
/-- which of the model's words the token is -/
def wI (b : Nat → Int32) (L p : Nat) : Int32 := rfn (fnd (fun k => decide (wdP b L p (m2c k))) 12 0)
section WDM
variable {N : Nat} {b : Nat → Int32} {L : Nat}
theorem wd_u {p j k : Nat} (hj : j < 12) (hk : k < 12) (h1 : wdP b L p (m2c j)) (h2 : wdP b L p (m2c k)) : j = k := by
  have := k_dist ⟨j, hj⟩ ⟨k, hk⟩ (h1.2.1.symm.trans h2.2.1) (fun i hi => by
    have e : lLen (m2c j) = lLen (m2c k) := h1.2.1.symm.trans h2.2.1
    dsimp only at hi ⊢
    rw [← h1.2.2 i.val (by omega), h2.2.2 i.val hi])
  exact congrArg Fin.val this
theorem wI_k {p k : Nat} (hk : k < 12) : wI b L p = iN k ↔ wdP b L p (m2c k) := by
  unfold wI
  constructor
  · intro h
    cases e : fnd (fun k => decide (wdP b L p (m2c k))) 12 0 with
    | none =>
      rw [e] at h
      exact absurd h.symm (iN_n1 (by omega))
    | some j =>
      rw [e] at h
      have h' : iN j = iN k := h
      have r := fnd_r e
      rw [iN_eq (by omega) (by omega)] at h'
      subst h'
      -- j is found, so it is so
      by_cases q : wdP b L p (m2c j)
      · exact q
      · exfalso
        have key : ∀ m a, fnd (fun k => decide (wdP b L p (m2c k))) m a = some j → decide (wdP b L p (m2c j)) = true := by
          intro m
          induction m with
          | zero => intro a h; rw [fnd] at h; cases h
          | succ m ih =>
            intro a h
            by_cases g : decide (wdP b L p (m2c a)) = true
            · rw [fnd_t g] at h
              cases h
              exact g
            · rw [fnd_f g] at h
              exact ih (a + 1) h
        exact q (of_decide_eq_true (key 12 0 e))
  · intro h
    rw [fnd_is (j := k) (by omega) (by omega) (decide_eq_true h) (fun i _ hi q => ?_)]
    · rfl
    · have := wd_u (by omega) hk (of_decide_eq_true q) h
      omega
theorem wI_r {p : Nat} : wI b L p = -1 ∨ ∃ k, k < 12 ∧ wI b L p = iN k := by
  unfold wI
  cases e : fnd (fun k => decide (wdP b L p (m2c k))) 12 0 with
  | none => exact Or.inl rfl
  | some j =>
    have r := fnd_r e
    exact Or.inr ⟨j, by omega, rfl⟩
theorem wI_1 {p : Nat} (h : ¬ tkd b L p = 1) : wI b L p = -1 := by
  rcases wI_r (b := b) (L := L) (p := p) with e | ⟨k, hk, e⟩
  · exact e
  · exact absurd ((wI_k hk).mp e).1 h
theorem ltK_eq {p k : Nat} (hk : k < 12) (hp : p ≤ L) (h1 : tkd b L p = 1) (h6 : tto b L p - tfr b L p ≤ 6) : pkL b (tfr b L p) (tto b L p - tfr b L p) = ltK k ↔ wdP b L p (m2c k) := by
  have t1 := tkd1 hp h1
  have kc := k_m2c ⟨k, hk⟩
  have ks := k_sch ⟨m2c k, kc⟩
  dsimp only at ks
  have a := nn_pk (b := b) (fr := tfr b L p) (tto b L p - tfr b L p) h6 (fun i hi => t1.2.2 _ (by omega) (by omega))
  have c := nn_pk (b := sch (m2c k)) (fr := 0) (lLen (m2c k)) ks.1 (fun i hi => by rw [Nat.zero_add]; exact ks.2.2 ⟨i, by omega⟩ hi)
  have rg : ∀ x : Int32, 97 ≤ x.toInt ∧ x.toInt ≤ 122 → ((ix x : Nat) : Int) = x.toInt := fun x hx => Int.toNat_of_nonneg (by omega)
  constructor
  · intro e
    have e2 : nnL (pkL b (tfr b L p) (tto b L p - tfr b L p)) = nnL (pkL (sch (m2c k)) 0 (lLen (m2c k))) := by rw [e]; rfl
    rw [a.1, c.1] at e2
    have i := pkN_inj _ _ (fun i hi => by
      have q := t1.2.2 (tfr b L p + i) (by omega) (by omega)
      have := rg _ q
      omega) (fun i hi => by
      have q := ks.2.2 ⟨i, by omega⟩ hi
      dsimp only at q
      have := rg _ q
      rw [Nat.zero_add]
      omega) e2
    refine ⟨h1, i.1, fun j hj => ?_⟩
    have e3 := i.2 j (by omega)
    rw [Nat.zero_add] at e3
    have q1 := t1.2.2 (tfr b L p + j) (by omega) (by omega)
    have q2 := ks.2.2 ⟨j, by omega⟩ hj
    dsimp only at q2
    have r1 := rg _ q1
    have r2 := rg _ q2
    exact Int32.toInt_inj.mp (by omega)
  · intro e
    apply nn_inj
    show _ = nnL (pkL (sch (m2c k)) 0 (lLen (m2c k)))
    rw [a.1, c.1, e.2.1]
    have cg : ∀ n, n ≤ lLen (m2c k) → pkN (fun i => ix (b (tfr b L p + i)) - 96) n = pkN (fun i => ix (sch (m2c k) (0 + i)) - 96) n := by
      intro n
      induction n with
      | zero => intro _; rw [pkN, pkN]
      | succ n ih =>
        intro hn
        rw [pkN_s, pkN_s, ih (by omega), e.2.2 n (by omega), Nat.zero_add]
    exact cg _ (Nat.le_refl _)
theorem M_known {p : Nat} {S : PS} (hN : 30000 ≤ N) (h : MTk b L p S) : fX12_knownWord N S = some (wI b L p, S) := by
  obtain ⟨h1, hp, h3, h4, h5, h6, h7, h8, h9⟩ := h
  have hL := h1.1
  have ht := tto_le (b := b) hp
  have hkd := tkd_lt (b := b) (L := L) (p := p)
  unfold fX12_knownWord
  rw [h5, h7]
  by_cases e : tkd b L p = 1
  · have em : mkd b L p = 1 := by unfold mkd; rw [if_neg (by omega), e]; rfl
    rw [if_pos em, show (6 : Int32) = iN 6 from rfl]
    by_cases e6 : tto b L p - tfr b L p ≤ 6
    · rw [if_pos (by rw [iN_le (by omega) (by omega)]; exact e6)]
      have key : ∀ d j f, j + d = 12 → d < f → (∀ i, i < j → ¬ wdP b L p (m2c i)) → ∃ t y, fX12_knownWord_21 N f (iN j) S = some (t, y, S) ∧ (if t = 0 then (-1) else y) = wI b L p := by
        intro d
        induction d with
        | zero =>
          intro j f hj hf hi
          obtain ⟨f', rfl⟩ : ∃ f', f = f' + 1 := ⟨f - 1, by omega⟩
          have ej : j = 12 := by omega
          subst ej
          refine ⟨0, iN 12, ?_, ?_⟩
          · rw [fX12_knownWord_21, if_pos (show (12 : Int32) ≤ iN 12 from Int32.le_refl _)]
          · rw [if_pos rfl]
            rcases wI_r (b := b) (L := L) (p := p) with q | ⟨k, hk, q⟩
            · exact q.symm
            · exact absurd ((wI_k hk).mp q) (hi k hk)
        | succ d ih =>
          intro j f hj hf hi
          obtain ⟨f', rfl⟩ : ∃ f', f = f' + 1 := ⟨f - 1, by omega⟩
          have lk := ltK_eq (b := b) (L := L) (k := j) (by omega) hp e e6
          rw [fX12_knownWord_21, if_neg (by rw [show (12 : Int32) = iN 12 from rfl, iN_le (by omega) (by omega)]; omega), M_lt (by omega)]
          show ∃ t y, (if (lg_cmp (ltK j) (S.2.1 80 18)) = 0 then some (1, iN j, S) else lt (iN j + 1 : Int32) fun x8 => fX12_knownWord_21 N f' x8 S) = some (t, y, S) ∧ _
          rw [h9 e]
          by_cases g : wdP b L p (m2c j)
          · rw [if_pos (lg_0.mpr (lk.mpr g).symm)]
            exact ⟨1, iN j, rfl, by rw [if_neg (by decide)]; exact ((wI_k (by omega)).mpr g).symm⟩
          · rw [if_neg (fun q => g (lk.mp (lg_0.mp q).symm)), lt_b, iN_1]
            refine ih (j + 1) f' (by omega) (by omega) (fun i hi2 => ?_)
            by_cases ei : i = j
            · rw [ei]; exact g
            · exact hi i (by omega)
      obtain ⟨t, y, et, ev⟩ := key 12 0 N (by omega) (by omega) (fun i hi => by omega)
      rw [show fX12_knownWord_21 N N 0 S = fX12_knownWord_21 N N (iN 0) S from rfl, et]
      show (if t = 0 then some ((-1 : Int32), S) else some (y, S)) = _
      rw [← ev]
      split <;> rfl
    · rw [if_neg (by rw [iN_le (by omega) (by omega)]; exact e6)]
      rcases wI_r (b := b) (L := L) (p := p) with q | ⟨k, hk, q⟩
      · rw [q]
      · have w := (wI_k hk).mp q
        have ks := (k_sch ⟨m2c k, k_m2c ⟨k, hk⟩⟩).1
        dsimp only at ks
        have := w.2.1
        omega
  · rw [if_neg, wI_1 e]
    unfold mkd
    by_cases e3 : tkd b L p = 3
    · rw [if_pos e3]
      unfold sgK
      repeat (first | (split; decide) | decide)
    · rw [if_neg e3, show (1 : Int32) = iN 1 from rfl, iN_eq (by omega) (by omega)]
      exact e
end WDM
