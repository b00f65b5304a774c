/-! ===== phase 2: led elsewhere: the guesses, in the class ===== -/
def gsX (v : Nat) : Int32 := if v % 10 = 9 then -1 else iN (v % 10)
abbrev gsP (V : Cv) (A : Rw) (m : Nat) (H : Nat → Nat → Int32) (v : Nat) : Prop := (v % 10 = 9 ∨ (v / 10 < v % 10 ∧ v % 10 < V.1)) ∧ ¬ (A 2 (v / 10) = gsX v ∧ A 3 (v / 10) = -1) ∧ fitA V (ledS A (v / 10) (gsX v)) m H
def gsB (V : Cv) (A : Rw) (m : Nat) (H : Nat → Nat → Int32) (v : Nat) : Bool := decide (gsP V A m H v)
def cnQ (Q : Nat → Bool) : Nat → Nat
  | 0 => 0
  | k + 1 => if Q k = true then cnQ Q k + 1 else cnQ Q k
def fsQ (Q : Nat → Bool) : Nat → Int32
  | 0 => -1
  | k + 1 => if Q k = true then (if fsQ Q k = -1 then iN k else fsQ Q k) else fsQ Q k
theorem cnQ_s {Q : Nat → Bool} {k : Nat} : cnQ Q (k + 1) = if Q k = true then cnQ Q k + 1 else cnQ Q k := by rw [cnQ]
theorem fsQ_s {Q : Nat → Bool} {k : Nat} : fsQ Q (k + 1) = if Q k = true then (if fsQ Q k = -1 then iN k else fsQ Q k) else fsQ Q k := by rw [fsQ]
theorem cnQ_le {Q : Nat → Bool} : ∀ k, cnQ Q k ≤ k
  | 0 => by rw [cnQ]; exact Nat.le_refl _
  | k + 1 => by
    have := cnQ_le (Q := Q) k
    rw [cnQ_s]
    split <;> omega
theorem cn_fs {Q : Nat → Bool} : ∀ k, k < 2147483648 → (cnQ Q k = 0 ↔ fsQ Q k = -1)
  | 0, _ => by rw [cnQ, fsQ]; exact ⟨fun _ => rfl, fun _ => rfl⟩
  | k + 1, h => by
    have ih := cn_fs (Q := Q) k (by omega)
    rw [cnQ_s, fsQ_s]
    by_cases e : Q k = true
    · rw [if_pos e, if_pos e]
      refine ⟨fun q => by omega, fun q => ?_⟩
      by_cases e2 : fsQ Q k = -1
      · rw [if_pos e2] at q
        exact absurd q (iN_n1 (by omega))
      · rw [if_neg e2] at q
        exact absurd q e2
    · rw [if_neg e, if_neg e]
      exact ih
/-- what tips by those found -/
def snQ (V : Cv) (A : Rw) (Q : Nat → Bool) (k i s : Nat) : Prop := ∃ v, v < k ∧ Q v = true ∧ tpK V (ledS A (v / 10) (gsX v)) (i + 1) = iN s
def lb (x : Int64) (b : Nat) : Bool := x.toBitVec.getLsbD b
/-- what the class keeps of the guesses below k -/
def LQ (V : Cv) (A : Rw) (Q : Nat → Bool) (k : Nat) (S : PS) : Prop :=
  S.1 7 2 = iN (cnQ Q k) ∧ S.1 7 3 = fsQ Q k ∧ ∀ i, i < 40 → ∀ s, s < 512 → (lb (S.2.1 33 (8 * i + s / 64)) (s % 64) = true ↔ snQ V A Q k i s)
theorem LQ.skip {V : Cv} {A : Rw} {Q : Nat → Bool} {S : PS} {k : Nat} : ∀ d, (∀ v, k ≤ v → v < k + d → ¬ Q v = true) → LQ V A Q k S → LQ V A Q (k + d) S
  | 0, _, h => h
  | d + 1, hq, h => by
    have ih := LQ.skip d (fun v h1 h2 => hq v h1 (by omega)) h
    have e := hq (k + d) (by omega) (by omega)
    obtain ⟨h1, h2, h3⟩ := ih
    refine ⟨?_, ?_, fun i hi s hs => ?_⟩
    · rw [← Nat.add_assoc, cnQ_s, if_neg e]; exact h1
    · rw [← Nat.add_assoc, fsQ_s, if_neg e]; exact h2
    · rw [h3 i hi s hs]
      constructor
      · rintro ⟨v, a, b⟩
        exact ⟨v, by omega, b⟩
      · rintro ⟨v, a, b, c⟩
        by_cases ev : v = k + d
        · rw [ev] at b; exact absurd b e
        · exact ⟨v, by omega, b, c⟩
theorem k_sh64 : ∀ b : Fin 64, ((1 : Int64) <<< ((iN b.val).toInt64 &&& 63)) = Int64.ofNat (2 ^ b.val) := by decide +kernel
theorem k_mod64 : ∀ s : Fin 512, (iN s.val - iN s.val / 64 * 64) = iN (s.val % 64) ∧ iN s.val / 64 = iN (s.val / 64) := by decide +kernel
theorem lb_or {x : Int64} {b c : Nat} (hb : b < 64) (hc : c < 64) : lb (x ||| ((1 : Int64) <<< ((iN c).toInt64 &&& 63))) b = true ↔ lb x b = true ∨ b = c := by
  rw [show ((1 : Int64) <<< ((iN c).toInt64 &&& 63)) = Int64.ofNat (2 ^ c) from k_sh64 ⟨c, hc⟩]
  unfold lb
  rw [Int64.toBitVec_or, BitVec.getLsbD_or, show (Int64.ofNat (2 ^ c)).toBitVec = BitVec.ofNat 64 (2 ^ c) from rfl, BitVec.getLsbD_ofNat, Nat.testBit_two_pow]
  have e : (c = b) ↔ b = c := ⟨Eq.symm, Eq.symm⟩
  simp [hb, e]
theorem u2L_2 {f : Nat → Nat → Int64} {a k b j : Nat} {x : Int64} : u2L f a k x b j = if b = a ∧ j = k then x else f b j := by
  by_cases h : b = a
  · by_cases h2 : j = k <;> simp [u2L, vp_updL, h, h2]
  · simp [u2L, h]
/-- nothing but what a search may change -/
def FS (S T : PS) : Prop := (∀ a, ¬ (ftC a ∨ a = 7) → T.1 a = S.1 a) ∧ (∀ a, a ≠ 33 → T.2.1 a = S.2.1 a) ∧ ∀ a k, ¬ (a = 5 ∧ k = 4) → T.2.2 a k = S.2.2 a k
theorem FS.rfl {S : PS} : FS S S := ⟨fun _ _ => Eq.refl _, fun _ _ => Eq.refl _, fun _ _ _ => Eq.refl _⟩
theorem FS.tr {S T U : PS} (h : FS S T) (h' : FS T U) : FS S U := ⟨fun a ha => (h'.1 a ha).trans (h.1 a ha), fun a ha => (h'.2.1 a ha).trans (h.2.1 a ha), fun a k hk => (h'.2.2 a k hk).trans (h.2.2 a k hk)⟩
theorem FS.ft {S T : PS} (h : FT S T) : FS S T := ⟨fun a ha => h.1 a (fun q => ha (Or.inl (Or.inl q))), fun a _ => by rw [h.2.1], h.2.2⟩
theorem FS.fc {cs : Nat → Prop} {S T : PS} (h : FC cs S T) (hc : ∀ a, cs a → ftC a ∨ a = 7) : FS S T := ⟨fun a ha => h.1 a (fun q => ha (hc a q)), fun a _ => by rw [h.2], fun a k _ => by rw [h.2]⟩
theorem FS.fq {S T : PS} (h : FS S T) : FQ S T := by
  have hp : ∀ a, (a = 0 ∨ a = 2 ∨ 80 ≤ a) → T.1 a = S.1 a := fun a ha => h.1 a (by unfold ftC hcC stC cuC; omega)
  refine ⟨⟨fun a ha => h.1 a (by unfold pc ceC at ha; unfold ftC hcC stC cuC; omega), ⟨?_, ?_, ?_⟩, h.2.2 5 3 (by omega), h.2.2 1 1 (by omega)⟩, fun a ha => ⟨hp a (by omega), h.2.1 a (by omega), ?_⟩⟩
  · rw [hp 0 (by omega)]
  · rw [hp 0 (by omega)]
  · rw [hp 2 (by omega)]
  · funext k
    exact h.2.2 a k (by omega)
theorem FS.hc {m : Nat} {H : Nat → Nat → Int32} {S T : PS} (h : FS S T) (hh : HCd m H S) : HCd m H T := hh.fr (fun a ha => h.1 a (by unfold ftC hcC stC cuC; omega))
section SRC
variable {N m : Nat} {V : Cv} {A : Rw} {H : Nat → Nat → Int32} {S : PS}
theorem C_kset {σ : Nat → Nat} (hN : 30000 ≤ N) (hs : ∀ i, i < 40 → S.1 32 i = iN (σ i) ∧ σ i < 512) : rn (fX9_keepSets N S) (fun T => T.1 = S.1 ∧ T.2.2 = S.2.2 ∧ (∀ a, a ≠ 33 → T.2.1 a = S.2.1 a) ∧ ∀ i, i < 40 → ∀ s, s < 512 → (lb (T.2.1 33 (8 * i + s / 64)) (s % 64) = true ↔ lb (S.2.1 33 (8 * i + s / 64)) (s % 64) = true ∨ s = σ i)) := by
  unfold fX9_keepSets
  rw [rn_bT]
  refine forG (f := fun f' j s => fX9_keepSets_2 N f' (iN j) s) 40 (J := fun j W => W.1 = S.1 ∧ W.2.2 = S.2.2 ∧ (∀ a, a ≠ 33 → W.2.1 a = S.2.1 a) ∧ ∀ i, i < 40 → ∀ s, s < 512 → (lb (W.2.1 33 (8 * i + s / 64)) (s % 64) = true ↔ lb (S.2.1 33 (8 * i + s / 64)) (s % 64) = true ∨ (i < j ∧ s = σ i))) ?_ ?_ N 0 S (by omega) ⟨rfl, rfl, fun _ _ => rfl, fun i hi s hs => ⟨Or.inl, fun q => q.elim id (fun q => by omega)⟩⟩ (by omega)
  · rintro f' W ⟨g1, g2, g3, g4⟩
    simp only [fX9_keepSets_2]
    rw [if_pos (show (40 : Int32) ≤ iN 40 from Int32.le_refl _), rn_some, rn_lt, rn_lt, rn_some]
    refine ⟨g1, g2, g3, fun i hi s hs => ?_⟩
    rw [g4 i hi s hs]
    exact ⟨fun q => q.elim Or.inl (fun q => Or.inr q.2), fun q => q.elim Or.inl (fun q => Or.inr ⟨hi, q⟩)⟩
  · rintro f' j W hj ⟨g1, g2, g3, g4⟩ ih
    obtain ⟨e32, hσ⟩ := hs j hj
    have ij : inr (iN j) 40 := inr_iN hj (by omega)
    have xj : ix (iN j) = j := ix_iN (by omega)
    have km : (iN (σ j) - iN (σ j) / 64 * 64) = iN (σ j % 64) ∧ iN (σ j) / 64 = iN (σ j / 64) := k_mod64 ⟨σ j, hσ⟩
    have ek : iN j * 8 + iN (σ j / 64) = iN (8 * j + σ j / 64) := by
      rw [show (8 : Int32) = iN 8 from rfl, iN_mul, iN_add, Nat.mul_comm]
    have ik : inr (iN (8 * j + σ j / 64)) 320 := inr_iN (by omega) (by omega)
    have xk : ix (iN (8 * j + σ j / 64)) = 8 * j + σ j / 64 := ix_iN (by omega)
    simp only [fX9_keepSets_2]
    rw [if_neg (by rw [show (40 : Int32) = iN 40 from rfl, iN_le (by omega) (by omega)]; omega), gd_t ij, lt_b, xj, g1, e32, if_neg (iN_pos (by omega)), if_neg (by rw [show (512 : Int32) = iN 512 from rfl, iN_le (by omega) (by omega)]; omega), km.1, km.2, ek, gd_t ik, gd_t ik, xk]
    refine rn_l (fun Y eY => ?_)
    rw [rn_lt, iN_1]
    refine ih Y ⟨by rw [eY], by rw [eY]; exact g2, fun a ha => ?_, fun i hi s hs => ?_⟩
    · rw [eY]
      show u2L W.2.1 33 _ _ a = _
      funext k
      rw [u2L_2, if_neg (fun q => ha q.1)]
      rw [g3 a ha]
    · rw [eY]
      show lb (u2L W.2.1 33 (8 * j + σ j / 64) _ 33 (8 * i + s / 64)) (s % 64) = true ↔ _
      rw [u2L_2]
      have old := g4 i hi s hs
      by_cases e : 8 * i + s / 64 = 8 * j + σ j / 64
      · have ei : i = j := by omega
        have es : s / 64 = σ j / 64 := by omega
        rw [if_pos ⟨rfl, e⟩, lb_or (by omega) (by omega), ← e, old]
        subst ei
        constructor
        · rintro ((q | q) | q)
          · exact Or.inl q
          · omega
          · exact Or.inr ⟨by omega, by omega⟩
        · rintro (q | q)
          · exact Or.inl (Or.inl q)
          · exact Or.inr (by rw [q.2])
      · rw [if_neg (fun q => e q.2), old]
        constructor
        · rintro (q | q)
          · exact Or.inl q
          · exact Or.inr ⟨by omega, q.2⟩
        · rintro (q | q)
          · exact Or.inl q
          · by_cases ei : i = j
            · rw [ei] at q e
              exact absurd (by rw [q.2]) e
            · exact Or.inr ⟨by omega, q.2⟩
theorem gsX_9 {c : Nat} : gsX (10 * c + 9) = -1 := by unfold gsX; rw [if_pos (by omega)]
theorem gsX_d {c j : Nat} (h : j < 9) : gsX (10 * c + j) = iN j := by unfold gsX; rw [if_neg (by omega), show (10 * c + j) % 10 = j from by omega]
/-- one found: v is its sign -/
theorem C_found {Q : Nat → Bool} {c v : Nat} (hN : 30000 ≤ N) (hs : SPR V.2.1) (hw : WF V.1 (ledS A (v / 10) (gsX v))) (hv : v < 1000) (hc : c = v / 10) (hQ : Q v = true) (hd : v % 10 = 9 ∨ v % 10 < 9) (h : LQ V A Q v S) (h32 : ∀ i, i < 40 → S.1 32 i = tpK V (ledS A (v / 10) (gsX v)) (i + 1)) : rn (fX9_keepFound N (iN c) (gsX v) S) (fun T => LQ V A Q (v + 1) T ∧ FS S T) := by
  obtain ⟨h1, h2, h3⟩ := h
  have hcl := cnQ_le (Q := Q) v
  have code : iN c * 10 + (if gsX v = -1 then 9 else gsX v) = iN v := by
    rw [hc, show (10 : Int32) = iN 10 from rfl, iN_mul]
    unfold gsX
    by_cases e : v % 10 = 9
    · rw [if_pos e, if_pos rfl, show (9 : Int32) = iN 9 from rfl, iN_add]
      congr 1
      omega
    · rw [if_neg e, if_neg (iN_n1 (by omega)), iN_add]
      congr 1
      omega
  have tps : ∀ i, i < 40 → ∃ s, s < 512 ∧ tpK V (ledS A (v / 10) (gsX v)) (i + 1) = iN s := fun i _ => by
    obtain ⟨s, a, b, -⟩ := tpK_bt hs hw i
    exact ⟨s, a, b⟩
  have last : ∀ W : PS, W.1 7 2 = iN (cnQ Q v + 1) → W.1 7 3 = (if fsQ Q v = -1 then iN v else fsQ Q v) → W.2 = S.2 → (∀ a, a ≠ 7 → W.1 a = S.1 a) → rn (bV (fX9_keepSets N W) fun S11 => some S11) (fun T => LQ V A Q (v + 1) T ∧ FS S T) := by
    intro W w1 w2 w3 w4
    rw [rn_bV]
    refine rn_mono (C_kset (σ := fun i => (tpK V (ledS A (v / 10) (gsX v)) (i + 1)).toBitVec.toNat) hN (fun i hi => ?_)) (fun T hT => ?_)
    · obtain ⟨s, a, b⟩ := tps i hi
      rw [w4 32 (by decide), h32 i hi]
      refine ⟨iN_self _, ?_⟩
      show (tpK V (ledS A (v / 10) (gsX v)) (i + 1)).toBitVec.toNat < 512
      rw [b]
      show (BitVec.ofNat 32 s).toNat < 512
      rw [BitVec.toNat_ofNat, Nat.mod_eq_of_lt (by omega)]
      exact a
    · rw [rn_some]
      obtain ⟨t1, t2, t3, t4⟩ := hT
      refine ⟨⟨?_, ?_, fun i hi s hs' => ?_⟩, ⟨fun a ha => ?_, fun a ha => ?_, fun a k hk => ?_⟩⟩
      · rw [t1, w1, cnQ_s, if_pos hQ]
      · rw [t1, w2, fsQ_s, if_pos hQ]
      · rw [t4 i hi s hs', w3, h3 i hi s hs']
        constructor
        · rintro (⟨u, a, b⟩ | q)
          · exact ⟨u, by omega, b⟩
          · refine ⟨v, by omega, hQ, ?_⟩
            rw [q]
            exact iN_self _
        · rintro ⟨u, a, b, d⟩
          by_cases eu : u = v
          · rw [eu] at d
            refine Or.inr ?_
            rw [d]
            show s = (BitVec.ofNat 32 s).toNat
            rw [BitVec.toNat_ofNat, Nat.mod_eq_of_lt (by omega)]
          · exact Or.inl ⟨u, by omega, b, d⟩
      · rw [t1]; exact w4 a (by omega)
      · rw [t3 a ha, w3]
      · rw [t2, w3]
  unfold fX9_keepFound
  rw [h1]
  have z : iN (cnQ Q v) = 0 ↔ cnQ Q v = 0 := iN_eq (b := 0) (by omega) (by omega)
  have zf := cn_fs (Q := Q) v (by omega)
  by_cases e : cnQ Q v = 0
  · rw [if_pos (z.mpr e), lt_b, code]
    refine rn_u (fun Y u => ?_)
    rw [u.1, upd_o (by decide), h1]
    refine rn_u (fun Z w => ?_)
    refine last Z ?_ ?_ (w.2.2.trans u.2.2) (fun a ha => (w.2.1 a ha).trans (u.2.1 a ha))
    · rw [w.1, upd_at, iN_1]
    · rw [w.1, upd_o (by decide), u.1, upd_at, if_pos (zf.mp e)]
  · rw [if_neg (fun q => e (z.mp q))]
    refine rn_u (fun Z w => ?_)
    refine last Z ?_ ?_ w.2.2 (fun a ha => w.2.1 a ha)
    · rw [w.1, upd_at, iN_1]
    · rw [w.1, upd_o (by decide), h2, if_neg (fun q => e (zf.mpr q))]
end SRC
