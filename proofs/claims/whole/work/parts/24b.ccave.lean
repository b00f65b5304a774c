/-! ===== phase 2: the class takes a cave ===== -/
def mnC (a : Nat) : Prop := (8 ≤ a ∧ a ≤ 11) ∨ a = 18 ∨ a = 19 ∨ (34 ≤ a ∧ a ≤ 39) ∨ (50 ≤ a ∧ a ≤ 61)
theorem CMi_mn {o a ar h hc hh : Nat} {M : Mi} {S T : PS} (ho : (o = 18 ∧ a = 8 ∧ ar = 34 ∧ h = 10 ∧ hc = 36 ∧ hh = 37) ∨ (o = 19 ∧ a = 9 ∧ ar = 35 ∧ h = 11 ∧ hc = 38 ∧ hh = 39)) (hm : CMi o a ar h hc hh M S) (e : ∀ a, mnC a → T.1 a = S.1 a) : CMi o a ar h hc hh M T := by
  obtain ⟨h1, h2, h3⟩ := hm
  have hi : isCu o := by unfold isCu; omega
  refine ⟨h1.fr hi (cs := fun a => ¬ mnC a) (fun a ha => e a (Classical.not_not.mp ha)) (fun a ha hn => hn ?_), ?_, ?_⟩
  · unfold cuC at ha; unfold mnC; omega
  · rw [e a (by unfold mnC; omega), e ar (by unfold mnC; omega)]; exact h2
  · rw [e h (by unfold mnC; omega), e hc (by unfold mnC; omega), e hh (by unfold mnC; omega)]; exact h3
/-- the state behind a cave read -/
def nCv (G : Gs) : Fin2 → Gs
  | .inl q => (q.1, (q.2, (0, G.2.1.2.1.2), (0, G.2.1.2.2.2)), none, G.2.2.2.1, -1, (0, G.2.2.2.2.2.2))
  | .inr q => (G.1, G.2.1, G.2.2.1, upd G.2.2.2.1 0 (G.2.2.2.1 0 + 1), q.2, (0, G.2.2.2.2.2.2))
def aCv : Fin2 → Int32
  | .inl _ => 0
  | .inr q => q.1
theorem GW_cv {G : Gs} {out : Fin2} (hg : GW G) (ok : fiOK out) : GW (nCv G out) := by
  cases out with
  | inl q =>
    have w : WV q.1 q.2 := ok
    exact ⟨w.2.1, ⟨w.1, ⟨Nat.zero_le _, fun j hj => absurd hj (Nat.not_lt_zero j)⟩, Nat.zero_le _, fun j hj => absurd hj (Nat.not_lt_zero j)⟩, fun M e => (by cases e), Nat.zero_le _⟩
  | inr q => exact ⟨hg.1, hg.2.1, hg.2.2.1, Nat.zero_le _⟩
theorem GZ_cv {G : Gs} {out : Fin2} (hg : GZ G) (ok : fiOK out) : GZ (nCv G out) := by
  cases out with
  | inl q =>
    have w : WV q.1 q.2 := ok
    exact ⟨⟨fun c _ hc => (w.2.2.2.1 c hc).2.1, fun j hj => absurd hj (Nat.not_lt_zero j), fun j hj => absurd hj (Nat.not_lt_zero j)⟩, fun M e => (by cases e)⟩
  | inr q => exact hg
section CCV
variable {N : Nat} {b : Nat → Int32} {L : Nat} {S : PS} {G : Gs}
theorem C_read {c : Nat} {out : Fin2} (hN : 30000 ≤ N) (hL : L ≤ 700) (hc : c = 12 ∨ c = 13) (h1 : S.2.2 1 1 = c) (hb : ∀ k, k < L → BY (S.1 26 k) (b k))
    (ho : ∀ c i f v S, i ≤ 0 → L - 0 < f → TC b L 0 S → CVs c V0 A0 S → rn (fX7_read_27 N v (f + 1) (iN i) S) (fun r => enC b L c S out r.2)) : rn (fX7_read N (iN L) S) (fun r => r.1 = r.2.1 1 3 ∧ enC b L c S out r.2) := by
  unfold fX7_read
  rw [h1, lt_b, gd_t (cvR hc).1, rn_bV]
  refine rn_mono (C_clear hN hc h1) (fun T hT => ?_)
  obtain ⟨v, f, e1, e2, e3⟩ := hT
  refine rn_u (fun U u => ?_)
  refine rn_u (fun W w => ?_)
  rw [rn_bV]
  have ex : (if (0 : Int32) < (if (700 : Int32) < iN L then 700 else iN L) then (if (700 : Int32) < iN L then 700 else iN L) else 0) = iN L := by
    have q : ¬ (700 : Int32) < iN L := by rw [show (700 : Int32) = iN 700 from rfl, iN_lt (by omega) (by omega)]; omega
    rw [if_neg q]
    by_cases z : (0 : Int32) < iN L
    · rw [if_pos z]
    · rw [if_neg z]
      rw [show (0 : Int32) = iN 0 from rfl, iN_lt (by omega) (by omega)] at z
      have : L = 0 := by omega
      rw [this]; rfl
  unfold fX10_begin
  rw [lt_b, lt_b, ex]
  refine rn_u (fun X x => ?_)
  refine rn_u (fun Y y => ?_)
  have e26 : Y.1 26 = S.1 26 := by
    rw [y.2.1 26 (by decide), x.2.1 26 (by decide), w.2.1 26 (by decide), u.2.1 26 (by decide)]
    exact f.1 26 (by rcases hc with rfl | rfl <;> decide)
  have tb : TB b L Y := ⟨hL, by rw [y.1, upd_o (by decide), x.1, upd_at], fun k hk => by rw [e26]; exact hb k hk⟩
  rw [rn_bV]
  refine rn_mono (C_tk0 hN tb (Nat.zero_le L) (by rw [y.1, upd_at]; rfl)) (fun Z hZ => ?_)
  obtain ⟨ct, fo⟩ := hZ
  rw [rn_some, rn_bT]
  have F : F12 T Z := ⟨fun a a1 a2 => by rw [fo.1 a a2, y.2.1 a a2, x.2.1 a a2, w.2.1 a a1, u.2.1 a a1], by rw [fo.2.2, y.2.2, x.2.2, w.2.2, u.2.2]⟩
  have z1 : Z.1 1 = W.1 1 := by rw [fo.1 1 (by decide), y.2.1 1 (by decide), x.2.1 1 (by decide)]
  have tc : TC b L 0 Z := ⟨ct, by rw [z1, w.1, upd_o (by decide), u.1, upd_at], by rw [z1, w.1, upd_at]⟩
  obtain ⟨f', ef⟩ : ∃ f', N = f' + 1 := ⟨N - 1, by omega⟩
  have go := ho c 0 f' (iN L) Z (Nat.le_refl 0) (by omega) tc (v.f12 F)
  rw [← ef] at go
  refine rn_mono (show rn (fX7_read_27 N (iN L) N 0 Z) _ from go) (fun r hr => ?_)
  rw [rn_lt, rn_lt, rn_some]
  exact ⟨rfl, enC_f (f.tr (FRd.f12 F)) _ hr⟩
theorem rd_pc {c a : Nat} (hc : c = 12 ∨ c = 13) (h : mnC a ∨ a = 0 ∨ a = 23 ∨ a = 26 ∨ 80 ≤ a) : ¬ rdC c a := by
  intro g
  unfold mnC at h
  rcases g with g | g | ⟨-, g⟩ | ⟨-, g⟩ <;> omega
theorem C_cave_f {p : Nat} {q : Int32 × Int32} {T : PS} (hi : IC G S) (hp : S.2.2 5 3 = p) (hq : p = 12 ∨ p = 13) (hT : enC b L (25 - p) S (.inr q) T) : rn (lt ((u2 T.1 2 1 0, T.2) : PS) fun S7 => lt ((u2 S7.1 0 10 (S7.1 1 4), S7.2) : PS) fun S20 => lt ((u2 S20.1 23 0 ((S20.1 23 0) + 1), S20.2) : PS) fun S21 => (some (.inl q.1, S21) : Option ((Int32 ⊕ String) × PS))) (fun r => r.1 = .inl q.1 ∧ IC (nCv G (.inr q)) r.2 ∧ MS S r.2) := by
  obtain ⟨⟨p', h1, h2⟩, h3, h4, h5, h6, h7, h8⟩ := hi
  have ep : p' = p := by rw [← hp]; exact h1.2.1.symm
  rw [ep] at h1
  obtain ⟨tf, f⟩ := hT
  have hc : 25 - p = 12 ∨ 25 - p = 13 := by omega
  refine rn_u (fun U u => ?_)
  have u14 : U.1 1 4 = q.2 := by rw [u.2.1 1 (by decide)]; exact tf.2.2
  rw [u14]
  refine rn_u (fun X x => ?_)
  have x23 : X.1 23 = S.1 23 := by rw [x.2.1 23 (by decide), u.2.1 23 (by decide)]; exact f.1 23 (rd_pc hc (by omega))
  rw [x23]
  refine rn_u (fun Y y => ?_)
  rw [rn_some]
  have e : ∀ a, a ≠ 2 → a ≠ 0 → a ≠ 23 → Y.1 a = T.1 a := fun a a1 a2 a3 => by rw [y.2.1 a a3, x.2.1 a a2, u.2.1 a a1]
  have e2 : Y.2 = T.2 := by rw [y.2.2, x.2.2, u.2.2]
  have em : ∀ a, mnC a → Y.1 a = S.1 a := fun a ha => by
    rw [e a (by unfold mnC at ha; omega) (by unfold mnC at ha; omega) (by unfold mnC at ha; omega)]
    exact f.1 a (rd_pc hc (Or.inl ha))
  have y0 : Y.1 0 = upd (S.1 0) 10 q.2 := by
    rw [y.2.1 0 (by decide), x.1, u.2.1 0 (by decide), f.1 0 (rd_pc hc (by omega))]
  have ce : ∀ a, (a = p ∨ a = sr p 0 ∨ a = sr p 2 ∨ a = sr p 3 ∨ a = sr (sr p 2) 0 ∨ a = sr (sr p 3) 0) → Y.1 a = S.1 a := fun a ha => by
    have n : ¬ rdC (25 - p) a ∧ a ≠ 2 ∧ a ≠ 0 ∧ a ≠ 23 := by
      rcases hq with rfl | rfl
      · rcases ha with rfl | rfl | rfl | rfl | rfl | rfl <;> decide
      · rcases ha with rfl | rfl | rfl | rfl | rfl | rfl <;> decide
    rw [e a n.2.1 n.2.2.1 n.2.2.2]; exact f.1 a n.1
  refine ⟨rfl, ⟨⟨p, h1.cg ce (by rw [e2]; exact f.2.2 5 3 (by decide)), by rw [e2, f.2.2 1 1 (by decide), h2, ep]⟩, CMi_mn (Or.inl (by simp)) h3 em, ?_, fun k hk => ?_, by rw [y0, upd_at]; rfl, ?_, fun k hk => absurd hk (Nat.not_lt_zero k)⟩, fun a ha => ⟨?_, ?_, ?_⟩⟩
  · show (match G.2.2.1 with | none => Y.1 0 9 = 0 | some M => Y.1 0 9 = 1 ∧ CMi 19 9 35 11 38 39 M Y)
    rw [y0, upd_o (by decide)]
    revert h4
    cases G.2.2.1 with
    | none => intro h4; exact h4
    | some M => intro h4; exact ⟨h4.1, CMi_mn (Or.inr (by simp)) h4.2 em⟩
  · show Y.1 23 k = upd G.2.2.2.1 0 (G.2.2.2.1 0 + 1) k
    rw [y.1, x23]
    unfold upd
    rw [h5 k hk, h5 0 (by omega)]
  · show Y.1 2 1 = iN 0
    rw [y.2.1 2 (by decide), x.2.1 2 (by decide), u.1, upd_at]; rfl
  · show Y.1 a = S.1 a
    rw [e a (by omega) (by omega) (by omega)]; exact f.1 a (rd_pc hc (by omega))
  · show Y.2.1 a = S.2.1 a
    rw [e2, f.2.1]
  · show Y.2.2 a = S.2.2 a
    rw [e2]; funext k; exact f.2.2 a k (by omega)
end CCV
