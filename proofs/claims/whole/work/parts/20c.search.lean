/-! ===== phase 2: led elsewhere: the search, in the class ===== -/
section SR2
variable {N m : Nat} {V : Cv} {A : Rw} {H : Nat → Nat → Int32} {S : PS}
/-- one guess -/
theorem C_one {β : Type} {F : PS → Option β} {P : β → Prop} {c v : Nat} {x : Int32} (q : QC N V A S) (hh : HCd m H S) (hv : WH V.1 m H) (hc : c < V.1) (ec : c = v / 10) (hx : x = gsX v) (hd : v % 10 = 9 ∨ (c < v % 10 ∧ v % 10 < V.1)) (hL : LQ V A (gsB V A m H) v S)
    (fin : ∀ T, LQ V A (gsB V A m H) (v + 1) T → FS S T → rn (F T) P) :
    rn (gd (obj 3 6) <| bV (fX3_workOnCopy N (sr 3 0) S) fun S16 => lt ((S16.2.2 5 4) : Nat) fun o18 => gd (obj o18 2) <| bV (fX2_setInto N o18 (iN c) x S16) fun S20 => gd (obj 3 6) <| gd (obj (sr 3 0) 2) <| bI (fX2_leadsJust N (sr 3 0) (iN c) x S20) fun x24 S25 => (if x24 = 0 then gd (obj 3 6) <| bI (fX9_fits N (sr 3 2) S25) fun x31 S32 => (if x31 = 0 then F S32 else bV (fX9_keepFound N (iN c) x S32) fun S37 => F S37) else F S25)) P := by
  obtain ⟨hN, hs, hw, hcu, hce⟩ := q
  have hn := hw.1
  have c9 : c < 9 := by omega
  have ob3 : obj 3 6 := ⟨rfl, by decide⟩
  have hxw : x = -1 ∨ ∃ d, x = iN d ∧ c < d ∧ d < V.1 := by
    rw [hx]
    unfold gsX
    rcases hd with e | e
    · rw [if_pos e]; exact Or.inl rfl
    · rw [if_neg (by omega)]; exact Or.inr ⟨v % 10, rfl, e⟩
  have wB : WF V.1 (ledS A c x) := led_WF hw hc hxw
  rw [gd_t ob3, sr10.2.2.1, rn_bV]
  refine rn_mono (C_wocT (V := V) hN hcu hce) (fun U hU => ?_)
  obtain ⟨u1, u2⟩ := hU
  rw [u1.2.2.2.2.1, lt_b, gd_t is20.ob, rn_bV]
  refine rn_mono (C_into is20 c9 u1.1) (fun X hX => ?_)
  have FX : FT S X := u2.tr (FT.fc (hX.2.mono (fun a ha => Or.inr (Or.inr (Or.inr (Or.inr ha))))))
  have tX : TR V (ledS A c x) (fun _ => 0) 0 0 X := by
    obtain ⟨t1, t2, t3, t4, t5, p, t6⟩ := u1
    refine ⟨hX.1, fun d hd => ?_, ?_, fun e => by omega, ?_, p, ?_⟩
    · rw [hX.2.1 28 (by unfold cuC; omega)]; exact t2 d hd
    · rw [hX.2.1 5 (by unfold cuC; omega)]; exact t3
    · rw [hX.2.2]; exact t5
    · exact t6.fc is20 (hX.2.mono (fun a ha => Or.inr (Or.inr (Or.inr (Or.inr ha)))))
  have cX : CU 18 A X := hcu.fr is18 FX.1 (fun a ha => by unfold cuC at ha; unfold hcC stC cuC; omega)
  have keep : ∀ T, FS S T → (∀ a, a = 7 → T.1 a = S.1 a) → T.2.1 = S.2.1 → LQ V A (gsB V A m H) v T := by
    intro T _ e7 eL
    unfold LQ
    rw [e7 7 rfl, eL]
    exact hL
  rw [gd_t ob3, gd_t is18.ob, lj_t cX c9, bI_s]
  have no : ¬ gsB V A m H v = true → ∀ T, LQ V A (gsB V A m H) v T → LQ V A (gsB V A m H) (v + 1) T := fun e T h => h.skip 1 (fun u a b => by
    have : u = v := by omega
    rw [this]; exact e)
  by_cases e : A 2 c = x ∧ A 3 c = -1
  · rw [if_pos e, if_neg (show ¬ (1 : Int32) = 0 by decide)]
    refine fin X (no (fun g => ?_) X (keep X (FS.ft FX) (fun a ha => FX.1 a (by rw [ha]; unfold hcC stC cuC; omega)) FX.2.1)) (FS.ft FX)
    have g2 := of_decide_eq_true g
    unfold gsP at g2; rw [← ec, ← hx] at g2
    exact g2.2.1 e
  · rw [if_neg e, if_pos rfl, gd_t ob3, sr10.2.2.2, rn_bI]
    refine rn_mono (C_fits hN hs wB tX ((FS.ft FX).hc hh) hv) (fun r hr => ?_)
    obtain ⟨r1, r2, r3, r4⟩ := hr
    have FR : FS S r.2 := (FS.ft FX).tr (FS.fc r4 (fun a ha => Or.inl ha))
    have LR := keep r.2 FR (fun a ha => by rw [r4.1 a (by rw [ha]; unfold ftC hcC stC cuC; omega)]; exact FX.1 a (by rw [ha]; unfold hcC stC cuC; omega)) (by rw [r4.2]; exact FX.2.1)
    rcases r1 with e1 | e1
    · rw [if_pos e1]
      refine fin r.2 (no (fun g => ?_) _ LR) FR
      have g2 := of_decide_eq_true g
      unfold gsP at g2; rw [← ec, ← hx] at g2
      have := r2.mpr g2.2.2
      rw [e1] at this
      exact n01 this
    · rw [if_neg (show ¬ r.1 = 0 by rw [e1]; decide), rn_bV, hx]
      have g : gsB V A m H v = true := by
        refine decide_eq_true ?_
        unfold gsP
        rw [← ec, ← hx]
        exact ⟨hd, e, r2.mp e1⟩
      refine rn_mono (C_found (c := c) hN hs (by rw [← ec, ← hx]; exact wB) (by omega) ec g (by omega) LR (by rw [← ec, ← hx]; exact r3 e1)) (fun T hT => fin T hT.1 (FR.tr hT.2))
theorem no_gs {a b : Nat} (h : ∀ v, a ≤ v → v < b → ¬ (v % 10 = 9 ∨ (v / 10 < v % 10 ∧ v % 10 < V.1))) : ∀ v, a ≤ v → v < b → ¬ gsB V A m H v = true := fun v h1 h2 g => h v h1 h2 (of_decide_eq_true g).1
theorem C_srch41 {c : Nat} (q : QC N V A S) (hh : HCd m H S) (hv : WH V.1 m H) (hc : c < V.1) (hL : LQ V A (gsB V A m H) (10 * c) S) : rn (fX9_search_41 N 3 (iN V.1) (iN c) N (iN (c + 1)) S) (fun r => LQ V A (gsB V A m H) (10 * (c + 1)) r.2 ∧ FS S r.2) := by
  have hN := q.1
  have hn := q.2.2.1.1
  have sk : ∀ a b T, a ≤ b → (∀ v, a ≤ v → v < b → ¬ (v % 10 = 9 ∨ (v / 10 < v % 10 ∧ v % 10 < V.1))) → LQ V A (gsB V A m H) a T → LQ V A (gsB V A m H) b T := by
    intro a b T hab hno h
    have e : a + (b - a) = b := by omega
    have := h.skip (b - a) (by rw [e]; exact no_gs hno)
    rw [e] at this
    exact this
  refine forG (f := fun f' j s => fX9_search_41 N 3 (iN V.1) (iN c) f' (iN j) s) (V.1 + 1) (J := fun j W => c + 1 ≤ j ∧ LQ V A (gsB V A m H) (if j ≤ V.1 then 10 * c + j else 10 * (c + 1)) W ∧ FS S W) ?_ ?_ N (c + 1) S (by omega) ⟨Nat.le_refl _, ?_, FS.rfl⟩ (by omega)
  · rintro f' W ⟨-, g1, g2⟩
    simp only [fX9_search_41]
    rw [if_pos (by rw [iN_lt (by omega) (by omega)]; omega), rn_some]
    rw [if_neg (by omega)] at g1
    exact ⟨g1, g2⟩
  · rintro f' j W hj ⟨g0, g1, g2⟩ ih
    have hjn : j ≤ V.1 := by omega
    rw [if_pos hjn] at g1
    simp only [fX9_search_41]
    rw [if_neg (by rw [iN_lt (by omega) (by omega)]; omega), lt_b]
    have qW := q.fq g2.fq
    by_cases e : j = V.1
    · have hx : (if iN V.1 ≤ iN j then (-1 : Int32) else iN j) = gsX (10 * c + 9) := by rw [if_pos (by rw [e]; exact Int32.le_refl _), gsX_9]
      rw [hx]
      refine C_one (F := fun T => lt (iN j + 1 : Int32) fun x => fX9_search_41 N 3 (iN V.1) (iN c) f' x T) (v := 10 * c + 9) qW (g2.hc hh) hv hc (by omega) rfl (Or.inl (by omega)) (sk _ _ W (by omega) (fun v a b => by omega) g1) (fun T t1 t2 => ?_)
      rw [rn_lt, iN_1]
      refine ih T ⟨by omega, ?_, g2.tr t2⟩
      rw [if_neg (by omega)]
      exact t1
    · have hx : (if iN V.1 ≤ iN j then (-1 : Int32) else iN j) = gsX (10 * c + j) := by rw [if_neg (by rw [iN_le (by omega) (by omega)]; omega), gsX_d (by omega)]
      rw [hx]
      refine C_one (F := fun T => lt (iN j + 1 : Int32) fun x => fX9_search_41 N 3 (iN V.1) (iN c) f' x T) (v := 10 * c + j) qW (g2.hc hh) hv hc (by omega) rfl (Or.inr (by omega)) g1 (fun T t1 t2 => ?_)
      rw [rn_lt, iN_1]
      refine ih T ⟨by omega, ?_, g2.tr t2⟩
      rw [if_pos (by omega)]
      exact t1
  · rw [if_pos (by omega)]
    exact sk _ _ S (by omega) (fun v a b => by omega) hL
theorem C_fillL {a k : Nat} (hN : 30000 ≤ N) (ha : arr a 4 k) (hk : k ≤ 2000) : rn (fJ7_fill_d0a16 N a 0 S) (fun T => T.1 = S.1 ∧ T.2.2 = S.2.2 ∧ (∀ b, b ≠ a → T.2.1 b = S.2.1 b) ∧ ∀ i, i < k → T.2.1 a i = 0) := by
  have hck : (ck a).2 = k := by
    have := ha
    unfold arr at this
    simpa using congrArg Prod.snd this.1
  rw [fJ7_fill_d0a16, hck, gd_t ha, lt_b, rn_bT]
  refine forG (f := fun f' j s => fJ7_fill_d0a16_6 N a 0 (Int32.ofNat k) f' (iN j) s) k (J := fun j T => T.1 = S.1 ∧ T.2.2 = S.2.2 ∧ (∀ b, b ≠ a → T.2.1 b = S.2.1 b) ∧ ∀ i, i < j → T.2.1 a i = 0) ?_ ?_ N 0 S (by omega) ⟨rfl, rfl, fun _ _ => rfl, fun i h => by omega⟩ (by omega)
  · rintro f' W ⟨g1, g2, g3, g4⟩
    simp only [fJ7_fill_d0a16_6]
    rw [if_pos (show Int32.ofNat k ≤ iN k from Int32.le_refl _), rn_some, rn_lt, rn_lt, rn_some]
    exact ⟨g1, g2, g3, g4⟩
  · rintro f' j W hj ⟨g1, g2, g3, g4⟩ ih
    have ij : inr (iN j) (ck a).2 := by rw [hck]; exact inr_iN hj (by omega)
    have ha' : arr a 4 (ck a).2 := by rw [hck]; exact ha
    have xj : ix (iN j) = j := ix_iN (by omega)
    simp only [fJ7_fill_d0a16_6]
    rw [if_neg (by rw [show Int32.ofNat k = iN k from rfl, iN_le (by omega) (by omega)]; omega), gd_t ha', gd_t ij, xj]
    refine rn_l (fun Y eY => ?_)
    rw [rn_lt, iN_1]
    refine ih Y ⟨by rw [eY]; exact g1, by rw [eY]; exact g2, fun b hb => ?_, fun i hi => ?_⟩
    · rw [eY]
      funext i
      show u2L W.2.1 a j 0 b i = _
      rw [u2L_2, if_neg (fun q => hb q.1), g3 b hb]
    · rw [eY]
      show u2L W.2.1 a j 0 a i = 0
      rw [u2L_2]
      by_cases ei : i = j
      · rw [if_pos ⟨rfl, ei⟩]
      · rw [if_neg (fun q => ei q.2)]; exact g4 i (by omega)
theorem C_search (q : QC N V A S) (hh : HCd m H S) (hv : WH V.1 m H) : rn (fX9_search N 3 S) (fun T => LQ V A (gsB V A m H) (10 * V.1) T ∧ FS S T) := by
  have hN := q.1
  have hn := q.2.2.1.1
  obtain ⟨p, hp⟩ := q.2.2.2.2
  unfold fX9_search
  rw [hp.2.1, lt_b, gd_t (p_ob hp.1).1, hp.2.2.1, lt_b]
  refine rn_u (fun Y u => ?_)
  refine rn_u (fun Z w => ?_)
  rw [rn_bV]
  refine rn_mono (C_fillL (k := 320) hN ⟨rfl, by decide⟩ (by omega)) (fun U hU => ?_)
  obtain ⟨h1, h2, h3, h4⟩ := hU
  have F0 : FS S U := ⟨fun a ha => by rw [h1, w.2.1 a (by omega), u.2.1 a (by omega)], fun a ha => by rw [h3 a ha, w.2.2, u.2.2], fun a k _ => by rw [h2, w.2.2, u.2.2]⟩
  have L0 : LQ V A (gsB V A m H) (10 * 0) U := by
    refine ⟨?_, ?_, fun i hi s hs => ?_⟩
    · rw [h1, w.1, upd_o (by decide), u.1, upd_at, cnQ]; rfl
    · rw [h1, w.1, upd_at, fsQ]
    · rw [h4 _ (by omega)]
      constructor
      · intro e
        unfold lb at e
        simp at e
      · rintro ⟨v, a, -⟩
        omega
  rw [rn_bT]
  refine forG (f := fun f' j s => fX9_search_29 N 3 (iN V.1) f' (iN j) s) V.1 (J := fun j W => LQ V A (gsB V A m H) (10 * j) W ∧ FS S W) ?_ ?_ N 0 U (by omega) ⟨L0, F0⟩ (by omega)
  · rintro f' W ⟨g1, g2⟩
    simp only [fX9_search_29]
    rw [if_pos (Int32.le_refl _), rn_some, rn_lt, rn_lt, rn_some]
    exact ⟨g1, g2⟩
  · rintro f' j W hj ⟨g1, g2⟩ ih
    simp only [fX9_search_29]
    rw [if_neg (by rw [iN_le (by omega) (by omega)]; omega), lt_b, iN_1, rn_bT]
    refine rn_mono (C_srch41 (q.fq g2.fq) (g2.hc hh) hv hj g1) (fun r hr => ?_)
    rw [rn_lt, rn_lt, rn_lt]
    exact ih r.2 ⟨hr.1, g2.tr hr.2⟩
end SR2
