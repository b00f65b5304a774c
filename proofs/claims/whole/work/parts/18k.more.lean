/-! ===== phase 2: more of what can be: none but cups are plugged; hours heard ===== -/
theorem tipA_5 {c : Nat} {d : Int32} {A : Rw} : tipA c d A 5 = A 5 := by unfold tipA; rw [u2_o (by decide), u2_o (by decide)]
theorem fallS_5 {c : Nat} {t : Int32} {X : Hs} : (fallS c t X).1 5 = X.1 5 := by
  unfold fallS
  split
  · rfl
  · split
    · rfl
    · dsimp only
      rw [u2_o (by decide)]
theorem getS_5 {c : Nat} {d : Int32} {X : Hs} : (getS c d X).1 5 = X.1 5 := by
  unfold getS
  split
  · show tipA c d X.1 5 = X.1 5
    exact tipA_5
  · rw [fallS_5]
    show tipA c d X.1 5 = X.1 5
    exact tipA_5
theorem upS_5 {w : Nat} {fr : Option (List Int32)} {sp : Nat → Int32} {X : Hs} : ∀ k, (upS w fr sp k X).1 5 = X.1 5
  | 0 => by rw [upS]
  | k + 1 => by
    rw [upS]
    unfold stpS
    rw [getS_5]
    exact upS_5 k
theorem upP_5 {X : Hs} : ∀ k, (upP k X).1 5 = X.1 5
  | 0 => by rw [upP]
  | k + 1 => by
    rw [upP, getS_5]
    exact upP_5 k
theorem lkL_5 {L : List Int32} {sp : Nat → Int32} {X : Hs} : ∀ k, (lkL L sp k X).1 5 = X.1 5
  | 0 => by rw [lkL]
  | k + 1 => by
    rw [lkL]
    unfold lk1
    dsimp only
    rw [u2_o (by decide)]
    exact lkL_5 k
theorem lkS_5 {lk : Option (List Int32)} {sp : Nat → Int32} {n : Nat} {X : Hs} : (lkS lk sp n X).1 5 = X.1 5 := by
  unfold lkS
  cases lk with
  | none => rfl
  | some L => exact lkL_5 n
theorem hourS_5 {n w : Nat} {lk fr : Option (List Int32)} {sp : Nat → Int32} {A : Rw} : (hourS n w lk fr sp A).1 5 = A 5 := by
  unfold hourS endS
  dsimp only
  rw [u2_o (by decide), lkS_5, upS_5]
  rfl
theorem rowK_5 {V : Cv} {A : Rw} : ∀ k, rowK V A k 5 = A 5
  | 0 => by rw [rowK]
  | k + 1 => by
    rw [rowK]
    unfold hS
    rw [hourS_5]
    exact rowK_5 k
def PZ (n : Nat) (A : Rw) : Prop := ∀ c, n ≤ c → c < 9 → A 5 c = 0
def MX (n : Nat) (M : Mi) : Prop := PZ n M.1 ∧ (∀ j, j < M.2.1.1 → PZ n (M.2.1.2 j)) ∧ ∀ i, i < M.2.2.1 → 1 ≤ (M.2.2.2 i 1).toInt ∧ (M.2.2.2 i 1).toInt ≤ 40
def GZ (G : Gs) : Prop := MX G.1.1 G.2.1 ∧ ∀ M, G.2.2.1 = some M → MX G.1.1 M
theorem PZ_5 {n : Nat} {A B : Rw} (h : PZ n A) (e : B 5 = A 5) : PZ n B := fun c h1 h2 => by rw [e]; exact h c h1 h2
theorem MX_kp {n : Nat} {M : Mi} {A : Rw} (h : MX n M) (hA : PZ n A) : MX n (A, (kpM M).2) := by
  obtain ⟨h1, h2, h3⟩ := h
  refine ⟨hA, ?_, h3⟩
  unfold kpM
  by_cases e : M.2.1.1 = 40
  · simp only [if_pos e]
    intro j hj
    by_cases ej : j = 39
    · rw [if_pos ej]; exact h1
    · rw [if_neg ej]; exact h2 _ (by omega)
  · simp only [if_neg e]
    intro j hj
    by_cases ej : j = M.2.1.1
    · rw [if_pos ej]; exact h1
    · rw [if_neg ej]; exact h2 _ (by omega)
section GZS
variable {G : Gs}
theorem GZ_now {M : Mi} (h : GZ G) (hm : MX G.1.1 M) : GZ (nwG G M) := ⟨hm, h.2⟩
theorem GZ_kp {A : Rw} (h : GZ G) (hA : PZ G.1.1 A) : GZ (kpG G A) := GZ_now h (MX_kp h.1 hA)
theorem GZ_hours {n : Int32} (h : GZ G) : GZ (nHours G n) := by
  unfold nHours
  split
  · split
    · exact GZ_now h (MX_kp h.1 (PZ_5 h.1.1 (rowK_5 _)))
    · exact h
  · exact h
theorem GZ_undo (h : GZ G) : GZ (nUndo G) := by
  refine GZ_now h ?_
  by_cases e : G.2.1.2.1.1 = 0
  · rw [if_pos e]; exact h.1
  · rw [if_neg e]
    exact ⟨h.1.2.1 _ (by omega), fun j hj => h.1.2.1 j (by have : j < G.2.1.2.1.1 - 1 := hj; omega), h.1.2.2⟩
theorem GZ_crack {c x : Int32} (h : GZ G) : GZ (nCrack G c x) := by
  unfold nCrack
  split
  · split
    · split
      · exact h
      · refine GZ_kp h (PZ_5 h.1.1 ?_)
        unfold crkS
        rw [u2_o (by decide), u2_o (by decide)]
    · exact h
  · exact h
theorem GZ_lead {c x : Int32} (h : GZ G) : GZ (nLead G c x) := by
  unfold nLead
  split
  · split
    · split
      · exact h
      · refine GZ_kp h (PZ_5 h.1.1 ?_)
        unfold ledS
        rw [u2_o (by decide), u2_o (by decide), u2_o (by decide)]
    · exact h
  · exact h
theorem GZ_plug {c v : Int32} (h : GZ G) : GZ (nPlug G c v) := by
  unfold nPlug
  split
  · rename_i h1
    obtain ⟨d, hd, rfl⟩ := inr_c h1
    split
    · exact h
    · refine GZ_kp h (fun k h2 h3 => ?_)
      have xd : ix (iN d) = d := ix_iN (by omega)
      rw [xd, u2_at, upd_o (by omega)]
      exact h.1.1 k h2 h3
  · exact h
theorem GZ_pour {c d : Int32} (h : GZ G) : GZ (nPour G c d) := by
  unfold nPour
  split
  · split
    · refine GZ_kp h (PZ_5 h.1.1 ?_)
      unfold poR
      rw [upP_5]
      rfl
    · exact h
  · exact h
theorem GZ_hear {c x s : Int32} (h : GZ G) : GZ (nHear G c x s) := by
  unfold nHear
  split
  · split
    · exact h
    · split
      · rename_i h2
        refine GZ_now h ⟨h.1.1, h.1.2.1, fun i hi => ?_⟩
        have hi' : i < G.2.1.2.2.1 + 1 := hi
        by_cases e : i = G.2.1.2.2.1
        · rw [(hr_new e).2.1]
          have a := h2.1
          have b := h2.2
          rw [le_ti, o_ti] at a
          rw [le_ti, show (40 : Int32).toInt = 40 from by decide] at b
          exact ⟨a, b⟩
        · rw [hr_old e]
          exact h.1.2.2 i (by omega)
      · exact h
  · exact h
theorem GZ_forget (h : GZ G) : GZ (nwG G (fgM G.2.1)) := GZ_now h ⟨h.1.1, h.1.2.1, fun i hi => absurd hi (Nat.not_lt_zero i)⟩
theorem GZ_img (h : GZ G) : GZ (nImg G) := ⟨h.1, fun M e => by
  have e' : some G.2.1 = some M := e
  cases e'
  exact h.1⟩
theorem GZ_rest (h : GZ G) : GZ (nRest G) := by
  have := h.2
  unfold nRest
  revert this
  cases G.2.2.1 with
  | none => intro _; exact h
  | some M => intro q; exact GZ_now h (q M rfl)
theorem GZ_feed {a b c d e : Int32} (h : GZ G) : GZ (nFeed G a b c d e) := by
  unfold nFeed
  split
  · exact h
  · exact h
/-- the mask of the plugged is the same on both sides -/
theorem mask_eq {n : Nat} {A : Rw} {x y : Int32} (hz : PZ n A) (hx : bt x (A 5)) (hy : bt y (fun c => if c < n then A 5 c else 0)) : x = y := by
  refine bt_uniq hx hy (fun c hc => ?_)
  by_cases e : c < n
  · rw [if_pos e]
  · rw [if_neg e]; exact hz c (by omega) hc
end GZS
