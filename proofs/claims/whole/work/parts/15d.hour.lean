/-! ===== phase 2: an hour ===== -/
theorem u2_cg {f g : Nat → Nat → Int32} {a k b j a' k' b' j' : Nat} {x : Int32} (h : (b = a ∧ j = k) ↔ (b' = a' ∧ j' = k')) (e : f b j = g b' j') : u2 f a k x b j = u2 g a' k' x b' j' := by
  rw [u2_a2, u2_a2, e]
  simp only [h]
theorem MR.cg {b n : Nat} {A : Nat → Nat → Int32} {S T : PS} (h : MR b n A S) (e : T.1 91 = S.1 91) : MR b n A T := by
  unfold MR
  rw [e]
  exact h
theorem MR.u0 {b n c : Nat} {A : Nat → Nat → Int32} {S : PS} {x : Int32} (h : MR b n A S) (hn : n ≤ 9) (hc : c < n) : MR b n (u2 A 0 c x) (u2 S.1 91 (b + 1 + c) x, S.2) := by
  refine ⟨?_, fun d hd => ⟨?_, ?_, ?_, ?_, ?_, ?_, ?_⟩⟩
  · show u2 S.1 91 (b + 1 + c) x 91 b = u2 A 0 c x 7 0
    exact u2_cg (by omega) h.1
  · show u2 S.1 91 (b + 1 + c) x 91 (b + 1 + d) = u2 A 0 c x 0 d
    exact u2_cg (by omega) (h.2 d hd).1
  · show u2 S.1 91 (b + 1 + c) x 91 (b + 10 + d) = u2 A 0 c x 1 d
    exact u2_cg (by omega) (h.2 d hd).2.1
  · show u2 S.1 91 (b + 1 + c) x 91 (b + 19 + d) = u2 A 0 c x 2 d
    exact u2_cg (by omega) (h.2 d hd).2.2.1
  · show u2 S.1 91 (b + 1 + c) x 91 (b + 28 + d) = u2 A 0 c x 3 d
    exact u2_cg (by omega) (h.2 d hd).2.2.2.1
  · show u2 S.1 91 (b + 1 + c) x 91 (b + 46 + d) = u2 A 0 c x 4 d
    exact u2_cg (by omega) (h.2 d hd).2.2.2.2.1
  · show u2 S.1 91 (b + 1 + c) x 91 (b + 55 + d) = u2 A 0 c x 5 d
    exact u2_cg (by omega) (h.2 d hd).2.2.2.2.2.1
  · show u2 S.1 91 (b + 1 + c) x 91 (b + 37 + d) = u2 A 0 c x 6 d
    exact u2_cg (by omega) (h.2 d hd).2.2.2.2.2.2
theorem MR.u1 {b n c : Nat} {A : Nat → Nat → Int32} {S : PS} {x : Int32} (h : MR b n A S) (hn : n ≤ 9) (hc : c < n) : MR b n (u2 A 1 c x) (u2 S.1 91 (b + 10 + c) x, S.2) := by
  refine ⟨?_, fun d hd => ⟨?_, ?_, ?_, ?_, ?_, ?_, ?_⟩⟩
  · show u2 S.1 91 (b + 10 + c) x 91 b = u2 A 1 c x 7 0
    exact u2_cg (by omega) h.1
  · show u2 S.1 91 (b + 10 + c) x 91 (b + 1 + d) = u2 A 1 c x 0 d
    exact u2_cg (by omega) (h.2 d hd).1
  · show u2 S.1 91 (b + 10 + c) x 91 (b + 10 + d) = u2 A 1 c x 1 d
    exact u2_cg (by omega) (h.2 d hd).2.1
  · show u2 S.1 91 (b + 10 + c) x 91 (b + 19 + d) = u2 A 1 c x 2 d
    exact u2_cg (by omega) (h.2 d hd).2.2.1
  · show u2 S.1 91 (b + 10 + c) x 91 (b + 28 + d) = u2 A 1 c x 3 d
    exact u2_cg (by omega) (h.2 d hd).2.2.2.1
  · show u2 S.1 91 (b + 10 + c) x 91 (b + 46 + d) = u2 A 1 c x 4 d
    exact u2_cg (by omega) (h.2 d hd).2.2.2.2.1
  · show u2 S.1 91 (b + 10 + c) x 91 (b + 55 + d) = u2 A 1 c x 5 d
    exact u2_cg (by omega) (h.2 d hd).2.2.2.2.2.1
  · show u2 S.1 91 (b + 10 + c) x 91 (b + 37 + d) = u2 A 1 c x 6 d
    exact u2_cg (by omega) (h.2 d hd).2.2.2.2.2.2
theorem MR.u2' {b n c : Nat} {A : Nat → Nat → Int32} {S : PS} {x : Int32} (h : MR b n A S) (hn : n ≤ 9) (hc : c < n) : MR b n (u2 A 2 c x) (u2 S.1 91 (b + 19 + c) x, S.2) := by
  refine ⟨?_, fun d hd => ⟨?_, ?_, ?_, ?_, ?_, ?_, ?_⟩⟩
  · show u2 S.1 91 (b + 19 + c) x 91 b = u2 A 2 c x 7 0
    exact u2_cg (by omega) h.1
  · show u2 S.1 91 (b + 19 + c) x 91 (b + 1 + d) = u2 A 2 c x 0 d
    exact u2_cg (by omega) (h.2 d hd).1
  · show u2 S.1 91 (b + 19 + c) x 91 (b + 10 + d) = u2 A 2 c x 1 d
    exact u2_cg (by omega) (h.2 d hd).2.1
  · show u2 S.1 91 (b + 19 + c) x 91 (b + 19 + d) = u2 A 2 c x 2 d
    exact u2_cg (by omega) (h.2 d hd).2.2.1
  · show u2 S.1 91 (b + 19 + c) x 91 (b + 28 + d) = u2 A 2 c x 3 d
    exact u2_cg (by omega) (h.2 d hd).2.2.2.1
  · show u2 S.1 91 (b + 19 + c) x 91 (b + 46 + d) = u2 A 2 c x 4 d
    exact u2_cg (by omega) (h.2 d hd).2.2.2.2.1
  · show u2 S.1 91 (b + 19 + c) x 91 (b + 55 + d) = u2 A 2 c x 5 d
    exact u2_cg (by omega) (h.2 d hd).2.2.2.2.2.1
  · show u2 S.1 91 (b + 19 + c) x 91 (b + 37 + d) = u2 A 2 c x 6 d
    exact u2_cg (by omega) (h.2 d hd).2.2.2.2.2.2
theorem MR.u3 {b n c : Nat} {A : Nat → Nat → Int32} {S : PS} {x : Int32} (h : MR b n A S) (hn : n ≤ 9) (hc : c < n) : MR b n (u2 A 3 c x) (u2 S.1 91 (b + 28 + c) x, S.2) := by
  refine ⟨?_, fun d hd => ⟨?_, ?_, ?_, ?_, ?_, ?_, ?_⟩⟩
  · show u2 S.1 91 (b + 28 + c) x 91 b = u2 A 3 c x 7 0
    exact u2_cg (by omega) h.1
  · show u2 S.1 91 (b + 28 + c) x 91 (b + 1 + d) = u2 A 3 c x 0 d
    exact u2_cg (by omega) (h.2 d hd).1
  · show u2 S.1 91 (b + 28 + c) x 91 (b + 10 + d) = u2 A 3 c x 1 d
    exact u2_cg (by omega) (h.2 d hd).2.1
  · show u2 S.1 91 (b + 28 + c) x 91 (b + 19 + d) = u2 A 3 c x 2 d
    exact u2_cg (by omega) (h.2 d hd).2.2.1
  · show u2 S.1 91 (b + 28 + c) x 91 (b + 28 + d) = u2 A 3 c x 3 d
    exact u2_cg (by omega) (h.2 d hd).2.2.2.1
  · show u2 S.1 91 (b + 28 + c) x 91 (b + 46 + d) = u2 A 3 c x 4 d
    exact u2_cg (by omega) (h.2 d hd).2.2.2.2.1
  · show u2 S.1 91 (b + 28 + c) x 91 (b + 55 + d) = u2 A 3 c x 5 d
    exact u2_cg (by omega) (h.2 d hd).2.2.2.2.2.1
  · show u2 S.1 91 (b + 28 + c) x 91 (b + 37 + d) = u2 A 3 c x 6 d
    exact u2_cg (by omega) (h.2 d hd).2.2.2.2.2.2
theorem MR.u4 {b n c : Nat} {A : Nat → Nat → Int32} {S : PS} {x : Int32} (h : MR b n A S) (hn : n ≤ 9) (hc : c < n) : MR b n (u2 A 4 c x) (u2 S.1 91 (b + 46 + c) x, S.2) := by
  refine ⟨?_, fun d hd => ⟨?_, ?_, ?_, ?_, ?_, ?_, ?_⟩⟩
  · show u2 S.1 91 (b + 46 + c) x 91 b = u2 A 4 c x 7 0
    exact u2_cg (by omega) h.1
  · show u2 S.1 91 (b + 46 + c) x 91 (b + 1 + d) = u2 A 4 c x 0 d
    exact u2_cg (by omega) (h.2 d hd).1
  · show u2 S.1 91 (b + 46 + c) x 91 (b + 10 + d) = u2 A 4 c x 1 d
    exact u2_cg (by omega) (h.2 d hd).2.1
  · show u2 S.1 91 (b + 46 + c) x 91 (b + 19 + d) = u2 A 4 c x 2 d
    exact u2_cg (by omega) (h.2 d hd).2.2.1
  · show u2 S.1 91 (b + 46 + c) x 91 (b + 28 + d) = u2 A 4 c x 3 d
    exact u2_cg (by omega) (h.2 d hd).2.2.2.1
  · show u2 S.1 91 (b + 46 + c) x 91 (b + 46 + d) = u2 A 4 c x 4 d
    exact u2_cg (by omega) (h.2 d hd).2.2.2.2.1
  · show u2 S.1 91 (b + 46 + c) x 91 (b + 55 + d) = u2 A 4 c x 5 d
    exact u2_cg (by omega) (h.2 d hd).2.2.2.2.2.1
  · show u2 S.1 91 (b + 46 + c) x 91 (b + 37 + d) = u2 A 4 c x 6 d
    exact u2_cg (by omega) (h.2 d hd).2.2.2.2.2.2
theorem MR.u5 {b n c : Nat} {A : Nat → Nat → Int32} {S : PS} {x : Int32} (h : MR b n A S) (hn : n ≤ 9) (hc : c < n) : MR b n (u2 A 5 c x) (u2 S.1 91 (b + 55 + c) x, S.2) := by
  refine ⟨?_, fun d hd => ⟨?_, ?_, ?_, ?_, ?_, ?_, ?_⟩⟩
  · show u2 S.1 91 (b + 55 + c) x 91 b = u2 A 5 c x 7 0
    exact u2_cg (by omega) h.1
  · show u2 S.1 91 (b + 55 + c) x 91 (b + 1 + d) = u2 A 5 c x 0 d
    exact u2_cg (by omega) (h.2 d hd).1
  · show u2 S.1 91 (b + 55 + c) x 91 (b + 10 + d) = u2 A 5 c x 1 d
    exact u2_cg (by omega) (h.2 d hd).2.1
  · show u2 S.1 91 (b + 55 + c) x 91 (b + 19 + d) = u2 A 5 c x 2 d
    exact u2_cg (by omega) (h.2 d hd).2.2.1
  · show u2 S.1 91 (b + 55 + c) x 91 (b + 28 + d) = u2 A 5 c x 3 d
    exact u2_cg (by omega) (h.2 d hd).2.2.2.1
  · show u2 S.1 91 (b + 55 + c) x 91 (b + 46 + d) = u2 A 5 c x 4 d
    exact u2_cg (by omega) (h.2 d hd).2.2.2.2.1
  · show u2 S.1 91 (b + 55 + c) x 91 (b + 55 + d) = u2 A 5 c x 5 d
    exact u2_cg (by omega) (h.2 d hd).2.2.2.2.2.1
  · show u2 S.1 91 (b + 55 + c) x 91 (b + 37 + d) = u2 A 5 c x 6 d
    exact u2_cg (by omega) (h.2 d hd).2.2.2.2.2.2
theorem MR.u6 {b n c : Nat} {A : Nat → Nat → Int32} {S : PS} {x : Int32} (h : MR b n A S) (hn : n ≤ 9) (hc : c < n) : MR b n (u2 A 6 c x) (u2 S.1 91 (b + 37 + c) x, S.2) := by
  refine ⟨?_, fun d hd => ⟨?_, ?_, ?_, ?_, ?_, ?_, ?_⟩⟩
  · show u2 S.1 91 (b + 37 + c) x 91 b = u2 A 6 c x 7 0
    exact u2_cg (by omega) h.1
  · show u2 S.1 91 (b + 37 + c) x 91 (b + 1 + d) = u2 A 6 c x 0 d
    exact u2_cg (by omega) (h.2 d hd).1
  · show u2 S.1 91 (b + 37 + c) x 91 (b + 10 + d) = u2 A 6 c x 1 d
    exact u2_cg (by omega) (h.2 d hd).2.1
  · show u2 S.1 91 (b + 37 + c) x 91 (b + 19 + d) = u2 A 6 c x 2 d
    exact u2_cg (by omega) (h.2 d hd).2.2.1
  · show u2 S.1 91 (b + 37 + c) x 91 (b + 28 + d) = u2 A 6 c x 3 d
    exact u2_cg (by omega) (h.2 d hd).2.2.2.1
  · show u2 S.1 91 (b + 37 + c) x 91 (b + 46 + d) = u2 A 6 c x 4 d
    exact u2_cg (by omega) (h.2 d hd).2.2.2.2.1
  · show u2 S.1 91 (b + 37 + c) x 91 (b + 55 + d) = u2 A 6 c x 5 d
    exact u2_cg (by omega) (h.2 d hd).2.2.2.2.2.1
  · show u2 S.1 91 (b + 37 + c) x 91 (b + 37 + d) = u2 A 6 c x 6 d
    exact u2_cg (by omega) (h.2 d hd).2.2.2.2.2.2
theorem MR.u7 {b n : Nat} {A : Nat → Nat → Int32} {S : PS} {x : Int32} (h : MR b n A S) (hn : n ≤ 9) : MR b n (u2 A 7 0 x) (u2 S.1 91 b x, S.2) := by
  refine ⟨?_, fun d hd => ⟨?_, ?_, ?_, ?_, ?_, ?_, ?_⟩⟩
  · show u2 S.1 91 b x 91 b = u2 A 7 0 x 7 0
    exact u2_cg (by omega) h.1
  · show u2 S.1 91 b x 91 (b + 1 + d) = u2 A 7 0 x 0 d
    exact u2_cg (by omega) (h.2 d hd).1
  · show u2 S.1 91 b x 91 (b + 10 + d) = u2 A 7 0 x 1 d
    exact u2_cg (by omega) (h.2 d hd).2.1
  · show u2 S.1 91 b x 91 (b + 19 + d) = u2 A 7 0 x 2 d
    exact u2_cg (by omega) (h.2 d hd).2.2.1
  · show u2 S.1 91 b x 91 (b + 28 + d) = u2 A 7 0 x 3 d
    exact u2_cg (by omega) (h.2 d hd).2.2.2.1
  · show u2 S.1 91 b x 91 (b + 46 + d) = u2 A 7 0 x 4 d
    exact u2_cg (by omega) (h.2 d hd).2.2.2.2.1
  · show u2 S.1 91 b x 91 (b + 55 + d) = u2 A 7 0 x 5 d
    exact u2_cg (by omega) (h.2 d hd).2.2.2.2.2.1
  · show u2 S.1 91 b x 91 (b + 37 + d) = u2 A 7 0 x 6 d
    exact u2_cg (by omega) (h.2 d hd).2.2.2.2.2.2
/-- rows, what has come, times, tipped, lost -/
abbrev Hs : Type := (Nat → Nat → Int32) × (Nat → Int32) × (Nat → Int32) × Int32 × Int32
def lesS (z : Int32) : Int32 := if z ≤ 1000000000 then z else 1000000000
def tipT (c : Nat) (d : Int32) (A : Nat → Nat → Int32) : Int32 := (A 1 c + d) / A 0 c
def tipA (c : Nat) (d : Int32) (A : Nat → Nat → Int32) : Nat → Nat → Int32 := u2 (u2 A 1 c ((A 1 c + d) - (A 1 c + d) / A 0 c * A 0 c)) 4 c (lesS (A 4 c + tipT c d A))
def hfS (c : Nat) (t : Int32) (A : Nat → Nat → Int32) : Int32 := if A 6 c = 0 then (t + 1) / 2 else t / 2
def fallS (c : Nat) (t : Int32) (X : Hs) : Hs :=
  if X.1 2 c = -1 then (X.1, X.2.1, X.2.2.1, X.2.2.2.1, X.2.2.2.2 + t)
  else if X.1 3 c = -1 then (X.1, upd X.2.1 (ix (X.1 2 c)) (X.2.1 (ix (X.1 2 c)) + t), X.2.2)
  else (u2 X.1 6 c ((X.1 6 c + t) - (X.1 6 c + t) / 2 * 2), upd (upd X.2.1 (ix (X.1 2 c)) (X.2.1 (ix (X.1 2 c)) + hfS c t X.1)) (ix (X.1 3 c)) (upd X.2.1 (ix (X.1 2 c)) (X.2.1 (ix (X.1 2 c)) + hfS c t X.1) (ix (X.1 3 c)) + (t - hfS c t X.1)), X.2.2)
def getS (c : Nat) (d : Int32) (X : Hs) : Hs :=
  if tipT c d X.1 = 0 then (tipA c d X.1, X.2.1, upd X.2.2.1 c (tipT c d X.1), X.2.2.2)
  else fallS c (tipT c d X.1) (tipA c d X.1, X.2.1, upd X.2.2.1 c (tipT c d X.1), X.2.2.2.1 ||| (1 <<< (iN c &&& 31)), X.2.2.2.2)
def runS (w : Nat) (fr : Option (List Int32)) (sp : Nat → Int32) (A : Nat → Nat → Int32) (c : Nat) : Int32 :=
  if A 5 c = 1 then 0 else if w = 1 then 0 else if w = 2 then 1 else match fr with
    | none => 1
    | some L => if 0 < valS L A sp c then 0 else 1
def stpS (w : Nat) (fr : Option (List Int32)) (sp : Nat → Int32) (c : Nat) (X : Hs) : Hs := getS c (X.2.1 c + (if runS w fr sp X.1 c = 0 then 0 else sp c)) X
def upS (w : Nat) (fr : Option (List Int32)) (sp : Nat → Int32) : Nat → Hs → Hs
  | 0, X => X
  | k + 1, X => stpS w fr sp k (upS w fr sp k X)
def bndS (v f : Int32) : Int32 := if 0 ≤ v then (if v ≤ f then v else f) else 0
def lk1 (L : List Int32) (sp : Nat → Int32) (k : Nat) (Y : Hs) : Hs := (u2 Y.1 1 k (Y.1 1 k - bndS (valS L Y.1 sp k) (Y.1 1 k)), Y.2.1, Y.2.2.1, Y.2.2.2.1, Y.2.2.2.2 + bndS (valS L Y.1 sp k) (Y.1 1 k))
def lkL (L : List Int32) (sp : Nat → Int32) : Nat → Hs → Hs
  | 0, X => X
  | k + 1, X => lk1 L sp k (lkL L sp k X)
def lkS (lk : Option (List Int32)) (sp : Nat → Int32) (n : Nat) (X : Hs) : Hs := match lk with
  | none => X
  | some L => lkL L sp n X
def endS (X : Hs) : Hs := (u2 X.1 7 0 (X.1 7 0 + 1), X.2)
def begS (A : Nat → Nat → Int32) : Hs := (A, fun _ => 0, fun _ => 0, 0, 0)
def hourS (n w : Nat) (lk fr : Option (List Int32)) (sp : Nat → Int32) (A : Nat → Nat → Int32) : Hs := endS (lkS lk sp n (upS w fr sp n (begS A)))
/-! ranges -/
def HI (n k : Nat) (X : Hs) : Prop :=
  WF n X.1 ∧ (∀ j, j < 9 → 0 ≤ (X.2.1 j).toInt ∧ (X.2.1 j).toInt ≤ 128 * 2 ^ k - 64) ∧ (∀ j, j < 9 → 0 ≤ (X.2.2.1 j).toInt ∧ (X.2.2.1 j).toInt ≤ 65536) ∧ (∀ j, k ≤ j → X.2.2.1 j = 0) ∧ bt X.2.2.2.1 (fun c => if X.2.2.1 c = 0 then 0 else 1)
theorem z_ti : (0 : Int32).toInt = 0 := by decide
theorem o_ti : (1 : Int32).toInt = 1 := by decide
theorem t_ti : (2 : Int32).toInt = 2 := by decide
theorem n_ti : (-1 : Int32).toInt = -1 := by decide
theorem b_ti : (1000000000 : Int32).toInt = 1000000000 := by decide
theorem p2k {k : Nat} (hk : k < 9) : 1 ≤ 2 ^ k ∧ 2 ^ k ≤ 256 := by
  constructor
  · exact Nat.one_le_two_pow
  · have : 2 ^ k ≤ 2 ^ 8 := Nat.pow_le_pow_right (by omega) (by omega)
    simpa using this
theorem md_ti {v h : Int32} (h0 : 0 ≤ v.toInt) (h1 : 1 ≤ h.toInt) : (v - v / h * h).toInt = v.toInt % h.toInt := by
  have hv := ti_hi v
  have hd : (v / h).toInt = v.toInt / h.toInt := ti_div h0 (by omega)
  have hm1 : v.toInt / h.toInt * h.toInt ≤ v.toInt := Int.ediv_mul_le _ (by omega)
  have hm2 : 0 ≤ v.toInt / h.toInt * h.toInt := Int.mul_nonneg (Int.ediv_nonneg h0 (by omega)) (by omega)
  have hm : (v / h * h).toInt = v.toInt / h.toInt * h.toInt := by rw [ti_mul] <;> rw [hd] <;> omega
  rw [ti_sub] <;> rw [hm]
  · have := Int.emod_add_mul_ediv v.toInt h.toInt
    have h3 : h.toInt * (v.toInt / h.toInt) = v.toInt / h.toInt * h.toInt := Int.mul_comm _ _
    omega
  · omega
  · omega
theorem tip_r {n c : Nat} {d : Int32} {A : Nat → Nat → Int32} (hw : WR n A c) (hd : 0 ≤ d.toInt ∧ d.toInt ≤ 40000) :
    (A 1 c + d).toInt = (A 1 c).toInt + d.toInt ∧ (tipT c d A).toInt = ((A 1 c).toInt + d.toInt) / (A 0 c).toInt ∧ 0 ≤ (tipT c d A).toInt ∧ (tipT c d A).toInt ≤ (A 1 c).toInt + d.toInt := by
  obtain ⟨h0, h1, -⟩ := hw
  have ha : (A 1 c + d).toInt = (A 1 c).toInt + d.toInt := ti_add (by omega) (by omega)
  have ht : (tipT c d A).toInt = ((A 1 c).toInt + d.toInt) / (A 0 c).toInt := by
    unfold tipT
    rw [ti_div (by omega) (by omega), ha]
  refine ⟨ha, ht, ?_, ?_⟩
  · rw [ht]; exact Int.ediv_nonneg (by omega) (by omega)
  · rw [ht]; exact Int.ediv_le_self _ (by omega)
theorem les_r {z : Int32} (h : 0 ≤ z.toInt) : 0 ≤ (lesS z).toInt ∧ (lesS z).toInt ≤ 1000000000 := by
  unfold lesS
  split
  · rename_i h2
    rw [le_ti, b_ti] at h2
    exact ⟨h, h2⟩
  · rw [b_ti]; omega
theorem WR.cg {n c : Nat} {A B : Nat → Nat → Int32} (h : WR n A c) (e : ∀ k, k < 7 → B k c = A k c) : WR n B c := by
  unfold WR
  rw [e 0 (by omega), e 1 (by omega), e 2 (by omega), e 3 (by omega), e 4 (by omega), e 5 (by omega), e 6 (by omega)]
  exact h
theorem tipA_WF {n c : Nat} {d : Int32} {A : Nat → Nat → Int32} (h : WF n A) (hc : c < n) (hd : 0 ≤ d.toInt ∧ d.toInt ≤ 40000) : WF n (tipA c d A) := by
  have hn := h.1
  refine ⟨hn, fun j hj => ?_⟩
  by_cases e : j = c
  · subst e
    have hw := h.2 j hj
    obtain ⟨ha, ht, ht0, ht1⟩ := tip_r hw hd
    have e0 : tipA j d A 0 j = A 0 j := by unfold tipA; rw [u2_o (by omega), u2_o (by omega)]
    have e1 : tipA j d A 1 j = (A 1 j + d) - (A 1 j + d) / A 0 j * A 0 j := by unfold tipA; rw [u2_o (by omega), u2_at, upd_at]
    have e2 : tipA j d A 2 j = A 2 j := by unfold tipA; rw [u2_o (by omega), u2_o (by omega)]
    have e3 : tipA j d A 3 j = A 3 j := by unfold tipA; rw [u2_o (by omega), u2_o (by omega)]
    have e4 : tipA j d A 4 j = lesS (A 4 j + tipT j d A) := by unfold tipA; rw [u2_at, upd_at]
    have e5 : tipA j d A 5 j = A 5 j := by unfold tipA; rw [u2_o (by omega), u2_o (by omega)]
    have e6 : tipA j d A 6 j = A 6 j := by unfold tipA; rw [u2_o (by omega), u2_o (by omega)]
    obtain ⟨h0, h1, h2, h3, h4, h5, h6, h7⟩ := hw
    unfold WR
    rw [e0, e1, e2, e3, e4, e5, e6]
    refine ⟨h0, ?_, h2, h3, ?_, h5, h6, fun hh => by omega⟩
    · rw [md_ti (by omega) (by omega)]
      exact ⟨Int.emod_nonneg _ (by omega), Int.emod_lt_of_pos _ (by omega)⟩
    · apply les_r
      rw [ti_add] <;> omega
  · refine (h.2 j hj).cg (fun k _ => ?_)
    unfold tipA
    rw [u2_a2, if_neg (by omega), u2_a2, if_neg (by omega)]
theorem hf_r {c : Nat} {t : Int32} {A : Nat → Nat → Int32} (h : 0 ≤ t.toInt ∧ t.toInt ≤ 40000) : 0 ≤ (hfS c t A).toInt ∧ (hfS c t A).toInt ≤ t.toInt ∧ (t - hfS c t A).toInt = t.toInt - (hfS c t A).toInt := by
  have h1 : 0 ≤ (hfS c t A).toInt ∧ (hfS c t A).toInt ≤ t.toInt := by
    unfold hfS
    split
    · have e : (t + 1).toInt = t.toInt + 1 := by rw [ti_add] <;> rw [o_ti] <;> omega
      rw [ti_div (by omega) (by decide), e, t_ti]
      omega
    · rw [ti_div (by omega) (by decide), t_ti]
      omega
  exact ⟨h1.1, h1.2, ti_sub (by omega) (by omega)⟩
theorem HI_fall {n k : Nat} {t : Int32} {X : Hs} (hk : k < n) (hw : WF n X.1) (hcom : ∀ j, j < 9 → 0 ≤ (X.2.1 j).toInt ∧ (X.2.1 j).toInt ≤ 128 * 2 ^ k - 64) (ht : 0 ≤ t.toInt ∧ t.toInt ≤ 128 * 2 ^ k) :
    WF n (fallS k t X).1 ∧ (∀ j, j < 9 → 0 ≤ ((fallS k t X).2.1 j).toInt ∧ ((fallS k t X).2.1 j).toInt ≤ 128 * 2 ^ (k + 1) - 64) ∧ (fallS k t X).2.2.1 = X.2.2.1 ∧ (fallS k t X).2.2.2.1 = X.2.2.2.1 := by
  have hn := hw.1
  have hp := p2k (show k < 9 by omega)
  have h2 : 2 ^ (k + 1) = 2 * 2 ^ k := by rw [Nat.pow_succ]; omega
  have hpi : (2 : Int) ^ (k + 1) = 2 * 2 ^ k := by rw [Int.pow_succ]; omega
  have hpz : ((2 ^ k : Nat) : Int) = (2 : Int) ^ k := by norm_cast
  rw [hpi]
  obtain ⟨P, hP⟩ : ∃ P : Int, (2 : Int) ^ k = P := ⟨_, rfl⟩
  rw [hP] at hcom ht hpz ⊢
  obtain ⟨h0, h1, hf, hs, h4, h5, h6, h7⟩ := hw.2 k (by omega)
  unfold fallS
  by_cases e1 : X.1 2 k = -1
  · rw [if_pos e1]
    exact ⟨hw, fun j hj => by have := hcom j hj; show 0 ≤ (X.2.1 j).toInt ∧ (X.2.1 j).toInt ≤ _; omega, rfl, rfl⟩
  · rw [if_neg e1]
    obtain ⟨d1, hd1, hk1, hn1⟩ := hf.resolve_left e1
    have hx1 : ix (X.1 2 k) = d1 := by rw [hd1]; exact ix_iN (by omega)
    rw [hx1]
    by_cases e2 : X.1 3 k = -1
    · rw [if_pos e2]
      refine ⟨hw, fun j hj => ?_, rfl, rfl⟩
      show 0 ≤ (upd X.2.1 d1 (X.2.1 d1 + t) j).toInt ∧ (upd X.2.1 d1 (X.2.1 d1 + t) j).toInt ≤ _
      have c1 := hcom j hj
      by_cases ej : j = d1
      · subst ej
        rw [upd_at, ti_add (by omega) (by omega)]
        omega
      · rw [upd_o ej]; omega
    · rw [if_neg e2]
      obtain ⟨d2, hd2, hk2, hn2, hne, -⟩ := hs.resolve_left e2
      have hx2 : ix (X.1 3 k) = d2 := by rw [hd2]; exact ix_iN (by omega)
      rw [hx2]
      have hr := hf_r (c := k) (A := X.1) (t := t) (by omega)
      refine ⟨⟨hn, fun j hj => ?_⟩, fun j hj => ?_, rfl, rfl⟩
      · by_cases ej : j = k
        · subst ej
          show WR n (u2 X.1 6 j _) j
          unfold WR
          rw [u2_o (by omega), u2_o (by omega), u2_o (by omega), u2_o (by omega), u2_o (by omega), u2_o (by omega), u2_at, upd_at]
          refine ⟨h0, h1, hf, hs, h4, h5, ?_, fun hh => by omega⟩
          have h6t : 0 ≤ (X.1 6 j).toInt ∧ (X.1 6 j).toInt ≤ 1 := by rcases h6 with e | e <;> rw [e] <;> decide
          have ha : (X.1 6 j + t).toInt = (X.1 6 j).toInt + t.toInt := ti_add (by omega) (by omega)
          have hm := md_ti (v := X.1 6 j + t) (h := 2) (by omega) (by decide)
          rw [t_ti] at hm
          rw [eq_ti, eq_ti, z_ti, o_ti, hm]
          omega
        · refine (hw.2 j hj).cg (fun q _ => ?_)
          show u2 X.1 6 k _ q j = X.1 q j
          rw [u2_a2, if_neg (by omega)]
      · show 0 ≤ (upd (upd X.2.1 d1 (X.2.1 d1 + hfS k t X.1)) d2 (upd X.2.1 d1 (X.2.1 d1 + hfS k t X.1) d2 + (t - hfS k t X.1)) j).toInt ∧ (upd (upd X.2.1 d1 (X.2.1 d1 + hfS k t X.1)) d2 (upd X.2.1 d1 (X.2.1 d1 + hfS k t X.1) d2 + (t - hfS k t X.1)) j).toInt ≤ _
        have hdd : d2 ≠ d1 := by
          intro e
          apply hne
          rw [hd1, hd2, e]
        have c1 := hcom j hj
        rw [upd_o hdd]
        by_cases ej : j = d2
        · subst ej
          rw [upd_at, ti_add (by omega) (by omega)]
          omega
        · rw [upd_o ej]
          by_cases ej1 : j = d1
          · subst ej1
            rw [upd_at, ti_add (by omega) (by omega)]
            omega
          · rw [upd_o ej1]; omega
theorem HI_get {n k : Nat} {d : Int32} {X : Hs} (h : HI n k X) (hk : k < n) (hd : 0 ≤ d.toInt ∧ d.toInt ≤ 128 * 2 ^ k - 44) : HI n (k + 1) (getS k d X) := by
  obtain ⟨hw, hcom, htm, ht0, hbt⟩ := h
  have hn := hw.1
  have hp := p2k (show k < 9 by omega)
  have hpz : ((2 ^ k : Nat) : Int) = (2 : Int) ^ k := by norm_cast
  have hpi : (2 : Int) ^ (k + 1) = 2 * 2 ^ k := by rw [Int.pow_succ]; omega
  have hwk := hw.2 k (by omega)
  have hd4 : 0 ≤ d.toInt ∧ d.toInt ≤ 40000 := by omega
  obtain ⟨ha, ht, hta, htb⟩ := tip_r hwk hd4
  have hf := hwk.2.1
  have hho := hwk.1
  have htr : 0 ≤ (tipT k d X.1).toInt ∧ (tipT k d X.1).toInt ≤ 128 * 2 ^ k := by omega
  have hwa := tipA_WF hw hk hd4
  have htm2 : ∀ j, j < 9 → 0 ≤ (upd X.2.2.1 k (tipT k d X.1) j).toInt ∧ (upd X.2.2.1 k (tipT k d X.1) j).toInt ≤ 65536 := by
    intro j hj
    by_cases e : j = k
    · subst e; rw [upd_at]; omega
    · rw [upd_o e]; exact htm j hj
  have ht02 : ∀ j, k + 1 ≤ j → upd X.2.2.1 k (tipT k d X.1) j = 0 := by
    intro j hj
    rw [upd_o (by omega)]
    exact ht0 j (by omega)
  unfold getS
  by_cases e : tipT k d X.1 = 0
  · rw [if_pos e]
    refine ⟨hwa, fun j hj => ?_, htm2, ht02, ?_⟩
    · have := hcom j hj
      show 0 ≤ (X.2.1 j).toInt ∧ (X.2.1 j).toInt ≤ _
      omega
    · refine bt_congr hbt (fun c hc => ?_)
      by_cases ec : c = k
      · subst ec
        show (if upd X.2.2.1 c (tipT c d X.1) c = 0 then (0 : Int32) else 1) = _
        rw [upd_at, if_pos e, if_pos (ht0 c (Nat.le_refl _))]
      · show (if upd X.2.2.1 k (tipT k d X.1) c = 0 then (0 : Int32) else 1) = _
        rw [upd_o ec]
  · rw [if_neg e]
    have hb2 : bt (X.2.2.2.1 ||| (1 <<< (iN k &&& 31))) (fun c => if upd X.2.2.1 k (tipT k d X.1) c = 0 then 0 else 1) := by
      refine bt_congr (bt_or hbt (show k < 9 by omega)) (fun c hc => ?_)
      by_cases ec : c = k
      · subst ec
        rw [upd_at, upd_at, if_neg e]
      · rw [upd_o ec, upd_o ec]
    obtain ⟨r1, r2, r3, r4⟩ := HI_fall (X := (tipA k d X.1, X.2.1, upd X.2.2.1 k (tipT k d X.1), X.2.2.2.1 ||| (1 <<< (iN k &&& 31)), X.2.2.2.2)) hk hwa hcom htr
    refine ⟨r1, r2, ?_, ?_, ?_⟩
    · rw [r3]; exact htm2
    · rw [r3]; exact ht02
    · rw [r3, r4]; exact hb2
