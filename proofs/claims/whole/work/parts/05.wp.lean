/-! ===== the judgement: pure states of the whole world; the machine is hidden inside ===== -/
abbrev PS : Type := (Nat → Nat → Int32) × (Nat → Nat → Int64) × (Nat → Nat → Nat)
/-- addresses of the cells; classes of arrays; classes and slots of objects; where new cells begin; the script's length and ints -/
abbrev Geo : Type := (Nat → Nat) × (Nat → ClassId) × (Nat → ClassId) × (Nat → Nat → Nat) × Nat × Nat × (Nat → Int32)
def ck (k : Nat) : Nat × Nat := cks.getD k (9, 0)
def fkl (c : Nat) : List Nat := fks.getD c []
def sr (o k : Nat) : Nat := (srs.getD o []).getD k 0
def cv (G : Geo) : Value → Value
  | .ref k => .ref (G.1 k)
  | v => v
/-- the value of field k of object o, of kind t -/
def fvp (S : PS) (o k t : Nat) : Value := match t with
  | 0 => .int (S.1 o k)
  | 1 => .int (S.1 o k)
  | 2 => .long (S.2.1 o k)
  | 3 => .ref (sr o k)
  | _ => .ref (S.2.2 o k)
def fls (G : Geo) (S : PS) (o c : Nat) : List Value := (fkl c).zipIdx.map (fun q => cv G (fvp S o q.2 q.1))
def ent (G : Geo) (S : PS) (k : Nat) : va_E :=
  if (ck k).1 = 0 then .inr ((ck k).2, fls G S k (ck k).2)
  else if (ck k).1 = 4 then .inl (G.2.1 4, (ck k).2, .inr (.inl (S.2.1 k)))
  else .inl (G.2.1 (ck k).1, (ck k).2, .inl (S.1 k))
def wl (G : Geo) (S : PS) : va_W := (List.range nC).map (fun k => (G.1 k, ent G S k))
theorem wl_get {G : Geo} {S : PS} {k : Nat} (h : k < nC) : (wl G S)[k]? = some (G.1 k, ent G S k) := by simp [wl, h]
theorem wl_inv {G : Geo} {S : PS} {k : Nat} {q : Nat × va_E} (h : (wl G S)[k]? = some q) : k < nC ∧ q = (G.1 k, ent G S k) := by
  have hk : k < nC := by
    have := (List.getElem?_eq_some_iff.mp h).1
    simpa [wl] using this
  rw [wl_get hk] at h
  exact ⟨hk, (Option.some.inj h).symm⟩
theorem wl_set {G : Geo} {S S' : PS} {k : Nat} {e : va_E} (h : k < nC) (he : ent G S' k = e) (ho : ∀ i, i < nC → i ≠ k → ent G S' i = ent G S i) : (wl G S).set k (G.1 k, e) = wl G S' := by
  apply List.ext_getElem?
  intro i
  by_cases hi : i < nC
  · by_cases hik : i = k
    · subst hik
      rw [List.getElem?_set_self (by simpa [wl] using hi), wl_get hi, he]
    · rw [List.getElem?_set_ne (Ne.symm hik), wl_get hi, wl_get hi, ho i hi hik]
  · have h1 : ((wl G S).set k (G.1 k, e))[i]? = none := List.getElem?_eq_none_iff.mpr (by simp [wl]; omega)
    have h2 : (wl G S')[i]? = none := List.getElem?_eq_none_iff.mpr (by simp [wl]; omega)
    rw [h1, h2]
theorem ent_obj {G : Geo} {S : PS} {k c : Nat} (h : ck k = (0, c)) : ent G S k = .inr (c, fls G S k c) := by simp [ent, h]
theorem ent_int {G : Geo} {S : PS} {k t n : Nat} (h : ck k = (t, n)) (h0 : t ≠ 0) (h4 : t ≠ 4) : ent G S k = .inl (G.2.1 t, n, .inl (S.1 k)) := by simp [ent, h, h0, h4]
theorem ent_long {G : Geo} {S : PS} {k n : Nat} (h : ck k = (4, n)) : ent G S k = .inl (G.2.1 4, n, .inr (.inl (S.2.1 k))) := by simp [ent, h]
theorem fls_get {G : Geo} {S : PS} {o c k t : Nat} (h : (fkl c)[k]? = some t) : (fls G S o c)[k]? = some (cv G (fvp S o k t)) := by
  simp [fls, List.getElem?_map, List.getElem?_zipIdx, h]
theorem fls_len {G : Geo} {S : PS} {o c : Nat} : (fls G S o c).length = (fkl c).length := by simp [fls]
theorem fls_ext {G : Geo} {S S' : PS} {o c : Nat} (h : ∀ k t, (fkl c)[k]? = some t → fvp S' o k t = fvp S o k t) : fls G S' o c = fls G S o c := by
  apply List.ext_getElem?
  intro k
  cases hk : (fkl c)[k]? with
  | none => simp [fls, List.getElem?_map, List.getElem?_zipIdx, hk]
  | some t => rw [fls_get hk, fls_get hk, h k t hk]
theorem fls_set {G : Geo} {S S' : PS} {o c k t : Nat} {v : Value} (hk : (fkl c)[k]? = some t) (hv : cv G (fvp S' o k t) = v) (h : ∀ i s, (fkl c)[i]? = some s → i ≠ k → fvp S' o i s = fvp S o i s) : (fls G S o c).set k v = fls G S' o c := by
  apply List.ext_getElem?
  intro i
  by_cases hik : i = k
  · subst hik
    have hl : i < (fls G S o c).length := by rw [fls_len]; exact (List.getElem?_eq_some_iff.mp hk).1
    rw [List.getElem?_set_self hl, fls_get hk, hv]
  · rw [List.getElem?_set_ne (Ne.symm hik)]
    cases hi : (fkl c)[i]? with
    | none => simp [fls, List.getElem?_map, List.getElem?_zipIdx, hi]
    | some s => rw [fls_get hi, fls_get hi, h i s hi hik]
/-- one place of one row anew -/
def u2 (f : Nat → Nat → Int32) (a k : Nat) (x : Int32) : Nat → Nat → Int32 := fun b => if b = a then upd (f b) k x else f b
def u2L (f : Nat → Nat → Int64) (a k : Nat) (x : Int64) : Nat → Nat → Int64 := fun b => if b = a then vp_updL (f b) k x else f b
def u2R (f : Nat → Nat → Nat) (a k : Nat) (x : Nat) : Nat → Nat → Nat := fun b => if b = a then (fun i => if i = k then x else f b i) else f b
theorem u2_row {f : Nat → Nat → Int32} {a k : Nat} {x : Int32} : u2 f a k x a = upd (f a) k x := by simp [u2]
theorem u2_ne {f : Nat → Nat → Int32} {a b k : Nat} {x : Int32} (h : b ≠ a) : u2 f a k x b = f b := by simp [u2, h]
theorem u2L_row {f : Nat → Nat → Int64} {a k : Nat} {x : Int64} : u2L f a k x a = vp_updL (f a) k x := by simp [u2L]
theorem u2L_ne {f : Nat → Nat → Int64} {a b k : Nat} {x : Int64} (h : b ≠ a) : u2L f a k x b = f b := by simp [u2L, h]
theorem u2R_ne {f : Nat → Nat → Nat} {a b k : Nat} {x : Nat} (h : b ≠ a) : u2R f a k x b = f b := by simp [u2R, h]
theorem fvp_cong {S S' : PS} {o k t : Nat} (h1 : S'.1 o k = S.1 o k) (h2 : S'.2.1 o k = S.2.1 o k) (h3 : S'.2.2 o k = S.2.2 o k) : fvp S' o k t = fvp S o k t := by
  unfold fvp
  split <;> simp_all
theorem ent_cong {G : Geo} {S S' : PS} {i : Nat} (h1 : S'.1 i = S.1 i) (h2 : S'.2.1 i = S.2.1 i) (h3 : S'.2.2 i = S.2.2 i) : ent G S' i = ent G S i := by
  unfold ent
  rw [h1, h2]
  by_cases h0 : (ck i).1 = 0
  · simp only [h0, if_true]
    rw [fls_ext (S := S) (S' := S') (fun k t _ => fvp_cong (by rw [h1]) (by rw [h2]) (by rw [h3]))]
  · simp only [h0, if_false]
abbrev gD (G : Geo) : va_G := (G.2.2.1, G.2.2.2.1)
abbrev gsz (G : Geo) : Nat := G.2.2.2.2.1
def gT (G : Geo) : List (ClassId × FieldType) := [(G.2.1 1, .int), (G.2.1 2, .byte), (G.2.1 3, .boolean), (G.2.1 4, .long)]
/-- what may change: the world's cells, and what is new -/
def gA (G : Geo) : Nat → Prop := fun q => (∃ k, k < nC ∧ q = G.1 k) ∨ gsz G ≤ q
/-- the script's number -/
def nSC : Nat := 1000
/-- links to a nest mate's own -/
def nestW : List (String × Nat × MethodName × String) := [("DripCups$Cups", 61, ⟨"DripCups", "has", "(II)Z"⟩, "DripCups"), ("DripCups$Drip", 108, ⟨"DripCups", "bitOf", "(I)I"⟩, "DripCups"), ("DripCups$Cups", 65, ⟨"DripCups", "bitOf", "(I)I"⟩, "DripCups"), ("DripCups$Floors", 72, ⟨"DripCups", "has", "(II)Z"⟩, "DripCups"), ("DripCups$Heard", 31, ⟨"DripCups", "has", "(II)Z"⟩, "DripCups")]
/-- methods that their classes declare; castings; texts of throws; literals (their numbers); what is no kind of what -/
def decW : List MethodName := [⟨"java/lang/RuntimeException", "<init>", "(Ljava/lang/String;)V"⟩, ⟨"java/lang/Exception", "<init>", "(Ljava/lang/String;)V"⟩, ⟨"java/lang/Throwable", "<init>", "(Ljava/lang/String;)V"⟩]
def casW : List (String × String) := [("java/lang/IllegalArgumentException", "java/lang/IllegalArgumentException"), ("java/util/NoSuchElementException", "java/util/NoSuchElementException")]
def thrW : List (String × Nat × String) := [("DripCups", 359, "out of range"), ("DripCups", 357, "no such what"), ("DripCups", 354, "no such cup"), ("DripCups", 361, "not bits of cups"), ("DripCups", 261, "times below 0"), ("DripCups", 298, "both are one")]
def litW : List (String × Nat × String × Nat) := [("DripCups$Reader", 49, "cup", 1001), ("DripCups$Reader", 58, "pipe", 1002), ("DripCups$Reader", 63, "leaks", 1003), ("DripCups$Reader", 150, "not", 1004), ("DripCups$Reader", 170, "fill", 1005), ("DripCups$Reader", 172, "holds", 1006), ("DripCups$Reader", 174, "spring", 1007), ("DripCups$Reader", 176, "tips", 1008), ("DripCups$Reader", 178, "hour", 1009), ("DripCups$Reader", 148, "and", 1010), ("DripCups$Reader", 140, "or", 1011), ("DripCups$Reader", 68, "frost", 1012)]
def litL : List Nat := [3, 4, 5, 3, 4, 5, 6, 4, 4, 3, 2, 5]
def litB : List (List Int32) := [[99, 117, 112], [112, 105, 112, 101], [108, 101, 97, 107, 115], [110, 111, 116], [102, 105, 108, 108], [104, 111, 108, 100, 115], [115, 112, 114, 105, 110, 103], [116, 105, 112, 115], [104, 111, 117, 114], [97, 110, 100], [111, 114], [102, 114, 111, 115, 116]]
def GX (G : Geo) (U : State) (H : Heap) : Prop :=
  (∀ q ∈ nestW, va_Nw (.methodLinkNest q.1 q.2.1 q.2.2.1 q.2.2.2) U) ∧ (∀ y ∈ decW, va_Nw (.declares y) U) ∧ (∀ q ∈ casW, va_Nw (.castable q.1 q.2) U) ∧ (∀ q ∈ thrW, ∃ a, vk_R q.1 q.2.1 q.2.2 a U) ∧ (∀ q ∈ litW, vk_R q.1 q.2.1 q.2.2.1 (G.1 q.2.2.2) U) ∧
  vk_S litL.length litL litB (fun i => G.1 (1001 + i)) (fun i => G.1 (1101 + i)) (gA G) U H ∧ va_Z "java/lang/String" "COMPACT_STRINGS" "Z" (.int 1) (gA G) U H ∧ (va_Z "jdk/internal/util/Preconditions" "SIOOBE_FORMATTER" "Ljava/util/function/BiFunction;" .null (gA G) U H ∨ va_Z "jdk/internal/util/Preconditions" "SIOOBE_FORMATTER" "Ljava/util/function/BiFunction;" (.ref (G.1 1300)) (gA G) U H) ∧ va_Nc "java/lang/IllegalArgumentException" "java/util/NoSuchElementException" U
theorem cast_warm {a b : String} {s U : State} (hvm : s.vm.Alike U.vm) (h : va_Nw (.castable a b) s) : va_Nw (.castable a b) U := va_tabs rfl (rfl : (s.setVm U.vm).vm = U.vm) (by rw [Cond.castable_setVm hvm]; exact h)
theorem GX.warm {G : Geo} {u U : State} {H : Heap} (hW : u.WarmedH U.vm) (h : GX G u H) : GX G U H :=
  ⟨fun q hq => va_Nw.warmM hW (h.1 q hq), fun q hq => va_Nw.warmD hW (h.2.1 q hq), fun q hq => cast_warm hW.alike (h.2.2.1 q hq), fun q hq => (h.2.2.2.1 q hq).imp (fun _ h9 => vk_R.warm hW h9), fun q hq => vk_R.warm hW (h.2.2.2.2.1 q hq),
   h.2.2.2.2.2.1.moved hW.alike, h.2.2.2.2.2.2.1.moved hW.alike, h.2.2.2.2.2.2.2.1.imp (fun h9 => h9.moved hW.alike) (fun h9 => h9.moved hW.alike), h.2.2.2.2.2.2.2.2.moved hW.alike⟩
theorem GX.same {G : Geo} {u U : State} {H : Heap} (hv : u.vm = U.vm) (h : GX G u H) : GX G U H := by
  have hal : u.vm.Alike U.vm := by rw [← hv]; exact Vm.Alike.refl u.vm
  exact ⟨fun q hq => va_Nw.same rfl hv (h.1 q hq), fun q hq => va_Nw.same rfl hv (h.2.1 q hq), fun q hq => va_Nw.same rfl hv (h.2.2.1 q hq), fun q hq => (h.2.2.2.1 q hq).imp (fun _ h9 => vk_R.same hv.symm h9), fun q hq => vk_R.same hv.symm (h.2.2.2.2.1 q hq),
   h.2.2.2.2.2.1.moved hal, h.2.2.2.2.2.2.1.moved hal, h.2.2.2.2.2.2.2.1.imp (fun h9 => h9.moved hal) (fun h9 => h9.moved hal), h.2.2.2.2.2.2.2.2.moved hal⟩
theorem GX.kept {G : Geo} {U : State} {H H1 : Heap} (h : GX G U H) (hq : ∀ a : Nat, a < H.size → ¬ gA G a → H1[a]? = H[a]?) : GX G U H1 :=
  ⟨h.1, h.2.1, h.2.2.1, h.2.2.2.1, h.2.2.2.2.1, h.2.2.2.2.2.1.kept hq, h.2.2.2.2.2.2.1.kept hq, h.2.2.2.2.2.2.2.1.imp (fun h9 => h9.kept hq) (fun h9 => h9.kept hq), h.2.2.2.2.2.2.2.2⟩
/-- what is known of the geometry at a state and a heap -/
def GF (G : Geo) (U : State) (H : Heap) : Prop :=
  va_K (gD G) vwCl (gT G) U ∧ (∀ i j, i < nC → j < nC → G.1 i = G.1 j → i = j) ∧ gsz G ≤ H.size ∧ vx_Zq Bundle.tN "UNASSIGNED_STACK" Bundle.steD (gA G) U H ∧ vx_Zq Bundle.tN "SUPPRESSED_SENTINEL" Bundle.listD (gA G) U H ∧ (va_X (G.1 nSC) G.2.2.2.2.2.1 G.2.2.2.2.2.2 U H ∧ G.1 nSC < H.size ∧ ¬ gA G (G.1 nSC)) ∧ GX G U H
theorem GF.warm {G : Geo} {u U : State} {H : Heap} (hW : u.WarmedH U.vm) (h : GF G u H) : GF G U H :=
  ⟨va_K.moved hW.alike h.1, h.2.1, h.2.2.1, h.2.2.2.1.moved hW.alike, h.2.2.2.2.1.moved hW.alike, ⟨h.2.2.2.2.2.1.1.moved hW.alike, h.2.2.2.2.2.1.2⟩, h.2.2.2.2.2.2.warm hW⟩
theorem GF.same {G : Geo} {u U : State} {H : Heap} (hv : u.vm = U.vm) (h : GF G u H) : GF G U H := by
  have hal : u.vm.Alike U.vm := by rw [← hv]; exact Vm.Alike.refl u.vm
  exact ⟨va_K.moved hal h.1, h.2.1, h.2.2.1, h.2.2.2.1.moved hal, h.2.2.2.2.1.moved hal, ⟨h.2.2.2.2.2.1.1.moved hal, h.2.2.2.2.2.1.2⟩, h.2.2.2.2.2.2.same hv⟩
theorem GF.kept {G : Geo} {U : State} {H H1 : Heap} (h : GF G U H) (hz : H.size ≤ H1.size) (hq : ∀ a : Nat, a < H.size → ¬ gA G a → H1[a]? = H[a]?) : GF G U H1 :=
  ⟨h.1, h.2.1, Nat.le_trans h.2.2.1 hz, h.2.2.2.1.kept hq, h.2.2.2.2.1.kept hq, ⟨h.2.2.2.2.2.1.1.kept (hq _ h.2.2.2.2.2.1.2.1 h.2.2.2.2.2.1.2.2), Nat.lt_of_lt_of_le h.2.2.2.2.2.1.2.1 hz, h.2.2.2.2.2.1.2.2⟩, h.2.2.2.2.2.2.kept hq⟩
theorem GF.at {G : Geo} {s U : State} {H : Heap} {locs : List Loc} (h : GF G s s.heap) (hS : va_S (gA G) s.heap H locs) (hW : s.WarmedH U.vm) : GF G U H := (h.kept hS.1 hS.2.1).warm hW
theorem GF.D {G : Geo} {U : State} {H : Heap} (h : GF G U H) (S : PS) : va_D (gA G) (wl G S) := by
  refine ⟨fun i j p q hi hj hpq => ?_, fun k q hk => ?_⟩
  · obtain ⟨h1, rfl⟩ := wl_inv hi
    obtain ⟨h2, rfl⟩ := wl_inv hj
    exact h.2.1 i j h1 h2 hpq
  · obtain ⟨h1, rfl⟩ := wl_inv hk
    exact Or.inl ⟨k, h1, rfl⟩
/-- a method: name, code, locals, answer -/
abbrev MT : Type := MethodName × ByteArray × Nat × Option FieldType
def W0 : List Cond := lw_tbl.filter goodWord
def wsj (j : MT) : List Cond := .code j.1 j.2.1 j.2.2.1 j.2.2.2 :: W0
def rmd (d M : Nat) : Room := { frames := d, cells := M, slots := 6 * M, locals := 64 * d }
abbrev OQ : Type := (Option Value ⊕ String) → PS → Prop
/-- the script as the pure state has it -/
def SV (G : Geo) (S : PS) : Prop := S.1 1000 = G.2.2.2.2.2.2 ∧ S.2.2 1000 0 = G.2.2.2.2.2.1
abbrev PW (G : Geo) (S : PS) (H : Heap) : Prop := va_P (gD G) vwCl (wl G S) H ∧ SV G S
theorem ne1000 {o : Nat} (h : o < nC) : 1000 ≠ o := fun e => absurd (e ▸ h) (by decide)
theorem SV.u2 {G : Geo} {S : PS} {a k : Nat} {x : Int32} (h : SV G S) (ha : a < nC) : SV G (u2 S.1 a k x, S.2) := ⟨(u2_ne (ne1000 ha)).trans h.1, h.2⟩
def mQ (G : Geo) (Q : OQ) : Array Value → State → Outcome → State → Prop := fun _ st oc t => (∃ (v : Option Value) (S' : PS), oc = .returned (v.map (cv G)) ∧ Q (.inl v) S' ∧ PW G S' t.heap) ∧ va_F (gA G) st t
def mX (G : Geo) (Q : OQ) : String → State → State → Prop := fun E st t => (∃ S' : PS, Q (.inr E) S' ∧ PW G S' t.heap) ∧ va_F (gA G) st t
def lva (G : Geo) : Nat → List (Option Value) → List (Nat × Value)
  | _, [] => []
  | i, none :: t => lva G (i + 1) t
  | i, some v :: t => (i, cv G v) :: lva G (i + 1) t
theorem lva_mem {G : Geo} {q : Nat × Value} : ∀ (L : List (Option Value)) (i : Nat), q ∈ lva G i L ↔ ∃ k v, L[k]? = some (some v) ∧ q = (i + k, cv G v)
  | [], i => by simp [lva]
  | none :: t, i => by
    rw [lva, lva_mem t (i + 1)]
    constructor
    · rintro ⟨k, v, h, rfl⟩
      exact ⟨k + 1, v, by simpa using h, by rw [show i + 1 + k = i + (k + 1) by omega]⟩
    · rintro ⟨k, v, h, rfl⟩
      cases k with
      | zero => simp at h
      | succ k => exact ⟨k, v, by simpa using h, by rw [show i + 1 + k = i + (k + 1) by omega]⟩
  | some w :: t, i => by
    rw [lva, List.mem_cons, lva_mem t (i + 1)]
    constructor
    · rintro (rfl | ⟨k, v, h, rfl⟩)
      · exact ⟨0, w, by simp, rfl⟩
      · exact ⟨k + 1, v, by simpa using h, by rw [show i + 1 + k = i + (k + 1) by omega]⟩
    · rintro ⟨k, v, h, rfl⟩
      cases k with
      | zero =>
        simp at h
        subst h
        exact Or.inl rfl
      | succ k => exact Or.inr ⟨k, v, by simpa using h, by rw [show i + 1 + k = i + (k + 1) by omega]⟩
theorem cv_cat {G : Geo} {v : Value} : (cv G v).category = v.category := by cases v <;> rfl
theorem lva_at {G : Geo} {ls : Array Slot} {nL : Nat} {L : List (Option Value)} (h : lv_has ls nL (lva G 0 L)) {i : Nat} {v : Value} (hi : L[i]? = some (some v)) : ls[i]? = some (.val (cv G v)) :=
  h.2.2 (i, cv G v) ((lva_mem L 0).mpr ⟨i, v, hi, by rw [Nat.zero_add]⟩)
/-- ahead of the place i no value of two slots -/
def lcl (L : List (Option Value)) : Nat → Bool
  | 0 => true
  | i + 1 => match L[i]? with
    | some (some v) => v.category == 1
    | _ => true
theorem lva_store {G : Geo} {ls : Array Slot} {nL i : Nat} {L : List (Option Value)} {v : Value} (hc : lcl L i = true) (h : lv_has ls nL ((i, cv G v) :: (lva G 0 L).filter (fun q => !(q.1 == i) && !(q.1 + 1 == i && q.2.category == 2)))) : lv_has ls nL (lva G 0 (L.set i (some v))) := by
  refine ⟨h.1, h.2.1, fun q hq => h.2.2 q ?_⟩
  obtain ⟨k, w, hk, rfl⟩ := (lva_mem _ 0).mp hq
  rw [Nat.zero_add]
  by_cases hki : k = i
  · subst hki
    have hl : k < L.length := by
      have := (List.getElem?_eq_some_iff.mp hk).1
      simpa using this
    rw [List.getElem?_set_self hl] at hk
    cases hk
    exact List.mem_cons_self
  · rw [List.getElem?_set_ne (Ne.symm hki)] at hk
    refine List.mem_cons_of_mem _ (List.mem_filter.mpr ⟨(lva_mem L 0).mpr ⟨k, w, hk, by rw [Nat.zero_add]⟩, ?_⟩)
    have h1 : (k == i) = false := by simpa using hki
    simp only [h1, Bool.not_false, Bool.true_and]
    by_cases hk2 : k + 1 = i
    · subst hk2
      simp only [lcl, hk] at hc
      simp only [beq_self_eq_true, Bool.true_and, cv_cat]
      have : w.category = 1 := by simpa using hc
      simp [this]
    · have h2 : (k + 1 == i) = false := by simpa using hk2
      simp [h2]
theorem lva_store2 {G : Geo} {ls : Array Slot} {nL i : Nat} {L : List (Option Value)} {v : Value} (hc : lcl L i = true) (h : lv_has ls nL ((i, cv G v) :: (lva G 0 L).filter (fun q => !(q.1 == i) && (!(q.1 == i + 1) && !(q.1 + 1 == i && q.2.category == 2))))) : lv_has ls nL (lva G 0 ((L.set i (some v)).set (i + 1) none)) := by
  refine ⟨h.1, h.2.1, fun q hq => h.2.2 q ?_⟩
  obtain ⟨k, w, hk, rfl⟩ := (lva_mem _ 0).mp hq
  rw [Nat.zero_add]
  have hk1 : k ≠ i + 1 := by
    intro e
    subst e
    by_cases hl : i + 1 < (L.set i (some v)).length
    · rw [List.getElem?_set_self hl] at hk; cases hk
    · have h9 : ((L.set i (some v)).set (i + 1) none)[i + 1]? = none := List.getElem?_eq_none_iff.mpr (by simp at hl ⊢; omega)
      rw [h9] at hk; cases hk
  rw [List.getElem?_set_ne (Ne.symm hk1)] at hk
  by_cases hki : k = i
  · subst hki
    have hl : k < L.length := by
      have := (List.getElem?_eq_some_iff.mp hk).1
      simpa using this
    rw [List.getElem?_set_self hl] at hk
    cases hk
    exact List.mem_cons_self
  · rw [List.getElem?_set_ne (Ne.symm hki)] at hk
    refine List.mem_cons_of_mem _ (List.mem_filter.mpr ⟨(lva_mem L 0).mpr ⟨k, w, hk, by rw [Nat.zero_add]⟩, ?_⟩)
    have h1 : (k == i) = false := by simpa using hki
    have h3 : (k == i + 1) = false := by simpa using hk1
    simp only [h1, h3, Bool.not_false, Bool.true_and]
    by_cases hk2 : k + 1 = i
    · subst hk2
      simp only [lcl, hk] at hc
      simp only [beq_self_eq_true, Bool.true_and, cv_cat]
      have : w.category = 1 := by simpa using hc
      simp [this]
    · have h2 : (k + 1 == i) = false := by simpa using hk2
      simp [h2]
/-- what is known in a walk of the method j, tb its table of handlers -/
def CX (tb : List (Nat × Nat × Nat × Nat)) (G : Geo) (l : Launch) (j : MT) (p : Program) (s : State) (m : MethodId) (args : Array Value) (meth : Method) (c : Code) : Prop :=
  p.tables.exec = Jvm.exec ∧ c.code = j.2.1 ∧ c.maxLocals = j.2.2.1 ∧ meth.sig.returnType = j.2.2.2 ∧ meth.locks = false ∧ s.vm.findClass j.1.cls = some m.cls ∧ (∀ w ∈ W0, w.before args s = true) ∧ GF G s s.heap ∧ l.stackTraces = false ∧ c.exceptionTable.toList = tableOf tb
/-- from the place pc of j on, with these locals, this stack, this world, u cells used: it comes to an end with Q, in depth d and M cells -/
def WP (tb : List (Nat × Nat × Nat × Nat)) (j : MT) (d M : Nat) (Q : OQ) (pc : Nat) (L : List (Option Value)) (st : List Value) (S : PS) (u : Nat) : Prop :=
  ∀ (G : Geo) (l : Launch) (p : Program) (e : Env) (s : State) (m : MethodId) (args : Array Value) (below : List Frame) (meth : Method) (c : Code), CX tb G l j p s m args meth c → ∀ (H : Heap) (locs : List Loc) (ls : Array Slot), PW G S H → va_S (gA G) s.heap H locs → lv_has ls j.2.2.1 (lva G 0 L) →
    W p l e (rmd d M) s m args below meth c H locs u (6 * u) (vx_MQ below (mQ G Q) (mX G Q) args s M (6 * M) (gA G)) (F0 m pc ls (st.map (cv G)))
section Rules
variable {tb : List (Nat × Nat × Nat × Nat)} {j : MT} {d M pc u : Nat} {Q : OQ} {L : List (Option Value)} {st : List Value} {S : PS}
theorem r_eq {L' : List (Option Value)} {st' : List Value} {S' : PS} (hL : L = L') (hs : st = st') (hS : S = S') (k : WP tb j d M Q pc L' st' S' u) : WP tb j d M Q pc L st S u := by
  subst hL hs hS
  exact k
theorem r_iconst {n : Int} {v : Int32} (hd : decode j.2.1 pc = .ok (.iconst n, 1)) (hv : Int32.ofInt n = v) (k : WP tb j d M Q (pc + 1) L (.int v :: st) S u) : WP tb j d M Q pc L st S u := by
  intro G l p e s m args below meth c C H locs ls hP hS hl
  exact lv_iconst C.1 C.2.1 hd hv (k G l p e s m args below meth c C H locs ls hP hS hl)
theorem r_bipush {n : Int} {v : Int32} (hd : decode j.2.1 pc = .ok (.bipush n, 2)) (hv : (Int8.ofInt n).toInt32 = v) (k : WP tb j d M Q (pc + 2) L (.int v :: st) S u) : WP tb j d M Q pc L st S u := by
  intro G l p e s m args below meth c C H locs ls hP hS hl
  exact lv_bipush C.1 C.2.1 hd hv (k G l p e s m args below meth c C H locs ls hP hS hl)
theorem r_sipush {n : Int} {v : Int32} (hd : decode j.2.1 pc = .ok (.sipush n, 3)) (hv : (Int16.ofInt n).toInt32 = v) (k : WP tb j d M Q (pc + 3) L (.int v :: st) S u) : WP tb j d M Q pc L st S u := by
  intro G l p e s m args below meth c C H locs ls hP hS hl
  exact lv_sipush C.1 C.2.1 hd hv (k G l p e s m args below meth c C H locs ls hP hS hl)
theorem r_lconst {n : Fin 2} {v : Int64} (hd : decode j.2.1 pc = .ok (.lconst n, 1)) (hv : Int64.ofNat (n : Nat) = v) (k : WP tb j d M Q (pc + 1) L (.long v :: st) S u) : WP tb j d M Q pc L st S u := by
  intro G l p e s m args below meth c C H locs ls hP hS hl
  exact lv_lconst C.1 C.2.1 hd hv (k G l p e s m args below meth c C H locs ls hP hS hl)
theorem r_ldc {i : Nat} {v : Int32} (hd : decode j.2.1 pc = .ok (.ldc i, 2)) (hw : Cond.constant j.1.cls i v ∈ W0) (k : WP tb j d M Q (pc + 2) L (.int v :: st) S u) : WP tb j d M Q pc L st S u := by
  intro G l p e s m args below meth c C H locs ls hP hS hl
  exact lv_ldc C.1 C.2.1 C.2.2.2.2.2.1 (C.2.2.2.2.2.2.1 _ hw) hd (k G l p e s m args below meth c C H locs ls hP hS hl)
theorem r_ldcw {i : Nat} {v : Int32} (hd : decode j.2.1 pc = .ok (.ldc_w i, 3)) (hw : Cond.constant j.1.cls i v ∈ W0) (k : WP tb j d M Q (pc + 3) L (.int v :: st) S u) : WP tb j d M Q pc L st S u := by
  intro G l p e s m args below meth c C H locs ls hP hS hl
  exact lv_ldcw C.1 C.2.1 C.2.2.2.2.2.1 (C.2.2.2.2.2.2.1 _ hw) hd (k G l p e s m args below meth c C H locs ls hP hS hl)
theorem r_ldc2 {i : Nat} {v : Int64} (hd : decode j.2.1 pc = .ok (.ldc2_w i, 3)) (hw : Cond.constantLong j.1.cls i v ∈ W0) (k : WP tb j d M Q (pc + 3) L (.long v :: st) S u) : WP tb j d M Q pc L st S u := by
  intro G l p e s m args below meth c C H locs ls hP hS hl
  exact lv_ldc2 C.1 C.2.1 C.2.2.2.2.2.1 (C.2.2.2.2.2.2.1 _ hw) hd (k G l p e s m args below meth c C H locs ls hP hS hl)
theorem r_iload_n {k9 : Fin 4} {x : Int32} (hd : decode j.2.1 pc = .ok (.iload_n k9, 1)) (hL : L[(k9 : Nat)]? = some (some (.int x))) (k : WP tb j d M Q (pc + 1) L (.int x :: st) S u) : WP tb j d M Q pc L st S u := by
  intro G l p e s m args below meth c C H locs ls hP hS hl
  exact lv_iload_n C.1 C.2.1 hd rfl (lva_at hl hL) (k G l p e s m args below meth c C H locs ls hP hS hl)
theorem r_iload {i : Nat} {x : Int32} (hd : decode j.2.1 pc = .ok (.iload i, 2)) (hL : L[i]? = some (some (.int x))) (k : WP tb j d M Q (pc + 2) L (.int x :: st) S u) : WP tb j d M Q pc L st S u := by
  intro G l p e s m args below meth c C H locs ls hP hS hl
  exact lv_iload C.1 C.2.1 hd (lva_at hl hL) (k G l p e s m args below meth c C H locs ls hP hS hl)
theorem r_lload_n {k9 : Fin 4} {x : Int64} (hd : decode j.2.1 pc = .ok (.lload_n k9, 1)) (hL : L[(k9 : Nat)]? = some (some (.long x))) (k : WP tb j d M Q (pc + 1) L (.long x :: st) S u) : WP tb j d M Q pc L st S u := by
  intro G l p e s m args below meth c C H locs ls hP hS hl
  exact lv_lload_n C.1 C.2.1 hd rfl (lva_at hl hL) (k G l p e s m args below meth c C H locs ls hP hS hl)
theorem r_lload {i : Nat} {x : Int64} (hd : decode j.2.1 pc = .ok (.lload i, 2)) (hL : L[i]? = some (some (.long x))) (k : WP tb j d M Q (pc + 2) L (.long x :: st) S u) : WP tb j d M Q pc L st S u := by
  intro G l p e s m args below meth c C H locs ls hP hS hl
  exact lv_lload C.1 C.2.1 hd (lva_at hl hL) (k G l p e s m args below meth c C H locs ls hP hS hl)
theorem r_aload_n {k9 : Fin 4} {x : Nat} (hd : decode j.2.1 pc = .ok (.aload_n k9, 1)) (hL : L[(k9 : Nat)]? = some (some (.ref x))) (k : WP tb j d M Q (pc + 1) L (.ref x :: st) S u) : WP tb j d M Q pc L st S u := by
  intro G l p e s m args below meth c C H locs ls hP hS hl
  exact lv_aload_n C.1 C.2.1 hd rfl (lva_at hl hL) (k G l p e s m args below meth c C H locs ls hP hS hl)
theorem r_aload {i : Nat} {x : Nat} (hd : decode j.2.1 pc = .ok (.aload i, 2)) (hL : L[i]? = some (some (.ref x))) (k : WP tb j d M Q (pc + 2) L (.ref x :: st) S u) : WP tb j d M Q pc L st S u := by
  intro G l p e s m args below meth c C H locs ls hP hS hl
  exact lv_aload C.1 C.2.1 hd (lva_at hl hL) (k G l p e s m args below meth c C H locs ls hP hS hl)
theorem r_istore_n {k9 : Fin 4} {x : Int32} {L' : List (Option Value)} (hd : decode j.2.1 pc = .ok (.istore_n k9, 1)) (hn : (k9 : Nat) < j.2.2.1) (hc : lcl L (k9 : Nat) = true) (hL : L.set (k9 : Nat) (some (.int x)) = L') (k : WP tb j d M Q (pc + 1) L' st S u) : WP tb j d M Q pc L (.int x :: st) S u := by
  intro G l p e s m args below meth c C H locs ls hP hS hl
  exact lv_istore_n C.1 C.2.1 hd rfl hl hn rfl (fun ls2 hl2 => k G l p e s m args below meth c C H locs ls2 hP hS (by rw [← hL]; exact lva_store hc hl2))
theorem r_istore {i : Nat} {x : Int32} {L' : List (Option Value)} (hd : decode j.2.1 pc = .ok (.istore i, 2)) (hn : i < j.2.2.1) (hc : lcl L i = true) (hL : L.set i (some (.int x)) = L') (k : WP tb j d M Q (pc + 2) L' st S u) : WP tb j d M Q pc L (.int x :: st) S u := by
  intro G l p e s m args below meth c C H locs ls hP hS hl
  exact lv_istore C.1 C.2.1 hd hl hn rfl (fun ls2 hl2 => k G l p e s m args below meth c C H locs ls2 hP hS (by rw [← hL]; exact lva_store hc hl2))
theorem r_astore_n {k9 : Fin 4} {x : Nat} {L' : List (Option Value)} (hd : decode j.2.1 pc = .ok (.astore_n k9, 1)) (hn : (k9 : Nat) < j.2.2.1) (hc : lcl L (k9 : Nat) = true) (hL : L.set (k9 : Nat) (some (.ref x)) = L') (k : WP tb j d M Q (pc + 1) L' st S u) : WP tb j d M Q pc L (.ref x :: st) S u := by
  intro G l p e s m args below meth c C H locs ls hP hS hl
  exact lv_astore_n C.1 C.2.1 hd rfl hl hn rfl (fun ls2 hl2 => k G l p e s m args below meth c C H locs ls2 hP hS (by rw [← hL]; exact lva_store hc hl2))
theorem r_astore {i : Nat} {x : Nat} {L' : List (Option Value)} (hd : decode j.2.1 pc = .ok (.astore i, 2)) (hn : i < j.2.2.1) (hc : lcl L i = true) (hL : L.set i (some (.ref x)) = L') (k : WP tb j d M Q (pc + 2) L' st S u) : WP tb j d M Q pc L (.ref x :: st) S u := by
  intro G l p e s m args below meth c C H locs ls hP hS hl
  exact lv_astore C.1 C.2.1 hd hl hn rfl (fun ls2 hl2 => k G l p e s m args below meth c C H locs ls2 hP hS (by rw [← hL]; exact lva_store hc hl2))
theorem r_lstore_n {k9 : Fin 4} {x : Int64} {L' : List (Option Value)} (hd : decode j.2.1 pc = .ok (.lstore_n k9, 1)) (hn : (k9 : Nat) + 1 < j.2.2.1) (hc : lcl L (k9 : Nat) = true) (hL : (L.set (k9 : Nat) (some (.long x))).set ((k9 : Nat) + 1) none = L') (k : WP tb j d M Q (pc + 1) L' st S u) : WP tb j d M Q pc L (.long x :: st) S u := by
  intro G l p e s m args below meth c C H locs ls hP hS hl
  exact lv_lstore_n C.1 C.2.1 hd rfl hl hn rfl (fun ls2 hl2 => k G l p e s m args below meth c C H locs ls2 hP hS (by rw [← hL]; exact lva_store2 hc hl2))
theorem r_lstore {i : Nat} {x : Int64} {L' : List (Option Value)} (hd : decode j.2.1 pc = .ok (.lstore i, 2)) (hn : i + 1 < j.2.2.1) (hc : lcl L i = true) (hL : (L.set i (some (.long x))).set (i + 1) none = L') (k : WP tb j d M Q (pc + 2) L' st S u) : WP tb j d M Q pc L (.long x :: st) S u := by
  intro G l p e s m args below meth c C H locs ls hP hS hl
  exact lv_lstore C.1 C.2.1 hd hl hn rfl (fun ls2 hl2 => k G l p e s m args below meth c C H locs ls2 hP hS (by rw [← hL]; exact lva_store2 hc hl2))
theorem r_iinc {i : Nat} {n : Int} {x v : Int32} {L' : List (Option Value)} (hd : decode j.2.1 pc = .ok (.iinc i n, 3)) (hi : L[i]? = some (some (.int x))) (hv : x + Int32.ofInt n = v) (hn : i < j.2.2.1) (hc : lcl L i = true) (hL : L.set i (some (.int v)) = L') (k : WP tb j d M Q (pc + 3) L' st S u) : WP tb j d M Q pc L st S u := by
  intro G l p e s m args below meth c C H locs ls hP hS hl
  obtain ⟨k9, hk9⟩ := List.getElem?_of_mem ((lva_mem (G := G) (q := (i, .int x)) L 0).mpr ⟨i, _, hi, by rw [Nat.zero_add]; rfl⟩)
  exact lv_iinc C.1 C.2.1 hd hl hk9 hv hn rfl (fun ls2 hl2 => k G l p e s m args below meth c C H locs ls2 hP hS (by rw [← hL]; exact lva_store hc hl2))
theorem r_iadd {x y : Int32} (hd : decode j.2.1 pc = .ok (.iadd, 1))  (k : WP tb j d M Q (pc + 1) L (.int (x + y) :: st) S u) : WP tb j d M Q pc L (.int y :: .int x :: st) S u := by
  intro G l p e s m args below meth c C H locs ls hP hS hl
  exact lv_iadd C.1 C.2.1 hd (k G l p e s m args below meth c C H locs ls hP hS hl)
theorem r_isub {x y : Int32} (hd : decode j.2.1 pc = .ok (.isub, 1))  (k : WP tb j d M Q (pc + 1) L (.int (x - y) :: st) S u) : WP tb j d M Q pc L (.int y :: .int x :: st) S u := by
  intro G l p e s m args below meth c C H locs ls hP hS hl
  exact lv_isub C.1 C.2.1 hd (k G l p e s m args below meth c C H locs ls hP hS hl)
theorem r_imul {x y : Int32} (hd : decode j.2.1 pc = .ok (.imul, 1))  (k : WP tb j d M Q (pc + 1) L (.int (x * y) :: st) S u) : WP tb j d M Q pc L (.int y :: .int x :: st) S u := by
  intro G l p e s m args below meth c C H locs ls hP hS hl
  exact lv_imul C.1 C.2.1 hd (k G l p e s m args below meth c C H locs ls hP hS hl)
theorem r_iand {x y : Int32} (hd : decode j.2.1 pc = .ok (.iand, 1))  (k : WP tb j d M Q (pc + 1) L (.int (x &&& y) :: st) S u) : WP tb j d M Q pc L (.int y :: .int x :: st) S u := by
  intro G l p e s m args below meth c C H locs ls hP hS hl
  exact lv_iand C.1 C.2.1 hd (k G l p e s m args below meth c C H locs ls hP hS hl)
theorem r_ior {x y : Int32} (hd : decode j.2.1 pc = .ok (.ior, 1))  (k : WP tb j d M Q (pc + 1) L (.int (x ||| y) :: st) S u) : WP tb j d M Q pc L (.int y :: .int x :: st) S u := by
  intro G l p e s m args below meth c C H locs ls hP hS hl
  exact lv_ior C.1 C.2.1 hd (k G l p e s m args below meth c C H locs ls hP hS hl)
theorem r_ixor {x y : Int32} (hd : decode j.2.1 pc = .ok (.ixor, 1))  (k : WP tb j d M Q (pc + 1) L (.int (x ^^^ y) :: st) S u) : WP tb j d M Q pc L (.int y :: .int x :: st) S u := by
  intro G l p e s m args below meth c C H locs ls hP hS hl
  exact lv_ixor C.1 C.2.1 hd (k G l p e s m args below meth c C H locs ls hP hS hl)
theorem r_ishl {x y : Int32} (hd : decode j.2.1 pc = .ok (.ishl, 1))  (k : WP tb j d M Q (pc + 1) L (.int (x <<< (y &&& 31)) :: st) S u) : WP tb j d M Q pc L (.int y :: .int x :: st) S u := by
  intro G l p e s m args below meth c C H locs ls hP hS hl
  exact lv_ishl C.1 C.2.1 hd (k G l p e s m args below meth c C H locs ls hP hS hl)
theorem r_ishr {x y : Int32} (hd : decode j.2.1 pc = .ok (.ishr, 1))  (k : WP tb j d M Q (pc + 1) L (.int (x >>> (y &&& 31)) :: st) S u) : WP tb j d M Q pc L (.int y :: .int x :: st) S u := by
  intro G l p e s m args below meth c C H locs ls hP hS hl
  exact lv_ishr C.1 C.2.1 hd (k G l p e s m args below meth c C H locs ls hP hS hl)
theorem r_ladd {x y : Int64} (hd : decode j.2.1 pc = .ok (.ladd, 1))  (k : WP tb j d M Q (pc + 1) L (.long (x + y) :: st) S u) : WP tb j d M Q pc L (.long y :: .long x :: st) S u := by
  intro G l p e s m args below meth c C H locs ls hP hS hl
  exact lv_ladd C.1 C.2.1 hd (k G l p e s m args below meth c C H locs ls hP hS hl)
theorem r_lsub {x y : Int64} (hd : decode j.2.1 pc = .ok (.lsub, 1))  (k : WP tb j d M Q (pc + 1) L (.long (x - y) :: st) S u) : WP tb j d M Q pc L (.long y :: .long x :: st) S u := by
  intro G l p e s m args below meth c C H locs ls hP hS hl
  exact lv_lsub C.1 C.2.1 hd (k G l p e s m args below meth c C H locs ls hP hS hl)
theorem r_land {x y : Int64} (hd : decode j.2.1 pc = .ok (.land, 1))  (k : WP tb j d M Q (pc + 1) L (.long (x &&& y) :: st) S u) : WP tb j d M Q pc L (.long y :: .long x :: st) S u := by
  intro G l p e s m args below meth c C H locs ls hP hS hl
  exact lv_land C.1 C.2.1 hd (k G l p e s m args below meth c C H locs ls hP hS hl)
theorem r_lor {x y : Int64} (hd : decode j.2.1 pc = .ok (.lor, 1))  (k : WP tb j d M Q (pc + 1) L (.long (x ||| y) :: st) S u) : WP tb j d M Q pc L (.long y :: .long x :: st) S u := by
  intro G l p e s m args below meth c C H locs ls hP hS hl
  exact lv_lor C.1 C.2.1 hd (k G l p e s m args below meth c C H locs ls hP hS hl)
theorem r_lxor {x y : Int64} (hd : decode j.2.1 pc = .ok (.lxor, 1))  (k : WP tb j d M Q (pc + 1) L (.long (x ^^^ y) :: st) S u) : WP tb j d M Q pc L (.long y :: .long x :: st) S u := by
  intro G l p e s m args below meth c C H locs ls hP hS hl
  exact lv_lxor C.1 C.2.1 hd (k G l p e s m args below meth c C H locs ls hP hS hl)
theorem r_idiv {x y : Int32} (hd : decode j.2.1 pc = .ok (.idiv, 1)) (hne : ¬ y = 0) (k : WP tb j d M Q (pc + 1) L (.int (x / y) :: st) S u) : WP tb j d M Q pc L (.int y :: .int x :: st) S u := by
  intro G l p e s m args below meth c C H locs ls hP hS hl
  exact lv_idiv C.1 C.2.1 hd hne (k G l p e s m args below meth c C H locs ls hP hS hl)
theorem r_irem {x y : Int32} (hd : decode j.2.1 pc = .ok (.irem, 1)) (hne : ¬ y = 0) (k : WP tb j d M Q (pc + 1) L (.int (x - x / y * y) :: st) S u) : WP tb j d M Q pc L (.int y :: .int x :: st) S u := by
  intro G l p e s m args below meth c C H locs ls hP hS hl
  exact lv_irem C.1 C.2.1 hd hne (k G l p e s m args below meth c C H locs ls hP hS hl)
theorem r_ineg {x : Int32} (hd : decode j.2.1 pc = .ok (.ineg, 1))  (k : WP tb j d M Q (pc + 1) L (.int (-x) :: st) S u) : WP tb j d M Q pc L (.int x :: st) S u := by
  intro G l p e s m args below meth c C H locs ls hP hS hl
  exact lv_ineg C.1 C.2.1 hd (k G l p e s m args below meth c C H locs ls hP hS hl)
theorem r_i2l {x : Int32} (hd : decode j.2.1 pc = .ok (.i2l, 1))  (k : WP tb j d M Q (pc + 1) L (.long x.toInt64 :: st) S u) : WP tb j d M Q pc L (.int x :: st) S u := by
  intro G l p e s m args below meth c C H locs ls hP hS hl
  exact lv_i2l C.1 C.2.1 hd rfl (k G l p e s m args below meth c C H locs ls hP hS hl)
theorem r_l2i {x : Int64} (hd : decode j.2.1 pc = .ok (.l2i, 1))  (k : WP tb j d M Q (pc + 1) L (.int x.toInt32 :: st) S u) : WP tb j d M Q pc L (.long x :: st) S u := by
  intro G l p e s m args below meth c C H locs ls hP hS hl
  exact lv_l2i C.1 C.2.1 hd rfl (k G l p e s m args below meth c C H locs ls hP hS hl)
theorem r_i2b {x : Int32} (hd : decode j.2.1 pc = .ok (.i2b, 1))  (k : WP tb j d M Q (pc + 1) L (.int x.toInt8.toInt32 :: st) S u) : WP tb j d M Q pc L (.int x :: st) S u := by
  intro G l p e s m args below meth c C H locs ls hP hS hl
  exact lv_i2b C.1 C.2.1 hd rfl (k G l p e s m args below meth c C H locs ls hP hS hl)
theorem r_i2c {x : Int32} (hd : decode j.2.1 pc = .ok (.i2c, 1))  (k : WP tb j d M Q (pc + 1) L (.int (x.toUInt32 % 65536).toInt32 :: st) S u) : WP tb j d M Q pc L (.int x :: st) S u := by
  intro G l p e s m args below meth c C H locs ls hP hS hl
  exact lv_i2c C.1 C.2.1 hd rfl (k G l p e s m args below meth c C H locs ls hP hS hl)
theorem r_iushr {x y : Int32} (hd : decode j.2.1 pc = .ok (.iushr, 1))  (k : WP tb j d M Q (pc + 1) L (.int (x.toUInt32 >>> (y.toUInt32 &&& Int32.toUInt32 31)).toInt32 :: st) S u) : WP tb j d M Q pc L (.int y :: .int x :: st) S u := by
  intro G l p e s m args below meth c C H locs ls hP hS hl
  exact lv_iushr C.1 C.2.1 hd rfl (k G l p e s m args below meth c C H locs ls hP hS hl)
theorem r_lushr {x : Int64} {y : Int32} (hd : decode j.2.1 pc = .ok (.lushr, 1))  (k : WP tb j d M Q (pc + 1) L (.long (x.toUInt64 >>> (y.toInt64.toUInt64 &&& Int64.toUInt64 63)).toInt64 :: st) S u) : WP tb j d M Q pc L (.int y :: .long x :: st) S u := by
  intro G l p e s m args below meth c C H locs ls hP hS hl
  exact lv_lushr C.1 C.2.1 hd rfl (k G l p e s m args below meth c C H locs ls hP hS hl)
theorem r_lshl {x : Int64} {y : Int32} (hd : decode j.2.1 pc = .ok (.lshl, 1))  (k : WP tb j d M Q (pc + 1) L (.long (x <<< (y.toInt64 &&& 63)) :: st) S u) : WP tb j d M Q pc L (.int y :: .long x :: st) S u := by
  intro G l p e s m args below meth c C H locs ls hP hS hl
  exact lv_lshl C.1 C.2.1 hd rfl (k G l p e s m args below meth c C H locs ls hP hS hl)
theorem r_lcmp {x y : Int64} (hd : decode j.2.1 pc = .ok (.lcmp, 1))  (k : WP tb j d M Q (pc + 1) L (.int (lg_cmp x y) :: st) S u) : WP tb j d M Q pc L (.long y :: .long x :: st) S u := by
  intro G l p e s m args below meth c C H locs ls hP hS hl
  exact W.lcmp C.1 C.2.1 hd (k G l p e s m args below meth c C H locs ls hP hS hl)
theorem r_dup_int {x : Int32} (hd : decode j.2.1 pc = .ok (.dup, 1))  (k : WP tb j d M Q (pc + 1) L (.int x :: .int x :: st) S u) : WP tb j d M Q pc L (.int x :: st) S u := by
  intro G l p e s m args below meth c C H locs ls hP hS hl
  exact lv_dup C.1 C.2.1 hd rfl (k G l p e s m args below meth c C H locs ls hP hS hl)
theorem r_pop_int {x : Int32} (hd : decode j.2.1 pc = .ok (.pop, 1))  (k : WP tb j d M Q (pc + 1) L (st) S u) : WP tb j d M Q pc L (.int x :: st) S u := by
  intro G l p e s m args below meth c C H locs ls hP hS hl
  exact lv_pop C.1 C.2.1 hd rfl (k G l p e s m args below meth c C H locs ls hP hS hl)
theorem r_dup_ref {x : Nat} (hd : decode j.2.1 pc = .ok (.dup, 1))  (k : WP tb j d M Q (pc + 1) L (.ref x :: .ref x :: st) S u) : WP tb j d M Q pc L (.ref x :: st) S u := by
  intro G l p e s m args below meth c C H locs ls hP hS hl
  exact lv_dup C.1 C.2.1 hd rfl (k G l p e s m args below meth c C H locs ls hP hS hl)
theorem r_pop_ref {x : Nat} (hd : decode j.2.1 pc = .ok (.pop, 1))  (k : WP tb j d M Q (pc + 1) L (st) S u) : WP tb j d M Q pc L (.ref x :: st) S u := by
  intro G l p e s m args below meth c C H locs ls hP hS hl
  exact lv_pop C.1 C.2.1 hd rfl (k G l p e s m args below meth c C H locs ls hP hS hl)
theorem r_dup2 {x : Int32} {a : Nat} (hd : decode j.2.1 pc = .ok (.dup2, 1))  (k : WP tb j d M Q (pc + 1) L (.int x :: .ref a :: .int x :: .ref a :: st) S u) : WP tb j d M Q pc L (.int x :: .ref a :: st) S u := by
  intro G l p e s m args below meth c C H locs ls hP hS hl
  exact lv_dup2_11 C.1 C.2.1 hd rfl rfl (k G l p e s m args below meth c C H locs ls hP hS hl)
theorem r_if_eq {x : Int32} {off : Int} {tgt : Nat} (hd : decode j.2.1 pc = .ok (.ifCond .eq off, 3)) (ht : (pc : Int) + off = (tgt : Int)) (kt : x = 0 → WP tb j d M Q tgt L st S u) (kf : ¬ x = 0 → WP tb j d M Q (pc + 3) L st S u) : WP tb j d M Q pc L (.int x :: st) S u := by
  intro G l p e s m args below meth c C H locs ls hP hS hl
  exact lv_if_eq C.1 C.2.1 hd ht (fun h9 => kt h9 G l p e s m args below meth c C H locs ls hP hS hl) (fun h9 => kf h9 G l p e s m args below meth c C H locs ls hP hS hl)
theorem r_icmp_eq {x y : Int32} {off : Int} {tgt : Nat} (hd : decode j.2.1 pc = .ok (.if_icmp .eq off, 3)) (ht : (pc : Int) + off = (tgt : Int)) (kt : x = y → WP tb j d M Q tgt L st S u) (kf : ¬ x = y → WP tb j d M Q (pc + 3) L st S u) : WP tb j d M Q pc L (.int y :: .int x :: st) S u := by
  intro G l p e s m args below meth c C H locs ls hP hS hl
  exact lv_icmp_eq C.1 C.2.1 hd ht (fun h9 => kt h9 G l p e s m args below meth c C H locs ls hP hS hl) (fun h9 => kf h9 G l p e s m args below meth c C H locs ls hP hS hl)
theorem r_if_ne {x : Int32} {off : Int} {tgt : Nat} (hd : decode j.2.1 pc = .ok (.ifCond .ne off, 3)) (ht : (pc : Int) + off = (tgt : Int)) (kt : ¬ x = 0 → WP tb j d M Q tgt L st S u) (kf : x = 0 → WP tb j d M Q (pc + 3) L st S u) : WP tb j d M Q pc L (.int x :: st) S u := by
  intro G l p e s m args below meth c C H locs ls hP hS hl
  exact lv_if_ne C.1 C.2.1 hd ht (fun h9 => kt h9 G l p e s m args below meth c C H locs ls hP hS hl) (fun h9 => kf h9 G l p e s m args below meth c C H locs ls hP hS hl)
theorem r_icmp_ne {x y : Int32} {off : Int} {tgt : Nat} (hd : decode j.2.1 pc = .ok (.if_icmp .ne off, 3)) (ht : (pc : Int) + off = (tgt : Int)) (kt : ¬ x = y → WP tb j d M Q tgt L st S u) (kf : x = y → WP tb j d M Q (pc + 3) L st S u) : WP tb j d M Q pc L (.int y :: .int x :: st) S u := by
  intro G l p e s m args below meth c C H locs ls hP hS hl
  exact lv_icmp_ne C.1 C.2.1 hd ht (fun h9 => kt h9 G l p e s m args below meth c C H locs ls hP hS hl) (fun h9 => kf h9 G l p e s m args below meth c C H locs ls hP hS hl)
theorem r_if_lt {x : Int32} {off : Int} {tgt : Nat} (hd : decode j.2.1 pc = .ok (.ifCond .lt off, 3)) (ht : (pc : Int) + off = (tgt : Int)) (kt : x < 0 → WP tb j d M Q tgt L st S u) (kf : ¬ x < 0 → WP tb j d M Q (pc + 3) L st S u) : WP tb j d M Q pc L (.int x :: st) S u := by
  intro G l p e s m args below meth c C H locs ls hP hS hl
  exact lv_if_lt C.1 C.2.1 hd ht (fun h9 => kt h9 G l p e s m args below meth c C H locs ls hP hS hl) (fun h9 => kf h9 G l p e s m args below meth c C H locs ls hP hS hl)
theorem r_icmp_lt {x y : Int32} {off : Int} {tgt : Nat} (hd : decode j.2.1 pc = .ok (.if_icmp .lt off, 3)) (ht : (pc : Int) + off = (tgt : Int)) (kt : x < y → WP tb j d M Q tgt L st S u) (kf : ¬ x < y → WP tb j d M Q (pc + 3) L st S u) : WP tb j d M Q pc L (.int y :: .int x :: st) S u := by
  intro G l p e s m args below meth c C H locs ls hP hS hl
  exact lv_icmp_lt C.1 C.2.1 hd ht (fun h9 => kt h9 G l p e s m args below meth c C H locs ls hP hS hl) (fun h9 => kf h9 G l p e s m args below meth c C H locs ls hP hS hl)
theorem r_if_ge {x : Int32} {off : Int} {tgt : Nat} (hd : decode j.2.1 pc = .ok (.ifCond .ge off, 3)) (ht : (pc : Int) + off = (tgt : Int)) (kt : 0 ≤ x → WP tb j d M Q tgt L st S u) (kf : ¬ 0 ≤ x → WP tb j d M Q (pc + 3) L st S u) : WP tb j d M Q pc L (.int x :: st) S u := by
  intro G l p e s m args below meth c C H locs ls hP hS hl
  exact lv_if_ge C.1 C.2.1 hd ht (fun h9 => kt h9 G l p e s m args below meth c C H locs ls hP hS hl) (fun h9 => kf h9 G l p e s m args below meth c C H locs ls hP hS hl)
theorem r_icmp_ge {x y : Int32} {off : Int} {tgt : Nat} (hd : decode j.2.1 pc = .ok (.if_icmp .ge off, 3)) (ht : (pc : Int) + off = (tgt : Int)) (kt : y ≤ x → WP tb j d M Q tgt L st S u) (kf : ¬ y ≤ x → WP tb j d M Q (pc + 3) L st S u) : WP tb j d M Q pc L (.int y :: .int x :: st) S u := by
  intro G l p e s m args below meth c C H locs ls hP hS hl
  exact lv_icmp_ge C.1 C.2.1 hd ht (fun h9 => kt h9 G l p e s m args below meth c C H locs ls hP hS hl) (fun h9 => kf h9 G l p e s m args below meth c C H locs ls hP hS hl)
theorem r_if_gt {x : Int32} {off : Int} {tgt : Nat} (hd : decode j.2.1 pc = .ok (.ifCond .gt off, 3)) (ht : (pc : Int) + off = (tgt : Int)) (kt : 0 < x → WP tb j d M Q tgt L st S u) (kf : ¬ 0 < x → WP tb j d M Q (pc + 3) L st S u) : WP tb j d M Q pc L (.int x :: st) S u := by
  intro G l p e s m args below meth c C H locs ls hP hS hl
  exact lv_if_gt C.1 C.2.1 hd ht (fun h9 => kt h9 G l p e s m args below meth c C H locs ls hP hS hl) (fun h9 => kf h9 G l p e s m args below meth c C H locs ls hP hS hl)
theorem r_icmp_gt {x y : Int32} {off : Int} {tgt : Nat} (hd : decode j.2.1 pc = .ok (.if_icmp .gt off, 3)) (ht : (pc : Int) + off = (tgt : Int)) (kt : y < x → WP tb j d M Q tgt L st S u) (kf : ¬ y < x → WP tb j d M Q (pc + 3) L st S u) : WP tb j d M Q pc L (.int y :: .int x :: st) S u := by
  intro G l p e s m args below meth c C H locs ls hP hS hl
  exact lv_icmp_gt C.1 C.2.1 hd ht (fun h9 => kt h9 G l p e s m args below meth c C H locs ls hP hS hl) (fun h9 => kf h9 G l p e s m args below meth c C H locs ls hP hS hl)
theorem r_if_le {x : Int32} {off : Int} {tgt : Nat} (hd : decode j.2.1 pc = .ok (.ifCond .le off, 3)) (ht : (pc : Int) + off = (tgt : Int)) (kt : x ≤ 0 → WP tb j d M Q tgt L st S u) (kf : ¬ x ≤ 0 → WP tb j d M Q (pc + 3) L st S u) : WP tb j d M Q pc L (.int x :: st) S u := by
  intro G l p e s m args below meth c C H locs ls hP hS hl
  exact lv_if_le C.1 C.2.1 hd ht (fun h9 => kt h9 G l p e s m args below meth c C H locs ls hP hS hl) (fun h9 => kf h9 G l p e s m args below meth c C H locs ls hP hS hl)
theorem r_icmp_le {x y : Int32} {off : Int} {tgt : Nat} (hd : decode j.2.1 pc = .ok (.if_icmp .le off, 3)) (ht : (pc : Int) + off = (tgt : Int)) (kt : x ≤ y → WP tb j d M Q tgt L st S u) (kf : ¬ x ≤ y → WP tb j d M Q (pc + 3) L st S u) : WP tb j d M Q pc L (.int y :: .int x :: st) S u := by
  intro G l p e s m args below meth c C H locs ls hP hS hl
  exact lv_icmp_le C.1 C.2.1 hd ht (fun h9 => kt h9 G l p e s m args below meth c C H locs ls hP hS hl) (fun h9 => kf h9 G l p e s m args below meth c C H locs ls hP hS hl)
theorem r_goto {off : Int} {tgt : Nat} (hd : decode j.2.1 pc = .ok (.goto off, 3)) (ht : (pc : Int) + off = (tgt : Int)) (k : WP tb j d M Q tgt L st S u) : WP tb j d M Q pc L st S u := by
  intro G l p e s m args below meth c C H locs ls hP hS hl
  exact lv_goto C.1 C.2.1 hd ht (k G l p e s m args below meth c C H locs ls hP hS hl)
theorem r_tableOut {dflt lo hi : Int} {offs : Array Int} {len : Nat} {x : Int32} {tgt : Nat} (hd : decode j.2.1 pc = .ok (.tableswitch dflt lo hi offs, len)) (h : x.toInt < lo ∨ hi < x.toInt) (ht : (pc : Int) + dflt = (tgt : Int)) (k : WP tb j d M Q tgt L st S u) : WP tb j d M Q pc L (.int x :: st) S u := by
  intro G l p e s m args below meth c C H locs ls hP hS hl
  exact lv_tableOut C.1 C.2.1 hd h ht (k G l p e s m args below meth c C H locs ls hP hS hl)
theorem r_tableIn {dflt lo hi : Int} {offs : Array Int} {len : Nat} {x : Int32} {off : Int} {tgt : Nat} (hd : decode j.2.1 pc = .ok (.tableswitch dflt lo hi offs, len)) (h1 : ¬ x.toInt < lo) (h2 : ¬ hi < x.toInt) (ho : offs[(x.toInt - lo).toNat]? = some off) (ht : (pc : Int) + off = (tgt : Int)) (k : WP tb j d M Q tgt L st S u) : WP tb j d M Q pc L (.int x :: st) S u := by
  intro G l p e s m args below meth c C H locs ls hP hS hl
  exact lv_tableIn C.1 C.2.1 hd h1 h2 ho ht (k G l p e s m args below meth c C H locs ls hP hS hl)
theorem r_lookup {dflt : Int} {ps : Array (Int × Int)} {len : Nat} {x : Int32} {off : Int} {tgt : Nat} (hd : decode j.2.1 pc = .ok (.lookupswitch dflt ps, len)) (hp : (ps.toList.zip (ps.toList.drop 1)).all (fun (a, next) => a.1 < next.1) = true) (ho : Op.lookupswitch.offset ps.toList dflt x.toInt = off) (ht : (pc : Int) + off = (tgt : Int)) (k : WP tb j d M Q tgt L st S u) : WP tb j d M Q pc L (.int x :: st) S u := by
  intro G l p e s m args below meth c C H locs ls hP hS hl
  exact lv_lookup C.1 C.2.1 hd hp ho ht (k G l p e s m args below meth c C H locs ls hP hS hl)
theorem r_ireturn {x : Int32} (hd : decode j.2.1 pc = .ok (.ireturn, 1)) (hr : j.2.2.2 = some .int) (hu : u ≤ M) (hq : Q (.inl (some (.int x))) S) : WP tb j d M Q pc L [.int x] S u := by
  intro G l p e s m args below meth c C H locs ls hP hS hl
  refine W.widen (k := M) (n := 6 * M) hu (Nat.mul_le_mul_left 6 hu) (vx_ret ?_)
  exact W.iret (v := x) C.1 C.2.1 (C.2.2.2.1.trans hr) (fun t ht _ => ⟨⟨some (.int x), S, rfl, hq, by rw [ht]; exact hP⟩, hS.F ht⟩) hS.2.2 hd C.2.2.2.2.1
theorem r_zreturn {x : Int32} {ty : FieldType} (hd : decode j.2.1 pc = .ok (.ireturn, 1)) (hr : j.2.2.2 = some ty) (hn : narrow ty (.int x) = .int x) (hu : u ≤ M) (hq : Q (.inl (some (.int x))) S) : WP tb j d M Q pc L [.int x] S u := by
  intro G l p e s m args below meth c C H locs ls hP hS hl
  refine W.widen (k := M) (n := 6 * M) hu (Nat.mul_le_mul_left 6 hu) (vx_ret ?_)
  exact W.zret (v := x) C.1 C.2.1 (C.2.2.2.1.trans hr) hn (fun t ht _ => ⟨⟨some (.int x), S, rfl, hq, by rw [ht]; exact hP⟩, hS.F ht⟩) hS.2.2 hd C.2.2.2.2.1
theorem r_lreturn {x : Int64} (hd : decode j.2.1 pc = .ok (.lreturn, 1)) (hr : j.2.2.2 = some .long) (hu : u ≤ M) (hq : Q (.inl (some (.long x))) S) : WP tb j d M Q pc L [.long x] S u := by
  intro G l p e s m args below meth c C H locs ls hP hS hl
  refine W.widen (k := M) (n := 6 * M) hu (Nat.mul_le_mul_left 6 hu) (vx_ret ?_)
  exact W.lret (v := x) C.1 C.2.1 (C.2.2.2.1.trans hr) (fun t ht _ => ⟨⟨some (.long x), S, rfl, hq, by rw [ht]; exact hP⟩, hS.F ht⟩) hS.2.2 hd C.2.2.2.2.1
theorem r_return (hd : decode j.2.1 pc = .ok (.return_, 1)) (hr : j.2.2.2 = none) (hu : u ≤ M) (hq : Q (.inl none) S) : WP tb j d M Q pc L [] S u := by
  intro G l p e s m args below meth c C H locs ls hP hS hl
  refine W.widen (k := M) (n := 6 * M) hu (Nat.mul_le_mul_left 6 hu) (vx_ret ?_)
  exact W.vret C.1 C.2.1 (C.2.2.2.1.trans hr) (fun t ht _ => ⟨⟨none, S, rfl, hq, by rw [ht]; exact hP⟩, hS.F ht⟩) hS.2.2 hd C.2.2.2.2.1
/-- the constant i of class own is field k, of kind t, of the class number c -/
def FL (own : String) (i c k t : Nat) : Prop := ∃ (C : String) (T : u_T) (N : Nat) (ty0 : Nat → FieldType), vwCl[c]? = some (C, T, N) ∧ (∀ w ∈ u_ws C T N, w ∈ W0) ∧ k < N ∧ (fkl c)[k]? = some t ∧ (T k).1 = C ∧ Cond.fieldLink own i C (T k).2.1 (T k).2.2.1 ∈ W0 ∧ (∀ a, a < N → parseFieldDescriptor (T a).2.2.1 = some (ty0 a)) ∧ (∀ a, a < N → ∀ b, b < N → a ≠ b → (T a).2.1 ≠ (T b).2.1) ∧ (t ≠ 3 → (T k).2.2.2 = false) ∧ (t = 0 → ty0 k = .int) ∧ (t = 1 → ty0 k = .boolean) ∧ (t = 2 → ty0 k = .long) ∧ (t = 4 → ∃ n, ty0 k = .object n)
theorem r_getfield {i o c k9 t : Nat} {v : Value} (hd : decode j.2.1 pc = .ok (.getfield i, 3)) (hf : FL j.1.cls i c k9 t) (ho : ck o = (0, c)) (hn : o < nC) (hv : fvp S o k9 t = v) (k : WP tb j d M Q (pc + 3) L (v :: st) S u) : WP tb j d M Q pc L (.ref o :: st) S u := by
  intro G l p e s m args below meth c9 C H locs ls hP hS hl
  obtain ⟨C1, T, N, ty0, h1, h2, h3, h4, h5, h6, -⟩ := hf
  refine va_get (D := gD G) (ci := c) (v := cv G v) (C := C1) (T := T) (N := N) C.1 C.2.1 C.2.2.2.2.2.2.1 h2 C.2.2.2.2.2.1 C.2.2.2.2.2.2.2.1.1 hP.1 o (wl_get hn |>.trans (by rw [ent_obj ho])) h1 k9 h3 (C.2.2.2.2.2.2.1 _ h6) (fun x hx => by rw [h5] at hx; exact hx) (by rw [fls_get h4, hv]) hd ?_
  exact k G l p e s m args below meth c9 C H locs ls hP hS hl
theorem fv_other {S S' : PS} {o k i t : Nat} (h1 : S'.1 o i = S.1 o i) (h2 : S'.2.1 o i = S.2.1 o i) (h3 : S'.2.2 o i = S.2.2 o i) : fvp S' o i t = fvp S o i t := fvp_cong h1 h2 h3
theorem r_put_any {i o c k9 t : Nat} {v : Value} {S' : PS} (hd : decode j.2.1 pc = .ok (.putfield i, 3)) (hf : FL j.1.cls i c k9 t) (ht3 : t ≠ 3) (ho : ck o = (0, c)) (hn : o < nC)
    (hty : ∀ (ty : FieldType) (G : Geo), (t = 0 → ty = .int) → (t = 1 → ty = .boolean) → (t = 2 → ty = .long) → (t = 4 → ∃ n, ty = .object n) → narrow ty (cv G v) = cv G v ∧ fits ty (cv G v) = true)
    (hv : fvp S' o k9 t = v) (hoth : ∀ a, a ≠ k9 → S'.1 o a = S.1 o a ∧ S'.2.1 o a = S.2.1 o a ∧ S'.2.2 o a = S.2.2 o a) (hrow : ∀ b, b ≠ o → S'.1 b = S.1 b ∧ S'.2.1 b = S.2.1 b ∧ S'.2.2 b = S.2.2 b)
    (k : WP tb j d M Q (pc + 3) L st S' u) : WP tb j d M Q pc L (v :: .ref o :: st) S u := by
  intro G l p e s m args below meth c9 C H locs ls hP hS hl
  obtain ⟨C1, T, N, ty0, h1, h2, h3, h4, h5, h6, h7, h8, h9, ha, hb, hc, hd4⟩ := hf
  obtain ⟨hnar, hfit⟩ := hty (ty0 k9) G ha hb hc hd4
  have hlen : k9 < (fls G S o c).length := by rw [fls_len]; exact (List.getElem?_eq_some_iff.mp h4).1
  refine va_put (D := gD G) (ci := c) (v := cv G v) (ty := ty0 k9) (C := C1) (T := T) (N := N) (fs := fls G S o c) C.1 C.2.1 C.2.2.2.2.2.2.1 h2 ty0 h7 h8 C.2.2.2.2.2.1 C.2.2.2.2.2.2.2.1.1 hP.1 (C.2.2.2.2.2.2.2.1.D S) hS o (wl_get hn |>.trans (by rw [ent_obj ho])) h1 k9 h3 (C.2.2.2.2.2.2.1 _ h6) (fun x hx => by rw [h5] at hx; exact hx) (h9 ht3) (h7 k9 h3) hnar hfit hlen hd (fun H1 locs1 hP1 hD1 hS1 => ?_)
  rw [fls_set h4 (S' := S') (by rw [hv]) (fun a s9 _ hne => fvp_cong (hoth a hne).1 (hoth a hne).2.1 (hoth a hne).2.2), wl_set hn (S' := S') (ent_obj ho) (fun b _ hne => ent_cong (hrow b hne).1 (hrow b hne).2.1 (hrow b hne).2.2)] at hP1
  exact k G l p e s m args below meth c9 C H1 locs1 ls ⟨hP1, (hrow 1000 (ne1000 hn)).1.trans hP.2.1, by rw [(hrow 1000 (ne1000 hn)).2.2]; exact hP.2.2⟩ hS1 hl
theorem r_putI {i o c k9 : Nat} {x : Int32} (hd : decode j.2.1 pc = .ok (.putfield i, 3)) (hf : FL j.1.cls i c k9 0) (ho : ck o = (0, c)) (hn : o < nC) (k : WP tb j d M Q (pc + 3) L st (u2 S.1 o k9 x, S.2) u) : WP tb j d M Q pc L (.int x :: .ref o :: st) S u :=
  r_put_any (S' := (u2 S.1 o k9 x, S.2)) hd hf (by decide) ho hn (fun ty G h0 _ _ _ => by rw [h0 rfl]; exact ⟨rfl, rfl⟩) (by simp [fvp, u2, upd]) (fun a ha => ⟨by simp [u2, upd, ha], rfl, rfl⟩) (fun b hb => ⟨u2_ne hb, rfl, rfl⟩) k
theorem r_putZ {i o c k9 : Nat} {x : Int32} (hd : decode j.2.1 pc = .ok (.putfield i, 3)) (hf : FL j.1.cls i c k9 1) (ho : ck o = (0, c)) (hn : o < nC) (hx : x = 0 ∨ x = 1) (k : WP tb j d M Q (pc + 3) L st (u2 S.1 o k9 x, S.2) u) : WP tb j d M Q pc L (.int x :: .ref o :: st) S u :=
  r_put_any (S' := (u2 S.1 o k9 x, S.2)) hd hf (by decide) ho hn (fun ty G _ h0 _ _ => by rw [h0 rfl]; rcases hx with rfl | rfl <;> exact ⟨rfl, rfl⟩) (by simp [fvp, u2, upd]) (fun a ha => ⟨by simp [u2, upd, ha], rfl, rfl⟩) (fun b hb => ⟨u2_ne hb, rfl, rfl⟩) k
theorem r_putJ {i o c k9 : Nat} {x : Int64} (hd : decode j.2.1 pc = .ok (.putfield i, 3)) (hf : FL j.1.cls i c k9 2) (ho : ck o = (0, c)) (hn : o < nC) (k : WP tb j d M Q (pc + 3) L st (S.1, u2L S.2.1 o k9 x, S.2.2) u) : WP tb j d M Q pc L (.long x :: .ref o :: st) S u :=
  r_put_any (S' := (S.1, u2L S.2.1 o k9 x, S.2.2)) hd hf (by decide) ho hn (fun ty G _ _ h0 _ => by rw [h0 rfl]; exact ⟨rfl, rfl⟩) (by simp [fvp, u2L, vp_updL]) (fun a ha => ⟨rfl, by simp [u2L, vp_updL, ha], rfl⟩) (fun b hb => ⟨rfl, u2L_ne hb, rfl⟩) k
theorem r_putR {i o c k9 x : Nat} (hd : decode j.2.1 pc = .ok (.putfield i, 3)) (hf : FL j.1.cls i c k9 4) (ho : ck o = (0, c)) (hn : o < nC) (k : WP tb j d M Q (pc + 3) L st (S.1, S.2.1, u2R S.2.2 o k9 x) u) : WP tb j d M Q pc L (.ref x :: .ref o :: st) S u :=
  r_put_any (S' := (S.1, S.2.1, u2R S.2.2 o k9 x)) hd hf (by decide) ho hn (fun ty G _ _ _ h0 => by obtain ⟨n, hn⟩ := h0 rfl; rw [hn]; exact ⟨rfl, rfl⟩) (by simp [fvp, u2R]) (fun a ha => ⟨rfl, rfl, by simp [u2R, ha]⟩) (fun b hb => ⟨rfl, rfl, u2R_ne hb⟩) k
/-- an index within a row -/
def IX (i : Int32) (n k : Nat) : Prop := i.toInt = (k : Int) ∧ k < n
theorem IX.in {i : Int32} {n k : Nat} (h : IX i n k) : vp_in i n := vp_in_iff.mpr ⟨by rw [h.1]; omega, by rw [h.1]; have := h.2; omega⟩
theorem IX.cl {i : Int32} {n k : Nat} (h : IX i n k) : i.toNatClampNeg = k := by rw [Int32.toNatClampNeg, h.1]; rfl
theorem IX.nI {n k : Nat} (h : k < n) (hn : n < 2 ^ 31) : IX (nI k) n k := ⟨nI_toInt (by omega), h⟩
theorem r_iaload {i : Int32} {a n k9 : Nat} (hd : decode j.2.1 pc = .ok (.iaload, 1)) (ha : ck a = (1, n)) (hn : a < nC) (hi : IX i n k9) (k : WP tb j d M Q (pc + 1) L (.int (S.1 a k9) :: st) S u) : WP tb j d M Q pc L (.int i :: .ref a :: st) S u := by
  intro G l p e s m args below meth c C H locs ls hP hS hl
  have h0 := k G l p e s m args below meth c C H locs ls hP hS hl
  rw [← hi.cl] at h0
  exact va_iald C.1 C.2.1 C.2.2.2.2.2.2.2.1.1 hP.1 a 0 (wl_get hn |>.trans (by rw [ent_int ha (by decide) (by decide)])) rfl hi.in hd h0
theorem r_baload {i : Int32} {a n k9 : Nat} (hd : decode j.2.1 pc = .ok (.baload, 1)) (ha : ck a = (2, n)) (hn : a < nC) (hi : IX i n k9) (k : WP tb j d M Q (pc + 1) L (.int (S.1 a k9) :: st) S u) : WP tb j d M Q pc L (.int i :: .ref a :: st) S u := by
  intro G l p e s m args below meth c C H locs ls hP hS hl
  have h0 := k G l p e s m args below meth c C H locs ls hP hS hl
  rw [← hi.cl] at h0
  exact va_bald C.1 C.2.1 C.2.2.2.2.2.2.2.1.1 hP.1 a 1 (wl_get hn |>.trans (by rw [ent_int ha (by decide) (by decide)])) rfl hi.in hd h0
theorem r_zaload {i : Int32} {a n k9 : Nat} (hd : decode j.2.1 pc = .ok (.baload, 1)) (ha : ck a = (3, n)) (hn : a < nC) (hi : IX i n k9) (k : WP tb j d M Q (pc + 1) L (.int (S.1 a k9) :: st) S u) : WP tb j d M Q pc L (.int i :: .ref a :: st) S u := by
  intro G l p e s m args below meth c C H locs ls hP hS hl
  have h0 := k G l p e s m args below meth c C H locs ls hP hS hl
  rw [← hi.cl] at h0
  exact va_zald C.1 C.2.1 C.2.2.2.2.2.2.2.1.1 hP.1 a 2 (wl_get hn |>.trans (by rw [ent_int ha (by decide) (by decide)])) rfl hi.in hd h0
theorem r_laload {i : Int32} {a n k9 : Nat} (hd : decode j.2.1 pc = .ok (.laload, 1)) (ha : ck a = (4, n)) (hn : a < nC) (hi : IX i n k9) (k : WP tb j d M Q (pc + 1) L (.long (S.2.1 a k9) :: st) S u) : WP tb j d M Q pc L (.int i :: .ref a :: st) S u := by
  intro G l p e s m args below meth c C H locs ls hP hS hl
  have h0 := k G l p e s m args below meth c C H locs ls hP hS hl
  rw [← hi.cl] at h0
  exact va_lald C.1 C.2.1 C.2.2.2.2.2.2.2.1.1 hP.1 a 3 (wl_get hn |>.trans (by rw [ent_long ha])) rfl hi.in hd h0
theorem r_iastore {i x : Int32} {a n k9 : Nat} (hd : decode j.2.1 pc = .ok (.iastore, 1)) (ha : ck a = (1, n)) (hn : a < nC) (hi : IX i n k9) (k : WP tb j d M Q (pc + 1) L st (u2 S.1 a k9 x, S.2) u) : WP tb j d M Q pc L (.int x :: .int i :: .ref a :: st) S u := by
  intro G l p e s m args below meth c C H locs ls hP hS hl
  refine va_iast C.1 C.2.1 C.2.2.2.2.2.2.2.1.1 hP.1 (C.2.2.2.2.2.2.2.1.D S) hS a 0 (wl_get hn |>.trans (by rw [ent_int ha (by decide) (by decide)])) rfl hi.in hd (fun H1 locs1 hP1 hD1 hS1 => ?_)
  rw [hi.cl, wl_set hn (S' := (u2 S.1 a k9 x, S.2)) (by rw [ent_int ha (by decide) (by decide)]; simp [u2, vp_nar_byte]) (fun b _ hne => ent_cong (u2_ne hne) rfl rfl)] at hP1
  exact k G l p e s m args below meth c C H1 locs1 ls ⟨hP1, hP.2.u2 hn⟩ hS1 hl
theorem r_bastore {i x : Int32} {a n k9 : Nat} (hd : decode j.2.1 pc = .ok (.bastore, 1)) (ha : ck a = (2, n)) (hn : a < nC) (hi : IX i n k9) (k : WP tb j d M Q (pc + 1) L st (u2 S.1 a k9 x.toInt8.toInt32, S.2) u) : WP tb j d M Q pc L (.int x :: .int i :: .ref a :: st) S u := by
  intro G l p e s m args below meth c C H locs ls hP hS hl
  refine va_bast C.1 C.2.1 C.2.2.2.2.2.2.2.1.1 hP.1 (C.2.2.2.2.2.2.2.1.D S) hS a 1 (wl_get hn |>.trans (by rw [ent_int ha (by decide) (by decide)])) rfl hi.in hd (fun H1 locs1 hP1 hD1 hS1 => ?_)
  rw [hi.cl, wl_set hn (S' := (u2 S.1 a k9 x.toInt8.toInt32, S.2)) (by rw [ent_int ha (by decide) (by decide)]; simp [u2, vp_nar_byte]) (fun b _ hne => ent_cong (u2_ne hne) rfl rfl)] at hP1
  exact k G l p e s m args below meth c C H1 locs1 ls ⟨hP1, hP.2.u2 hn⟩ hS1 hl
theorem r_lastore {i : Int32} {x : Int64} {a n k9 : Nat} (hd : decode j.2.1 pc = .ok (.lastore, 1)) (ha : ck a = (4, n)) (hn : a < nC) (hi : IX i n k9) (k : WP tb j d M Q (pc + 1) L st (S.1, u2L S.2.1 a k9 x, S.2.2) u) : WP tb j d M Q pc L (.long x :: .int i :: .ref a :: st) S u := by
  intro G l p e s m args below meth c C H locs ls hP hS hl
  refine va_last C.1 C.2.1 C.2.2.2.2.2.2.2.1.1 hP.1 (C.2.2.2.2.2.2.2.1.D S) hS a 3 (wl_get hn |>.trans (by rw [ent_long ha])) rfl hi.in hd (fun H1 locs1 hP1 hD1 hS1 => ?_)
  rw [hi.cl, wl_set (G := G) (S := S) hn (S' := (S.1, u2L S.2.1 a k9 x, S.2.2)) (by rw [ent_long ha]; simp [u2L]) (fun b _ hne => ent_cong rfl (u2L_ne hne) rfl)] at hP1
  exact k G l p e s m args below meth c C H1 locs1 ls ⟨hP1, hP.2.1, hP.2.2⟩ hS1 hl
theorem r_alen {a t n : Nat} {v : Int32} (hd : decode j.2.1 pc = .ok (.arraylength, 1)) (ha : ck a = (t, n)) (ht : t = 1 ∨ t = 2 ∨ t = 3 ∨ t = 4) (hn : a < nC) (hv : Int32.ofNat n = v) (k : WP tb j d M Q (pc + 1) L (.int v :: st) S u) : WP tb j d M Q pc L (.ref a :: st) S u := by
  intro G l p e s m args below meth c C H locs ls hP hS hl
  have h0 := k G l p e s m args below meth c C H locs ls hP hS hl
  rcases ht with rfl | rfl | rfl | rfl
  · exact va_alen C.1 C.2.1 C.2.2.2.2.2.2.2.1.1 hP.1 a 0 (wl_get hn |>.trans (by rw [ent_int ha (by decide) (by decide)])) (ty := .int) rfl hv hd h0
  · exact va_alen C.1 C.2.1 C.2.2.2.2.2.2.2.1.1 hP.1 a 1 (wl_get hn |>.trans (by rw [ent_int ha (by decide) (by decide)])) (ty := .byte) rfl hv hd h0
  · exact va_alen C.1 C.2.1 C.2.2.2.2.2.2.2.1.1 hP.1 a 2 (wl_get hn |>.trans (by rw [ent_int ha (by decide) (by decide)])) (ty := .boolean) rfl hv hd h0
  · exact va_alen C.1 C.2.1 C.2.2.2.2.2.2.2.1.1 hP.1 a 3 (wl_get hn |>.trans (by rw [ent_long ha])) (ty := .long) rfl hv hd h0
end Rules
