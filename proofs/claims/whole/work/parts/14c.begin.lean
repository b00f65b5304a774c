theorem q_core {D : va_G} {base : Nat} {PostY : va_W → Prop} {mcy msy u v pc : Nat} {st rest : List Value} {aa : Array Value} {l : Launch} {p : Program} {e : Env} {R : Room} {s : State} {m : MethodId} {args : Array Value} {below : List Frame} {meth : Method} {c : Code} {H : Heap} {locs : List Loc} {ls : Array Slot} {Q : State → Prop} (hS : va_S (kA base) s.heap H locs)
    (hr : va_Run p l e R s m args below meth c H locs u v mcy msy (F0 m pc ls st) rest (kQ D base PostY aa) (kA base)) (k : ∀ W2 H1 locs1, PostY W2 → va_P D vwCl W2 H1 → va_D (kA base) W2 → va_S (kA base) s.heap H1 locs1 → W p l e R s m args below meth c H1 locs1 (u + mcy) (v + msy) Q (F0 m (pc + 3) ls rest)) :
    W p l e R s m args below meth c H locs u v Q (F0 m pc ls st) := by
  intro T hT X
  obtain ⟨v9, st₀, t, T', L9, h0, X', hL, e1, e2, ⟨⟨hv9, W2, hpost, hP2, hD2⟩, hF⟩, hst⟩ := hr T hT X
  cases hv9
  obtain ⟨k1, k2, k3⟩ := vx_keep h0 e1 hS (fun q _ h => h) (fun q h => h) hL hF
  obtain ⟨t2, a1, b1⟩ := k W2 T'.heap (locs ++ L9) hpost (by rw [e1]; exact hP2) hD2 k3 T' rfl X'
  exact ⟨t2, hst t2 a1, b1⟩
set_option maxHeartbeats 4000000 in
set_option maxRecDepth 100000 in
theorem law_begin {p : Program} {l : Launch} {e : Env} {s : State} {m : MethodId} {below : List Frame} {meth : Method} {c : Code} {b : Nat} {D : va_G} {ty : Nat → ClassId} {Q : State → Prop} (hx : p.tables.exec = Jvm.exec) (hb : c.code = code) (hml : c.maxLocals = 7) (hown : s.vm.findClass "DripCupsLaw" = some m.cls) (hts : ∀ w ∈ W0, w.before #[Value.ref b] s = true) (hG : KG D ty s.heap.size s)
    (k : ∀ a g b2 g2 o H locs ls, va_P D vwCl (cre ty a g b2 g2 o) H → va_D (kA s.heap.size) (cre ty a g b2 g2 o) → va_S (kA s.heap.size) s.heap H locs → lv_has ls 7 [(4, .int 0), (3, .ref o), (2, .ref b2), (1, .ref a), (0, .ref b)] → W p l e room_1 s m #[Value.ref b] below meth c H locs 112 39903 Q (F0 m 23 ls [])) :
    W p l e room_1 s m #[Value.ref b] below meth c s.heap [] 0 0 Q (entryFrame m ([Value.ref b] : List Value).toArray 7) := by
  have hA : ∀ q : Nat, s.heap.size ≤ q → kA s.heap.size q := fun _ h => h
  have hS : va_S (kA s.heap.size) s.heap s.heap [] := va_S.rf
  have hP : va_P D vwCl [] s.heap := fun k q h => by simp at h
  have hD : va_D (kA s.heap.size) [] := ⟨fun i j p q h => by simp at h, fun k q h => by simp at h⟩
  have hfix : CallFix p m c code 7 s #[Value.ref b] W0 "DripCupsLaw" := ⟨hx, hb, hml, hown, hts⟩
  have hl := lv_entry ([.ref b]) (n := 7) (Nat.le_of_ble_eq_true rfl)
  rw [lg_entry_eq]
  generalize (lg_sl ([.ref b]) ++ List.replicate (7 - (lg_sl ([.ref b])).length) Slot.unset).toArray = ls at hl ⊢
  have hl : lv_has ls 7 [(0, .ref b)] := hl
  refine va_new (ci := 11) (fs := [.null, .null, .null, .null, .null, .null, .null, .null, .null, .int 0, .int 0, .int 0]) (C := RX11) (T := TX11) (N := 12) hx hb hts iwX11 tyX11 tyX11_ok hown (hts _ (mt1 (List.mem_of_getElem? (i := 28) rfl) rfl)) (hts _ (mt1 (List.mem_of_getElem? (i := 29) rfl) rfl)) (hts _ (mt1 (List.mem_of_getElem? (i := 1) rfl) rfl)) hG.1 hP hD hS hA rfl (fun i hi => match i, hi with | 0, _ => rfl | 1, _ => rfl | 2, _ => rfl | 3, _ => rfl | 4, _ => rfl | 5, _ => rfl | 6, _ => rfl | 7, _ => rfl | 8, _ => rfl | 9, _ => rfl | 10, _ => rfl | 11, _ => rfl | (i + 12), h => absurd h (by omega)) (by decide) (by decide) dL_law_0 (fun a H hP hD hS => ?_)
  refine lv_dup hx hb dL_law_3 rfl ?_
  refine q_core hS (va_runI (b := a) (As := []) (rest := [.ref a]) hfix (kc_met (kI11 [] a) l) ⟨callB_of 0 hts (good_W0 kX11_init.2.1) rfl rfl rfl (hts _ kX11_init.1) (hts _ (mt1 (List.mem_of_getElem? (i := 30) rfl) rfl)) kX11_init.2.2.1 ⟨by decide, by decide⟩, rfl, hts _ (mt1 (List.mem_of_getElem? (i := 31) rfl) rfl)⟩ ⟨kblind, fun U hU hW => ⟨rfl, hG.at hS hU hW, by rw [hU]; exact hP, hD⟩⟩ rfl rfl hl.1 rfl (lv_room (Nat.le_of_ble_eq_true rfl)) dL_law_4 ⟨by decide, by decide⟩) (fun W2 H locs h2 hP hD hS => ?_)
  obtain ⟨g, rfl⟩ := h2
  refine lv_astore_n (lv' := [(1, .ref a), (0, .ref b)]) hx hb dL_law_7 rfl hl (by decide) rfl (fun ls hl => ?_)
  refine va_new (ci := 12) (fs := [.int 0, .int 0, .int 0, .int 0, .null, .null, .null, .int 0, .int 0, .int 0, .null, .int 0, .int 0, .int 0, .int 0, .int 0, .int 0, .int 0, .long 0, .int 0, .int 0, .int 0, .int 0, .int 0, .int 0, .null, .null, .null, .null, .null, .null, .null, .null, .int 0, .null, .null, .null, .null, .int 0, .int 0, .int 0, .null, .null, .null, .null, .null, .null, .null, .null, .int 0, .null, .null, .null, .int 0, .int 0, .int 0, .int 0, .null, .null, .null]) (C := RX12) (T := TX12) (N := 60) hx hb hts iwX12 tyX12 tyX12_ok hown (hts _ (mt6 (List.mem_of_getElem? (i := 78) rfl) rfl)) (hts _ (mt6 (List.mem_of_getElem? (i := 79) rfl) rfl)) (hts _ (mt1 (List.mem_of_getElem? (i := 14) rfl) rfl)) hG.1 hP hD hS hA rfl (fun i hi => match i, hi with | 0, _ => rfl | 1, _ => rfl | 2, _ => rfl | 3, _ => rfl | 4, _ => rfl | 5, _ => rfl | 6, _ => rfl | 7, _ => rfl | 8, _ => rfl | 9, _ => rfl | 10, _ => rfl | 11, _ => rfl | 12, _ => rfl | 13, _ => rfl | 14, _ => rfl | 15, _ => rfl | 16, _ => rfl | 17, _ => rfl | 18, _ => rfl | 19, _ => rfl | 20, _ => rfl | 21, _ => rfl | 22, _ => rfl | 23, _ => rfl | 24, _ => rfl | 25, _ => rfl | 26, _ => rfl | 27, _ => rfl | 28, _ => rfl | 29, _ => rfl | 30, _ => rfl | 31, _ => rfl | 32, _ => rfl | 33, _ => rfl | 34, _ => rfl | 35, _ => rfl | 36, _ => rfl | 37, _ => rfl | 38, _ => rfl | 39, _ => rfl | 40, _ => rfl | 41, _ => rfl | 42, _ => rfl | 43, _ => rfl | 44, _ => rfl | 45, _ => rfl | 46, _ => rfl | 47, _ => rfl | 48, _ => rfl | 49, _ => rfl | 50, _ => rfl | 51, _ => rfl | 52, _ => rfl | 53, _ => rfl | 54, _ => rfl | 55, _ => rfl | 56, _ => rfl | 57, _ => rfl | 58, _ => rfl | 59, _ => rfl | (i + 60), h => absurd h (by omega)) (by decide) (by decide) dL_law_8 (fun b2 H hP hD hS => ?_)
  refine lv_dup hx hb dL_law_11 rfl ?_
  refine q_core hS (va_runI (b := b2) (As := []) (rest := [.ref b2]) hfix (kc_met (kI12 ([] ++ eX11 ty a g) b2) l) ⟨callB_of 0 hts (good_W0 kX12_init.2.1) rfl rfl rfl (hts _ kX12_init.1) (hts _ (mt6 (List.mem_of_getElem? (i := 80) rfl) rfl)) kX12_init.2.2.1 ⟨by decide, by decide⟩, rfl, hts _ (mt6 (List.mem_of_getElem? (i := 81) rfl) rfl)⟩ ⟨kblind, fun U hU hW => ⟨rfl, hG.at hS hU hW, by rw [hU]; exact hP, hD⟩⟩ rfl rfl hl.1 rfl (lv_room (Nat.le_of_ble_eq_true rfl)) dL_law_12 ⟨by decide, by decide⟩) (fun W2 H locs h2 hP hD hS => ?_)
  obtain ⟨g2, rfl⟩ := h2
  refine lv_astore_n (lv' := [(2, .ref b2), (1, .ref a), (0, .ref b)]) hx hb dL_law_15 rfl hl (by decide) rfl (fun ls hl => ?_)
  refine lv_iconst (v := 1) hx hb dL_law_16 rfl ?_
  refine va_newa (ty := .long) (N' := 1) (a0 := (1, .inr (.inl (fun _ => 0)))) hx hb (hts _ wArr_long) rfl hG.1 hP hD hS hA (fun _ => rfl) (by decide) (by decide) (by decide) (by decide) (by decide) dL_law_17 (fun o cA H hK1 hP hD hS => ?_)
  have h1 : s.vm.findClass ("[" ++ FieldType.long.toString) = some cA := (hK1.2 4 (cA, .long) rfl).2
  have h2 : s.vm.findClass ("[" ++ FieldType.long.toString) = some (ty 4) := (hK1.2 3 (ty 4, .long) rfl).2
  have e9 : cA = ty 4 := Option.some.inj (h1.symm.trans h2)
  subst e9
  refine lv_astore_n (lv' := [(3, .ref o), (2, .ref b2), (1, .ref a), (0, .ref b)]) hx hb dL_law_19 rfl hl (by decide) rfl (fun ls hl => ?_)
  refine lv_iconst (v := 0) hx hb dL_law_20 rfl ?_
  refine lv_istore (lv' := [(4, .int 0), (3, .ref o), (2, .ref b2), (1, .ref a), (0, .ref b)]) hx hb dL_law_21 hl (by decide) rfl (fun ls hl => ?_)
  have ew : ([] ++ eX11 ty a g ++ eX12 ty b2 g2) ++ [(o, lE (ty 4) 1 (fun _ => 0))] = cre ty a g b2 g2 o := by simp only [cre, app, List.nil_append, List.append_assoc]
  exact k a g b2 g2 o H _ ls (ew ▸ hP) (ew ▸ hD) hS hl
