/-! ===== the start: the world behind the constructors ===== -/
def pos : List Nat := [0, 1, 2, 19, 32, 45, 70, 74, 27, 40, 29, 42, 4, 55, 13, 16, 64, 67, 20, 33, 46, 6, 57, 77, 78, 79, 3, 53, 54, 71, 72, 73, 75, 76, 28, 41, 30, 31, 43, 44, 5, 56, 14, 15, 17, 18, 65, 66, 68, 69, 21, 22, 23, 24, 25, 26, 34, 35, 36, 37, 38, 39, 47, 48, 49, 50, 51, 52, 7, 8, 9, 10, 11, 12, 58, 59, 60, 61, 62, 63, 80, 81, 82, 83, 84, 85, 86, 87, 88, 89, 90, 91, 92, 93, 94, 95, 96, 97, 98, 99, 100, 101, 102, 103, 104, 105, 106, 107, 108, 109, 110, 111]
def posI : List Nat := [0, 1, 2, 26, 12, 40, 21, 68, 69, 70, 71, 72, 73, 14, 42, 43, 15, 44, 45, 3, 18, 50, 51, 52, 53, 54, 55, 8, 34, 10, 36, 37, 4, 19, 56, 57, 58, 59, 60, 61, 9, 35, 11, 38, 39, 5, 20, 62, 63, 64, 65, 66, 67, 27, 28, 13, 41, 22, 74, 75, 76, 77, 78, 79, 16, 46, 47, 17, 48, 49, 6, 29, 30, 31, 7, 32, 33, 23, 24, 25, 80, 81, 82, 83, 84, 85, 86, 87, 88, 89, 90, 91, 92, 93, 94, 95, 96, 97, 98, 99, 100, 101, 102, 103, 104, 105, 106, 107, 108, 109, 110, 111]
def cre (ty : Nat → ClassId) (a : Nat) (g : Nat → Nat) (b : Nat) (g2 : Nat → Nat) (o : Nat) : va_W := app (eX11 ty a g) (app (eX12 ty b g2) [(o, lE (ty 4) 1 (fun _ => 0))])
def cad (a : Nat) (g : Nat → Nat) (b : Nat) (g2 : Nat → Nat) (o : Nat) : List Nat := [a, g 0, g 1, g 2, g 3, g 4, g 5, g 6, g 7, g 8, g 9, g 10, g 11, g 12, g 13, g 14, g 15, g 16, g 17, g 18, g 19, g 20, g 21, g 22, g 23, g 24, g 25, g 26, g 27, g 28, g 29, g 30, g 31, g 32, g 33, g 34, g 35, g 36, g 37, g 38, g 39, g 40, g 41, g 42, g 43, g 44, g 45, g 46, g 47, g 48, g 49, g 50, g 51, g 52, g 53, g 54, g 55, g 56, g 57, g 58, g 59, g 60, g 61, g 62, g 63, g 64, g 65, g 66, g 67, g 68, g 69, g 70, g 71, g 72, g 73, g 74, g 75, g 76, g 77, g 78, b, g2 0, g2 1, g2 2, g2 3, g2 4, g2 5, g2 6, g2 7, g2 8, g2 9, g2 10, g2 11, g2 12, g2 13, g2 14, g2 15, g2 16, g2 17, g2 18, g2 19, g2 20, g2 21, g2 22, g2 23, g2 24, g2 25, g2 26, g2 27, g2 28, g2 29, o]
def adr (a : Nat) (g : Nat → Nat) (b : Nat) (g2 : Nat → Nat) (o : Nat) (B : Nat → Nat) (k : Nat) : Nat := if k < 112 then (cad a g b g2 o).getD (pos.getD k 0) 0 else B k
def s0f (k i : Nat) : Int32 := if k = 0 ∧ i = 10 then (-1) else if k = 1 ∧ i = 4 then (-1) else if k = 7 ∧ i = 3 then (-1) else if k = 80 ∧ i = 2 then (-1) else if k = 80 ∧ i = 3 then (-1) else if k = 80 ∧ i = 9 then (-1) else if k = 80 ∧ i = 40 then (-1) else 0
def s0i (xs : Nat → Int32) (k : Nat) : Nat → Int32 := if k = 1000 then xs else if k = 50 then (fl 9 1 (fun _ => 0)) else if k = 51 then (fl 9 0 (fun _ => 0)) else if k = 52 then (fl 9 (-1) (fun _ => 0)) else if k = 53 then (fl 9 (-1) (fun _ => 0)) else if k = 54 then (fl 9 0 (fun _ => 0)) else if k = 56 then (fl 9 1 (fun _ => 0)) else if k = 57 then (fl 9 0 (fun _ => 0)) else if k = 58 then (fl 9 (-1) (fun _ => 0)) else if k = 59 then (fl 9 (-1) (fun _ => 0)) else if k = 60 then (fl 9 0 (fun _ => 0)) else if k = 62 then (fl 9 1 (fun _ => 0)) else if k = 63 then (fl 9 0 (fun _ => 0)) else if k = 64 then (fl 9 (-1) (fun _ => 0)) else if k = 65 then (fl 9 (-1) (fun _ => 0)) else if k = 66 then (fl 9 0 (fun _ => 0)) else if k = 68 then (fl 9 1 (fun _ => 0)) else if k = 69 then (fl 9 0 (fun _ => 0)) else if k = 70 then (fl 9 (-1) (fun _ => 0)) else if k = 71 then (fl 9 (-1) (fun _ => 0)) else if k = 72 then (fl 9 0 (fun _ => 0)) else if k = 74 then (fl 9 1 (fun _ => 0)) else if k = 75 then (fl 9 0 (fun _ => 0)) else if k = 76 then (fl 9 (-1) (fun _ => 0)) else if k = 77 then (fl 9 (-1) (fun _ => 0)) else if k = 78 then (fl 9 0 (fun _ => 0)) else s0f k
def s0r (len k i : Nat) : Nat := if k = 1000 then len else if k = 1 ∧ i = 1 then 12 else if k = 1 ∧ i = 2 then 14 else if k = 5 ∧ i = 3 then 13 else if k = 5 ∧ i = 4 then 20 else 0
def S0 (xs : Nat → Int32) (len : Nat) : PS := (s0i xs, fun _ _ => 0, s0r len)
theorem S0_sc (xs : Nat → Int32) (len : Nat) : SC xs len (S0 xs len) := ⟨rfl, rfl⟩
def creOK (G : Geo) (S : PS) (W1 : va_W) (k : Nat) : Prop := W1[pos.getD k 0]? = some (G.1 k, ent G S k)
set_option maxRecDepth 100000 in
theorem cre0 (ty : Nat → ClassId) (a : Nat) (g : Nat → Nat) (b : Nat) (g2 : Nat → Nat) (o : Nat) (B : Nat → Nat) (Y : (Nat → ClassId) × (Nat → Nat → Nat) × Nat × Nat × (Nat → Int32)) (xs : Nat → Int32) (len : Nat) : creOK (adr a g b g2 o B, ty, Y) (S0 xs len) (cre ty a g b g2 o) 0 := rfl
set_option maxRecDepth 100000 in
theorem cre1 (ty : Nat → ClassId) (a : Nat) (g : Nat → Nat) (b : Nat) (g2 : Nat → Nat) (o : Nat) (B : Nat → Nat) (Y : (Nat → ClassId) × (Nat → Nat → Nat) × Nat × Nat × (Nat → Int32)) (xs : Nat → Int32) (len : Nat) : creOK (adr a g b g2 o B, ty, Y) (S0 xs len) (cre ty a g b g2 o) 1 := rfl
set_option maxRecDepth 100000 in
theorem cre2 (ty : Nat → ClassId) (a : Nat) (g : Nat → Nat) (b : Nat) (g2 : Nat → Nat) (o : Nat) (B : Nat → Nat) (Y : (Nat → ClassId) × (Nat → Nat → Nat) × Nat × Nat × (Nat → Int32)) (xs : Nat → Int32) (len : Nat) : creOK (adr a g b g2 o B, ty, Y) (S0 xs len) (cre ty a g b g2 o) 2 := rfl
set_option maxRecDepth 100000 in
theorem cre3 (ty : Nat → ClassId) (a : Nat) (g : Nat → Nat) (b : Nat) (g2 : Nat → Nat) (o : Nat) (B : Nat → Nat) (Y : (Nat → ClassId) × (Nat → Nat → Nat) × Nat × Nat × (Nat → Int32)) (xs : Nat → Int32) (len : Nat) : creOK (adr a g b g2 o B, ty, Y) (S0 xs len) (cre ty a g b g2 o) 3 := rfl
set_option maxRecDepth 100000 in
theorem cre4 (ty : Nat → ClassId) (a : Nat) (g : Nat → Nat) (b : Nat) (g2 : Nat → Nat) (o : Nat) (B : Nat → Nat) (Y : (Nat → ClassId) × (Nat → Nat → Nat) × Nat × Nat × (Nat → Int32)) (xs : Nat → Int32) (len : Nat) : creOK (adr a g b g2 o B, ty, Y) (S0 xs len) (cre ty a g b g2 o) 4 := rfl
set_option maxRecDepth 100000 in
theorem cre5 (ty : Nat → ClassId) (a : Nat) (g : Nat → Nat) (b : Nat) (g2 : Nat → Nat) (o : Nat) (B : Nat → Nat) (Y : (Nat → ClassId) × (Nat → Nat → Nat) × Nat × Nat × (Nat → Int32)) (xs : Nat → Int32) (len : Nat) : creOK (adr a g b g2 o B, ty, Y) (S0 xs len) (cre ty a g b g2 o) 5 := rfl
set_option maxRecDepth 100000 in
theorem cre6 (ty : Nat → ClassId) (a : Nat) (g : Nat → Nat) (b : Nat) (g2 : Nat → Nat) (o : Nat) (B : Nat → Nat) (Y : (Nat → ClassId) × (Nat → Nat → Nat) × Nat × Nat × (Nat → Int32)) (xs : Nat → Int32) (len : Nat) : creOK (adr a g b g2 o B, ty, Y) (S0 xs len) (cre ty a g b g2 o) 6 := rfl
set_option maxRecDepth 100000 in
theorem cre7 (ty : Nat → ClassId) (a : Nat) (g : Nat → Nat) (b : Nat) (g2 : Nat → Nat) (o : Nat) (B : Nat → Nat) (Y : (Nat → ClassId) × (Nat → Nat → Nat) × Nat × Nat × (Nat → Int32)) (xs : Nat → Int32) (len : Nat) : creOK (adr a g b g2 o B, ty, Y) (S0 xs len) (cre ty a g b g2 o) 7 := rfl
set_option maxRecDepth 100000 in
theorem cre8 (ty : Nat → ClassId) (a : Nat) (g : Nat → Nat) (b : Nat) (g2 : Nat → Nat) (o : Nat) (B : Nat → Nat) (Y : (Nat → ClassId) × (Nat → Nat → Nat) × Nat × Nat × (Nat → Int32)) (xs : Nat → Int32) (len : Nat) : creOK (adr a g b g2 o B, ty, Y) (S0 xs len) (cre ty a g b g2 o) 8 := rfl
set_option maxRecDepth 100000 in
theorem cre9 (ty : Nat → ClassId) (a : Nat) (g : Nat → Nat) (b : Nat) (g2 : Nat → Nat) (o : Nat) (B : Nat → Nat) (Y : (Nat → ClassId) × (Nat → Nat → Nat) × Nat × Nat × (Nat → Int32)) (xs : Nat → Int32) (len : Nat) : creOK (adr a g b g2 o B, ty, Y) (S0 xs len) (cre ty a g b g2 o) 9 := rfl
set_option maxRecDepth 100000 in
theorem cre10 (ty : Nat → ClassId) (a : Nat) (g : Nat → Nat) (b : Nat) (g2 : Nat → Nat) (o : Nat) (B : Nat → Nat) (Y : (Nat → ClassId) × (Nat → Nat → Nat) × Nat × Nat × (Nat → Int32)) (xs : Nat → Int32) (len : Nat) : creOK (adr a g b g2 o B, ty, Y) (S0 xs len) (cre ty a g b g2 o) 10 := rfl
set_option maxRecDepth 100000 in
theorem cre11 (ty : Nat → ClassId) (a : Nat) (g : Nat → Nat) (b : Nat) (g2 : Nat → Nat) (o : Nat) (B : Nat → Nat) (Y : (Nat → ClassId) × (Nat → Nat → Nat) × Nat × Nat × (Nat → Int32)) (xs : Nat → Int32) (len : Nat) : creOK (adr a g b g2 o B, ty, Y) (S0 xs len) (cre ty a g b g2 o) 11 := rfl
set_option maxRecDepth 100000 in
theorem cre12 (ty : Nat → ClassId) (a : Nat) (g : Nat → Nat) (b : Nat) (g2 : Nat → Nat) (o : Nat) (B : Nat → Nat) (Y : (Nat → ClassId) × (Nat → Nat → Nat) × Nat × Nat × (Nat → Int32)) (xs : Nat → Int32) (len : Nat) : creOK (adr a g b g2 o B, ty, Y) (S0 xs len) (cre ty a g b g2 o) 12 := rfl
set_option maxRecDepth 100000 in
theorem cre13 (ty : Nat → ClassId) (a : Nat) (g : Nat → Nat) (b : Nat) (g2 : Nat → Nat) (o : Nat) (B : Nat → Nat) (Y : (Nat → ClassId) × (Nat → Nat → Nat) × Nat × Nat × (Nat → Int32)) (xs : Nat → Int32) (len : Nat) : creOK (adr a g b g2 o B, ty, Y) (S0 xs len) (cre ty a g b g2 o) 13 := rfl
set_option maxRecDepth 100000 in
theorem cre14 (ty : Nat → ClassId) (a : Nat) (g : Nat → Nat) (b : Nat) (g2 : Nat → Nat) (o : Nat) (B : Nat → Nat) (Y : (Nat → ClassId) × (Nat → Nat → Nat) × Nat × Nat × (Nat → Int32)) (xs : Nat → Int32) (len : Nat) : creOK (adr a g b g2 o B, ty, Y) (S0 xs len) (cre ty a g b g2 o) 14 := rfl
set_option maxRecDepth 100000 in
theorem cre15 (ty : Nat → ClassId) (a : Nat) (g : Nat → Nat) (b : Nat) (g2 : Nat → Nat) (o : Nat) (B : Nat → Nat) (Y : (Nat → ClassId) × (Nat → Nat → Nat) × Nat × Nat × (Nat → Int32)) (xs : Nat → Int32) (len : Nat) : creOK (adr a g b g2 o B, ty, Y) (S0 xs len) (cre ty a g b g2 o) 15 := rfl
set_option maxRecDepth 100000 in
theorem cre16 (ty : Nat → ClassId) (a : Nat) (g : Nat → Nat) (b : Nat) (g2 : Nat → Nat) (o : Nat) (B : Nat → Nat) (Y : (Nat → ClassId) × (Nat → Nat → Nat) × Nat × Nat × (Nat → Int32)) (xs : Nat → Int32) (len : Nat) : creOK (adr a g b g2 o B, ty, Y) (S0 xs len) (cre ty a g b g2 o) 16 := rfl
set_option maxRecDepth 100000 in
theorem cre17 (ty : Nat → ClassId) (a : Nat) (g : Nat → Nat) (b : Nat) (g2 : Nat → Nat) (o : Nat) (B : Nat → Nat) (Y : (Nat → ClassId) × (Nat → Nat → Nat) × Nat × Nat × (Nat → Int32)) (xs : Nat → Int32) (len : Nat) : creOK (adr a g b g2 o B, ty, Y) (S0 xs len) (cre ty a g b g2 o) 17 := rfl
set_option maxRecDepth 100000 in
theorem cre18 (ty : Nat → ClassId) (a : Nat) (g : Nat → Nat) (b : Nat) (g2 : Nat → Nat) (o : Nat) (B : Nat → Nat) (Y : (Nat → ClassId) × (Nat → Nat → Nat) × Nat × Nat × (Nat → Int32)) (xs : Nat → Int32) (len : Nat) : creOK (adr a g b g2 o B, ty, Y) (S0 xs len) (cre ty a g b g2 o) 18 := rfl
set_option maxRecDepth 100000 in
theorem cre19 (ty : Nat → ClassId) (a : Nat) (g : Nat → Nat) (b : Nat) (g2 : Nat → Nat) (o : Nat) (B : Nat → Nat) (Y : (Nat → ClassId) × (Nat → Nat → Nat) × Nat × Nat × (Nat → Int32)) (xs : Nat → Int32) (len : Nat) : creOK (adr a g b g2 o B, ty, Y) (S0 xs len) (cre ty a g b g2 o) 19 := rfl
set_option maxRecDepth 100000 in
theorem cre20 (ty : Nat → ClassId) (a : Nat) (g : Nat → Nat) (b : Nat) (g2 : Nat → Nat) (o : Nat) (B : Nat → Nat) (Y : (Nat → ClassId) × (Nat → Nat → Nat) × Nat × Nat × (Nat → Int32)) (xs : Nat → Int32) (len : Nat) : creOK (adr a g b g2 o B, ty, Y) (S0 xs len) (cre ty a g b g2 o) 20 := rfl
set_option maxRecDepth 100000 in
theorem cre21 (ty : Nat → ClassId) (a : Nat) (g : Nat → Nat) (b : Nat) (g2 : Nat → Nat) (o : Nat) (B : Nat → Nat) (Y : (Nat → ClassId) × (Nat → Nat → Nat) × Nat × Nat × (Nat → Int32)) (xs : Nat → Int32) (len : Nat) : creOK (adr a g b g2 o B, ty, Y) (S0 xs len) (cre ty a g b g2 o) 21 := rfl
set_option maxRecDepth 100000 in
theorem cre22 (ty : Nat → ClassId) (a : Nat) (g : Nat → Nat) (b : Nat) (g2 : Nat → Nat) (o : Nat) (B : Nat → Nat) (Y : (Nat → ClassId) × (Nat → Nat → Nat) × Nat × Nat × (Nat → Int32)) (xs : Nat → Int32) (len : Nat) : creOK (adr a g b g2 o B, ty, Y) (S0 xs len) (cre ty a g b g2 o) 22 := rfl
set_option maxRecDepth 100000 in
theorem cre23 (ty : Nat → ClassId) (a : Nat) (g : Nat → Nat) (b : Nat) (g2 : Nat → Nat) (o : Nat) (B : Nat → Nat) (Y : (Nat → ClassId) × (Nat → Nat → Nat) × Nat × Nat × (Nat → Int32)) (xs : Nat → Int32) (len : Nat) : creOK (adr a g b g2 o B, ty, Y) (S0 xs len) (cre ty a g b g2 o) 23 := rfl
set_option maxRecDepth 100000 in
theorem cre24 (ty : Nat → ClassId) (a : Nat) (g : Nat → Nat) (b : Nat) (g2 : Nat → Nat) (o : Nat) (B : Nat → Nat) (Y : (Nat → ClassId) × (Nat → Nat → Nat) × Nat × Nat × (Nat → Int32)) (xs : Nat → Int32) (len : Nat) : creOK (adr a g b g2 o B, ty, Y) (S0 xs len) (cre ty a g b g2 o) 24 := rfl
set_option maxRecDepth 100000 in
theorem cre25 (ty : Nat → ClassId) (a : Nat) (g : Nat → Nat) (b : Nat) (g2 : Nat → Nat) (o : Nat) (B : Nat → Nat) (Y : (Nat → ClassId) × (Nat → Nat → Nat) × Nat × Nat × (Nat → Int32)) (xs : Nat → Int32) (len : Nat) : creOK (adr a g b g2 o B, ty, Y) (S0 xs len) (cre ty a g b g2 o) 25 := rfl
set_option maxRecDepth 100000 in
theorem cre26 (ty : Nat → ClassId) (a : Nat) (g : Nat → Nat) (b : Nat) (g2 : Nat → Nat) (o : Nat) (B : Nat → Nat) (Y : (Nat → ClassId) × (Nat → Nat → Nat) × Nat × Nat × (Nat → Int32)) (xs : Nat → Int32) (len : Nat) : creOK (adr a g b g2 o B, ty, Y) (S0 xs len) (cre ty a g b g2 o) 26 := rfl
set_option maxRecDepth 100000 in
theorem cre27 (ty : Nat → ClassId) (a : Nat) (g : Nat → Nat) (b : Nat) (g2 : Nat → Nat) (o : Nat) (B : Nat → Nat) (Y : (Nat → ClassId) × (Nat → Nat → Nat) × Nat × Nat × (Nat → Int32)) (xs : Nat → Int32) (len : Nat) : creOK (adr a g b g2 o B, ty, Y) (S0 xs len) (cre ty a g b g2 o) 27 := rfl
set_option maxRecDepth 100000 in
theorem cre28 (ty : Nat → ClassId) (a : Nat) (g : Nat → Nat) (b : Nat) (g2 : Nat → Nat) (o : Nat) (B : Nat → Nat) (Y : (Nat → ClassId) × (Nat → Nat → Nat) × Nat × Nat × (Nat → Int32)) (xs : Nat → Int32) (len : Nat) : creOK (adr a g b g2 o B, ty, Y) (S0 xs len) (cre ty a g b g2 o) 28 := rfl
set_option maxRecDepth 100000 in
theorem cre29 (ty : Nat → ClassId) (a : Nat) (g : Nat → Nat) (b : Nat) (g2 : Nat → Nat) (o : Nat) (B : Nat → Nat) (Y : (Nat → ClassId) × (Nat → Nat → Nat) × Nat × Nat × (Nat → Int32)) (xs : Nat → Int32) (len : Nat) : creOK (adr a g b g2 o B, ty, Y) (S0 xs len) (cre ty a g b g2 o) 29 := rfl
set_option maxRecDepth 100000 in
theorem cre30 (ty : Nat → ClassId) (a : Nat) (g : Nat → Nat) (b : Nat) (g2 : Nat → Nat) (o : Nat) (B : Nat → Nat) (Y : (Nat → ClassId) × (Nat → Nat → Nat) × Nat × Nat × (Nat → Int32)) (xs : Nat → Int32) (len : Nat) : creOK (adr a g b g2 o B, ty, Y) (S0 xs len) (cre ty a g b g2 o) 30 := rfl
set_option maxRecDepth 100000 in
theorem cre31 (ty : Nat → ClassId) (a : Nat) (g : Nat → Nat) (b : Nat) (g2 : Nat → Nat) (o : Nat) (B : Nat → Nat) (Y : (Nat → ClassId) × (Nat → Nat → Nat) × Nat × Nat × (Nat → Int32)) (xs : Nat → Int32) (len : Nat) : creOK (adr a g b g2 o B, ty, Y) (S0 xs len) (cre ty a g b g2 o) 31 := rfl
set_option maxRecDepth 100000 in
theorem cre32 (ty : Nat → ClassId) (a : Nat) (g : Nat → Nat) (b : Nat) (g2 : Nat → Nat) (o : Nat) (B : Nat → Nat) (Y : (Nat → ClassId) × (Nat → Nat → Nat) × Nat × Nat × (Nat → Int32)) (xs : Nat → Int32) (len : Nat) : creOK (adr a g b g2 o B, ty, Y) (S0 xs len) (cre ty a g b g2 o) 32 := rfl
set_option maxRecDepth 100000 in
theorem cre33 (ty : Nat → ClassId) (a : Nat) (g : Nat → Nat) (b : Nat) (g2 : Nat → Nat) (o : Nat) (B : Nat → Nat) (Y : (Nat → ClassId) × (Nat → Nat → Nat) × Nat × Nat × (Nat → Int32)) (xs : Nat → Int32) (len : Nat) : creOK (adr a g b g2 o B, ty, Y) (S0 xs len) (cre ty a g b g2 o) 33 := rfl
set_option maxRecDepth 100000 in
theorem cre34 (ty : Nat → ClassId) (a : Nat) (g : Nat → Nat) (b : Nat) (g2 : Nat → Nat) (o : Nat) (B : Nat → Nat) (Y : (Nat → ClassId) × (Nat → Nat → Nat) × Nat × Nat × (Nat → Int32)) (xs : Nat → Int32) (len : Nat) : creOK (adr a g b g2 o B, ty, Y) (S0 xs len) (cre ty a g b g2 o) 34 := rfl
set_option maxRecDepth 100000 in
theorem cre35 (ty : Nat → ClassId) (a : Nat) (g : Nat → Nat) (b : Nat) (g2 : Nat → Nat) (o : Nat) (B : Nat → Nat) (Y : (Nat → ClassId) × (Nat → Nat → Nat) × Nat × Nat × (Nat → Int32)) (xs : Nat → Int32) (len : Nat) : creOK (adr a g b g2 o B, ty, Y) (S0 xs len) (cre ty a g b g2 o) 35 := rfl
set_option maxRecDepth 100000 in
theorem cre36 (ty : Nat → ClassId) (a : Nat) (g : Nat → Nat) (b : Nat) (g2 : Nat → Nat) (o : Nat) (B : Nat → Nat) (Y : (Nat → ClassId) × (Nat → Nat → Nat) × Nat × Nat × (Nat → Int32)) (xs : Nat → Int32) (len : Nat) : creOK (adr a g b g2 o B, ty, Y) (S0 xs len) (cre ty a g b g2 o) 36 := rfl
set_option maxRecDepth 100000 in
theorem cre37 (ty : Nat → ClassId) (a : Nat) (g : Nat → Nat) (b : Nat) (g2 : Nat → Nat) (o : Nat) (B : Nat → Nat) (Y : (Nat → ClassId) × (Nat → Nat → Nat) × Nat × Nat × (Nat → Int32)) (xs : Nat → Int32) (len : Nat) : creOK (adr a g b g2 o B, ty, Y) (S0 xs len) (cre ty a g b g2 o) 37 := rfl
set_option maxRecDepth 100000 in
theorem cre38 (ty : Nat → ClassId) (a : Nat) (g : Nat → Nat) (b : Nat) (g2 : Nat → Nat) (o : Nat) (B : Nat → Nat) (Y : (Nat → ClassId) × (Nat → Nat → Nat) × Nat × Nat × (Nat → Int32)) (xs : Nat → Int32) (len : Nat) : creOK (adr a g b g2 o B, ty, Y) (S0 xs len) (cre ty a g b g2 o) 38 := rfl
set_option maxRecDepth 100000 in
theorem cre39 (ty : Nat → ClassId) (a : Nat) (g : Nat → Nat) (b : Nat) (g2 : Nat → Nat) (o : Nat) (B : Nat → Nat) (Y : (Nat → ClassId) × (Nat → Nat → Nat) × Nat × Nat × (Nat → Int32)) (xs : Nat → Int32) (len : Nat) : creOK (adr a g b g2 o B, ty, Y) (S0 xs len) (cre ty a g b g2 o) 39 := rfl
set_option maxRecDepth 100000 in
theorem cre40 (ty : Nat → ClassId) (a : Nat) (g : Nat → Nat) (b : Nat) (g2 : Nat → Nat) (o : Nat) (B : Nat → Nat) (Y : (Nat → ClassId) × (Nat → Nat → Nat) × Nat × Nat × (Nat → Int32)) (xs : Nat → Int32) (len : Nat) : creOK (adr a g b g2 o B, ty, Y) (S0 xs len) (cre ty a g b g2 o) 40 := rfl
set_option maxRecDepth 100000 in
theorem cre41 (ty : Nat → ClassId) (a : Nat) (g : Nat → Nat) (b : Nat) (g2 : Nat → Nat) (o : Nat) (B : Nat → Nat) (Y : (Nat → ClassId) × (Nat → Nat → Nat) × Nat × Nat × (Nat → Int32)) (xs : Nat → Int32) (len : Nat) : creOK (adr a g b g2 o B, ty, Y) (S0 xs len) (cre ty a g b g2 o) 41 := rfl
set_option maxRecDepth 100000 in
theorem cre42 (ty : Nat → ClassId) (a : Nat) (g : Nat → Nat) (b : Nat) (g2 : Nat → Nat) (o : Nat) (B : Nat → Nat) (Y : (Nat → ClassId) × (Nat → Nat → Nat) × Nat × Nat × (Nat → Int32)) (xs : Nat → Int32) (len : Nat) : creOK (adr a g b g2 o B, ty, Y) (S0 xs len) (cre ty a g b g2 o) 42 := rfl
set_option maxRecDepth 100000 in
theorem cre43 (ty : Nat → ClassId) (a : Nat) (g : Nat → Nat) (b : Nat) (g2 : Nat → Nat) (o : Nat) (B : Nat → Nat) (Y : (Nat → ClassId) × (Nat → Nat → Nat) × Nat × Nat × (Nat → Int32)) (xs : Nat → Int32) (len : Nat) : creOK (adr a g b g2 o B, ty, Y) (S0 xs len) (cre ty a g b g2 o) 43 := rfl
set_option maxRecDepth 100000 in
theorem cre44 (ty : Nat → ClassId) (a : Nat) (g : Nat → Nat) (b : Nat) (g2 : Nat → Nat) (o : Nat) (B : Nat → Nat) (Y : (Nat → ClassId) × (Nat → Nat → Nat) × Nat × Nat × (Nat → Int32)) (xs : Nat → Int32) (len : Nat) : creOK (adr a g b g2 o B, ty, Y) (S0 xs len) (cre ty a g b g2 o) 44 := rfl
set_option maxRecDepth 100000 in
theorem cre45 (ty : Nat → ClassId) (a : Nat) (g : Nat → Nat) (b : Nat) (g2 : Nat → Nat) (o : Nat) (B : Nat → Nat) (Y : (Nat → ClassId) × (Nat → Nat → Nat) × Nat × Nat × (Nat → Int32)) (xs : Nat → Int32) (len : Nat) : creOK (adr a g b g2 o B, ty, Y) (S0 xs len) (cre ty a g b g2 o) 45 := rfl
set_option maxRecDepth 100000 in
theorem cre46 (ty : Nat → ClassId) (a : Nat) (g : Nat → Nat) (b : Nat) (g2 : Nat → Nat) (o : Nat) (B : Nat → Nat) (Y : (Nat → ClassId) × (Nat → Nat → Nat) × Nat × Nat × (Nat → Int32)) (xs : Nat → Int32) (len : Nat) : creOK (adr a g b g2 o B, ty, Y) (S0 xs len) (cre ty a g b g2 o) 46 := rfl
set_option maxRecDepth 100000 in
theorem cre47 (ty : Nat → ClassId) (a : Nat) (g : Nat → Nat) (b : Nat) (g2 : Nat → Nat) (o : Nat) (B : Nat → Nat) (Y : (Nat → ClassId) × (Nat → Nat → Nat) × Nat × Nat × (Nat → Int32)) (xs : Nat → Int32) (len : Nat) : creOK (adr a g b g2 o B, ty, Y) (S0 xs len) (cre ty a g b g2 o) 47 := rfl
set_option maxRecDepth 100000 in
theorem cre48 (ty : Nat → ClassId) (a : Nat) (g : Nat → Nat) (b : Nat) (g2 : Nat → Nat) (o : Nat) (B : Nat → Nat) (Y : (Nat → ClassId) × (Nat → Nat → Nat) × Nat × Nat × (Nat → Int32)) (xs : Nat → Int32) (len : Nat) : creOK (adr a g b g2 o B, ty, Y) (S0 xs len) (cre ty a g b g2 o) 48 := rfl
set_option maxRecDepth 100000 in
theorem cre49 (ty : Nat → ClassId) (a : Nat) (g : Nat → Nat) (b : Nat) (g2 : Nat → Nat) (o : Nat) (B : Nat → Nat) (Y : (Nat → ClassId) × (Nat → Nat → Nat) × Nat × Nat × (Nat → Int32)) (xs : Nat → Int32) (len : Nat) : creOK (adr a g b g2 o B, ty, Y) (S0 xs len) (cre ty a g b g2 o) 49 := rfl
set_option maxRecDepth 100000 in
theorem cre50 (ty : Nat → ClassId) (a : Nat) (g : Nat → Nat) (b : Nat) (g2 : Nat → Nat) (o : Nat) (B : Nat → Nat) (Y : (Nat → ClassId) × (Nat → Nat → Nat) × Nat × Nat × (Nat → Int32)) (xs : Nat → Int32) (len : Nat) : creOK (adr a g b g2 o B, ty, Y) (S0 xs len) (cre ty a g b g2 o) 50 := rfl
set_option maxRecDepth 100000 in
theorem cre51 (ty : Nat → ClassId) (a : Nat) (g : Nat → Nat) (b : Nat) (g2 : Nat → Nat) (o : Nat) (B : Nat → Nat) (Y : (Nat → ClassId) × (Nat → Nat → Nat) × Nat × Nat × (Nat → Int32)) (xs : Nat → Int32) (len : Nat) : creOK (adr a g b g2 o B, ty, Y) (S0 xs len) (cre ty a g b g2 o) 51 := rfl
set_option maxRecDepth 100000 in
theorem cre52 (ty : Nat → ClassId) (a : Nat) (g : Nat → Nat) (b : Nat) (g2 : Nat → Nat) (o : Nat) (B : Nat → Nat) (Y : (Nat → ClassId) × (Nat → Nat → Nat) × Nat × Nat × (Nat → Int32)) (xs : Nat → Int32) (len : Nat) : creOK (adr a g b g2 o B, ty, Y) (S0 xs len) (cre ty a g b g2 o) 52 := rfl
set_option maxRecDepth 100000 in
theorem cre53 (ty : Nat → ClassId) (a : Nat) (g : Nat → Nat) (b : Nat) (g2 : Nat → Nat) (o : Nat) (B : Nat → Nat) (Y : (Nat → ClassId) × (Nat → Nat → Nat) × Nat × Nat × (Nat → Int32)) (xs : Nat → Int32) (len : Nat) : creOK (adr a g b g2 o B, ty, Y) (S0 xs len) (cre ty a g b g2 o) 53 := rfl
set_option maxRecDepth 100000 in
theorem cre54 (ty : Nat → ClassId) (a : Nat) (g : Nat → Nat) (b : Nat) (g2 : Nat → Nat) (o : Nat) (B : Nat → Nat) (Y : (Nat → ClassId) × (Nat → Nat → Nat) × Nat × Nat × (Nat → Int32)) (xs : Nat → Int32) (len : Nat) : creOK (adr a g b g2 o B, ty, Y) (S0 xs len) (cre ty a g b g2 o) 54 := rfl
set_option maxRecDepth 100000 in
theorem cre55 (ty : Nat → ClassId) (a : Nat) (g : Nat → Nat) (b : Nat) (g2 : Nat → Nat) (o : Nat) (B : Nat → Nat) (Y : (Nat → ClassId) × (Nat → Nat → Nat) × Nat × Nat × (Nat → Int32)) (xs : Nat → Int32) (len : Nat) : creOK (adr a g b g2 o B, ty, Y) (S0 xs len) (cre ty a g b g2 o) 55 := rfl
set_option maxRecDepth 100000 in
theorem cre56 (ty : Nat → ClassId) (a : Nat) (g : Nat → Nat) (b : Nat) (g2 : Nat → Nat) (o : Nat) (B : Nat → Nat) (Y : (Nat → ClassId) × (Nat → Nat → Nat) × Nat × Nat × (Nat → Int32)) (xs : Nat → Int32) (len : Nat) : creOK (adr a g b g2 o B, ty, Y) (S0 xs len) (cre ty a g b g2 o) 56 := rfl
set_option maxRecDepth 100000 in
theorem cre57 (ty : Nat → ClassId) (a : Nat) (g : Nat → Nat) (b : Nat) (g2 : Nat → Nat) (o : Nat) (B : Nat → Nat) (Y : (Nat → ClassId) × (Nat → Nat → Nat) × Nat × Nat × (Nat → Int32)) (xs : Nat → Int32) (len : Nat) : creOK (adr a g b g2 o B, ty, Y) (S0 xs len) (cre ty a g b g2 o) 57 := rfl
set_option maxRecDepth 100000 in
theorem cre58 (ty : Nat → ClassId) (a : Nat) (g : Nat → Nat) (b : Nat) (g2 : Nat → Nat) (o : Nat) (B : Nat → Nat) (Y : (Nat → ClassId) × (Nat → Nat → Nat) × Nat × Nat × (Nat → Int32)) (xs : Nat → Int32) (len : Nat) : creOK (adr a g b g2 o B, ty, Y) (S0 xs len) (cre ty a g b g2 o) 58 := rfl
set_option maxRecDepth 100000 in
theorem cre59 (ty : Nat → ClassId) (a : Nat) (g : Nat → Nat) (b : Nat) (g2 : Nat → Nat) (o : Nat) (B : Nat → Nat) (Y : (Nat → ClassId) × (Nat → Nat → Nat) × Nat × Nat × (Nat → Int32)) (xs : Nat → Int32) (len : Nat) : creOK (adr a g b g2 o B, ty, Y) (S0 xs len) (cre ty a g b g2 o) 59 := rfl
set_option maxRecDepth 100000 in
theorem cre60 (ty : Nat → ClassId) (a : Nat) (g : Nat → Nat) (b : Nat) (g2 : Nat → Nat) (o : Nat) (B : Nat → Nat) (Y : (Nat → ClassId) × (Nat → Nat → Nat) × Nat × Nat × (Nat → Int32)) (xs : Nat → Int32) (len : Nat) : creOK (adr a g b g2 o B, ty, Y) (S0 xs len) (cre ty a g b g2 o) 60 := rfl
set_option maxRecDepth 100000 in
theorem cre61 (ty : Nat → ClassId) (a : Nat) (g : Nat → Nat) (b : Nat) (g2 : Nat → Nat) (o : Nat) (B : Nat → Nat) (Y : (Nat → ClassId) × (Nat → Nat → Nat) × Nat × Nat × (Nat → Int32)) (xs : Nat → Int32) (len : Nat) : creOK (adr a g b g2 o B, ty, Y) (S0 xs len) (cre ty a g b g2 o) 61 := rfl
set_option maxRecDepth 100000 in
theorem cre62 (ty : Nat → ClassId) (a : Nat) (g : Nat → Nat) (b : Nat) (g2 : Nat → Nat) (o : Nat) (B : Nat → Nat) (Y : (Nat → ClassId) × (Nat → Nat → Nat) × Nat × Nat × (Nat → Int32)) (xs : Nat → Int32) (len : Nat) : creOK (adr a g b g2 o B, ty, Y) (S0 xs len) (cre ty a g b g2 o) 62 := rfl
set_option maxRecDepth 100000 in
theorem cre63 (ty : Nat → ClassId) (a : Nat) (g : Nat → Nat) (b : Nat) (g2 : Nat → Nat) (o : Nat) (B : Nat → Nat) (Y : (Nat → ClassId) × (Nat → Nat → Nat) × Nat × Nat × (Nat → Int32)) (xs : Nat → Int32) (len : Nat) : creOK (adr a g b g2 o B, ty, Y) (S0 xs len) (cre ty a g b g2 o) 63 := rfl
set_option maxRecDepth 100000 in
theorem cre64 (ty : Nat → ClassId) (a : Nat) (g : Nat → Nat) (b : Nat) (g2 : Nat → Nat) (o : Nat) (B : Nat → Nat) (Y : (Nat → ClassId) × (Nat → Nat → Nat) × Nat × Nat × (Nat → Int32)) (xs : Nat → Int32) (len : Nat) : creOK (adr a g b g2 o B, ty, Y) (S0 xs len) (cre ty a g b g2 o) 64 := rfl
set_option maxRecDepth 100000 in
theorem cre65 (ty : Nat → ClassId) (a : Nat) (g : Nat → Nat) (b : Nat) (g2 : Nat → Nat) (o : Nat) (B : Nat → Nat) (Y : (Nat → ClassId) × (Nat → Nat → Nat) × Nat × Nat × (Nat → Int32)) (xs : Nat → Int32) (len : Nat) : creOK (adr a g b g2 o B, ty, Y) (S0 xs len) (cre ty a g b g2 o) 65 := rfl
set_option maxRecDepth 100000 in
theorem cre66 (ty : Nat → ClassId) (a : Nat) (g : Nat → Nat) (b : Nat) (g2 : Nat → Nat) (o : Nat) (B : Nat → Nat) (Y : (Nat → ClassId) × (Nat → Nat → Nat) × Nat × Nat × (Nat → Int32)) (xs : Nat → Int32) (len : Nat) : creOK (adr a g b g2 o B, ty, Y) (S0 xs len) (cre ty a g b g2 o) 66 := rfl
set_option maxRecDepth 100000 in
theorem cre67 (ty : Nat → ClassId) (a : Nat) (g : Nat → Nat) (b : Nat) (g2 : Nat → Nat) (o : Nat) (B : Nat → Nat) (Y : (Nat → ClassId) × (Nat → Nat → Nat) × Nat × Nat × (Nat → Int32)) (xs : Nat → Int32) (len : Nat) : creOK (adr a g b g2 o B, ty, Y) (S0 xs len) (cre ty a g b g2 o) 67 := rfl
set_option maxRecDepth 100000 in
theorem cre68 (ty : Nat → ClassId) (a : Nat) (g : Nat → Nat) (b : Nat) (g2 : Nat → Nat) (o : Nat) (B : Nat → Nat) (Y : (Nat → ClassId) × (Nat → Nat → Nat) × Nat × Nat × (Nat → Int32)) (xs : Nat → Int32) (len : Nat) : creOK (adr a g b g2 o B, ty, Y) (S0 xs len) (cre ty a g b g2 o) 68 := rfl
set_option maxRecDepth 100000 in
theorem cre69 (ty : Nat → ClassId) (a : Nat) (g : Nat → Nat) (b : Nat) (g2 : Nat → Nat) (o : Nat) (B : Nat → Nat) (Y : (Nat → ClassId) × (Nat → Nat → Nat) × Nat × Nat × (Nat → Int32)) (xs : Nat → Int32) (len : Nat) : creOK (adr a g b g2 o B, ty, Y) (S0 xs len) (cre ty a g b g2 o) 69 := rfl
set_option maxRecDepth 100000 in
theorem cre70 (ty : Nat → ClassId) (a : Nat) (g : Nat → Nat) (b : Nat) (g2 : Nat → Nat) (o : Nat) (B : Nat → Nat) (Y : (Nat → ClassId) × (Nat → Nat → Nat) × Nat × Nat × (Nat → Int32)) (xs : Nat → Int32) (len : Nat) : creOK (adr a g b g2 o B, ty, Y) (S0 xs len) (cre ty a g b g2 o) 70 := rfl
set_option maxRecDepth 100000 in
theorem cre71 (ty : Nat → ClassId) (a : Nat) (g : Nat → Nat) (b : Nat) (g2 : Nat → Nat) (o : Nat) (B : Nat → Nat) (Y : (Nat → ClassId) × (Nat → Nat → Nat) × Nat × Nat × (Nat → Int32)) (xs : Nat → Int32) (len : Nat) : creOK (adr a g b g2 o B, ty, Y) (S0 xs len) (cre ty a g b g2 o) 71 := rfl
set_option maxRecDepth 100000 in
theorem cre72 (ty : Nat → ClassId) (a : Nat) (g : Nat → Nat) (b : Nat) (g2 : Nat → Nat) (o : Nat) (B : Nat → Nat) (Y : (Nat → ClassId) × (Nat → Nat → Nat) × Nat × Nat × (Nat → Int32)) (xs : Nat → Int32) (len : Nat) : creOK (adr a g b g2 o B, ty, Y) (S0 xs len) (cre ty a g b g2 o) 72 := rfl
set_option maxRecDepth 100000 in
theorem cre73 (ty : Nat → ClassId) (a : Nat) (g : Nat → Nat) (b : Nat) (g2 : Nat → Nat) (o : Nat) (B : Nat → Nat) (Y : (Nat → ClassId) × (Nat → Nat → Nat) × Nat × Nat × (Nat → Int32)) (xs : Nat → Int32) (len : Nat) : creOK (adr a g b g2 o B, ty, Y) (S0 xs len) (cre ty a g b g2 o) 73 := rfl
set_option maxRecDepth 100000 in
theorem cre74 (ty : Nat → ClassId) (a : Nat) (g : Nat → Nat) (b : Nat) (g2 : Nat → Nat) (o : Nat) (B : Nat → Nat) (Y : (Nat → ClassId) × (Nat → Nat → Nat) × Nat × Nat × (Nat → Int32)) (xs : Nat → Int32) (len : Nat) : creOK (adr a g b g2 o B, ty, Y) (S0 xs len) (cre ty a g b g2 o) 74 := rfl
set_option maxRecDepth 100000 in
theorem cre75 (ty : Nat → ClassId) (a : Nat) (g : Nat → Nat) (b : Nat) (g2 : Nat → Nat) (o : Nat) (B : Nat → Nat) (Y : (Nat → ClassId) × (Nat → Nat → Nat) × Nat × Nat × (Nat → Int32)) (xs : Nat → Int32) (len : Nat) : creOK (adr a g b g2 o B, ty, Y) (S0 xs len) (cre ty a g b g2 o) 75 := rfl
set_option maxRecDepth 100000 in
theorem cre76 (ty : Nat → ClassId) (a : Nat) (g : Nat → Nat) (b : Nat) (g2 : Nat → Nat) (o : Nat) (B : Nat → Nat) (Y : (Nat → ClassId) × (Nat → Nat → Nat) × Nat × Nat × (Nat → Int32)) (xs : Nat → Int32) (len : Nat) : creOK (adr a g b g2 o B, ty, Y) (S0 xs len) (cre ty a g b g2 o) 76 := rfl
set_option maxRecDepth 100000 in
theorem cre77 (ty : Nat → ClassId) (a : Nat) (g : Nat → Nat) (b : Nat) (g2 : Nat → Nat) (o : Nat) (B : Nat → Nat) (Y : (Nat → ClassId) × (Nat → Nat → Nat) × Nat × Nat × (Nat → Int32)) (xs : Nat → Int32) (len : Nat) : creOK (adr a g b g2 o B, ty, Y) (S0 xs len) (cre ty a g b g2 o) 77 := rfl
set_option maxRecDepth 100000 in
theorem cre78 (ty : Nat → ClassId) (a : Nat) (g : Nat → Nat) (b : Nat) (g2 : Nat → Nat) (o : Nat) (B : Nat → Nat) (Y : (Nat → ClassId) × (Nat → Nat → Nat) × Nat × Nat × (Nat → Int32)) (xs : Nat → Int32) (len : Nat) : creOK (adr a g b g2 o B, ty, Y) (S0 xs len) (cre ty a g b g2 o) 78 := rfl
set_option maxRecDepth 100000 in
theorem cre79 (ty : Nat → ClassId) (a : Nat) (g : Nat → Nat) (b : Nat) (g2 : Nat → Nat) (o : Nat) (B : Nat → Nat) (Y : (Nat → ClassId) × (Nat → Nat → Nat) × Nat × Nat × (Nat → Int32)) (xs : Nat → Int32) (len : Nat) : creOK (adr a g b g2 o B, ty, Y) (S0 xs len) (cre ty a g b g2 o) 79 := rfl
set_option maxRecDepth 100000 in
theorem cre80 (ty : Nat → ClassId) (a : Nat) (g : Nat → Nat) (b : Nat) (g2 : Nat → Nat) (o : Nat) (B : Nat → Nat) (Y : (Nat → ClassId) × (Nat → Nat → Nat) × Nat × Nat × (Nat → Int32)) (xs : Nat → Int32) (len : Nat) : creOK (adr a g b g2 o B, ty, Y) (S0 xs len) (cre ty a g b g2 o) 80 := rfl
set_option maxRecDepth 100000 in
theorem cre81 (ty : Nat → ClassId) (a : Nat) (g : Nat → Nat) (b : Nat) (g2 : Nat → Nat) (o : Nat) (B : Nat → Nat) (Y : (Nat → ClassId) × (Nat → Nat → Nat) × Nat × Nat × (Nat → Int32)) (xs : Nat → Int32) (len : Nat) : creOK (adr a g b g2 o B, ty, Y) (S0 xs len) (cre ty a g b g2 o) 81 := rfl
set_option maxRecDepth 100000 in
theorem cre82 (ty : Nat → ClassId) (a : Nat) (g : Nat → Nat) (b : Nat) (g2 : Nat → Nat) (o : Nat) (B : Nat → Nat) (Y : (Nat → ClassId) × (Nat → Nat → Nat) × Nat × Nat × (Nat → Int32)) (xs : Nat → Int32) (len : Nat) : creOK (adr a g b g2 o B, ty, Y) (S0 xs len) (cre ty a g b g2 o) 82 := rfl
set_option maxRecDepth 100000 in
theorem cre83 (ty : Nat → ClassId) (a : Nat) (g : Nat → Nat) (b : Nat) (g2 : Nat → Nat) (o : Nat) (B : Nat → Nat) (Y : (Nat → ClassId) × (Nat → Nat → Nat) × Nat × Nat × (Nat → Int32)) (xs : Nat → Int32) (len : Nat) : creOK (adr a g b g2 o B, ty, Y) (S0 xs len) (cre ty a g b g2 o) 83 := rfl
set_option maxRecDepth 100000 in
theorem cre84 (ty : Nat → ClassId) (a : Nat) (g : Nat → Nat) (b : Nat) (g2 : Nat → Nat) (o : Nat) (B : Nat → Nat) (Y : (Nat → ClassId) × (Nat → Nat → Nat) × Nat × Nat × (Nat → Int32)) (xs : Nat → Int32) (len : Nat) : creOK (adr a g b g2 o B, ty, Y) (S0 xs len) (cre ty a g b g2 o) 84 := rfl
set_option maxRecDepth 100000 in
theorem cre85 (ty : Nat → ClassId) (a : Nat) (g : Nat → Nat) (b : Nat) (g2 : Nat → Nat) (o : Nat) (B : Nat → Nat) (Y : (Nat → ClassId) × (Nat → Nat → Nat) × Nat × Nat × (Nat → Int32)) (xs : Nat → Int32) (len : Nat) : creOK (adr a g b g2 o B, ty, Y) (S0 xs len) (cre ty a g b g2 o) 85 := rfl
set_option maxRecDepth 100000 in
theorem cre86 (ty : Nat → ClassId) (a : Nat) (g : Nat → Nat) (b : Nat) (g2 : Nat → Nat) (o : Nat) (B : Nat → Nat) (Y : (Nat → ClassId) × (Nat → Nat → Nat) × Nat × Nat × (Nat → Int32)) (xs : Nat → Int32) (len : Nat) : creOK (adr a g b g2 o B, ty, Y) (S0 xs len) (cre ty a g b g2 o) 86 := rfl
set_option maxRecDepth 100000 in
theorem cre87 (ty : Nat → ClassId) (a : Nat) (g : Nat → Nat) (b : Nat) (g2 : Nat → Nat) (o : Nat) (B : Nat → Nat) (Y : (Nat → ClassId) × (Nat → Nat → Nat) × Nat × Nat × (Nat → Int32)) (xs : Nat → Int32) (len : Nat) : creOK (adr a g b g2 o B, ty, Y) (S0 xs len) (cre ty a g b g2 o) 87 := rfl
set_option maxRecDepth 100000 in
theorem cre88 (ty : Nat → ClassId) (a : Nat) (g : Nat → Nat) (b : Nat) (g2 : Nat → Nat) (o : Nat) (B : Nat → Nat) (Y : (Nat → ClassId) × (Nat → Nat → Nat) × Nat × Nat × (Nat → Int32)) (xs : Nat → Int32) (len : Nat) : creOK (adr a g b g2 o B, ty, Y) (S0 xs len) (cre ty a g b g2 o) 88 := rfl
set_option maxRecDepth 100000 in
theorem cre89 (ty : Nat → ClassId) (a : Nat) (g : Nat → Nat) (b : Nat) (g2 : Nat → Nat) (o : Nat) (B : Nat → Nat) (Y : (Nat → ClassId) × (Nat → Nat → Nat) × Nat × Nat × (Nat → Int32)) (xs : Nat → Int32) (len : Nat) : creOK (adr a g b g2 o B, ty, Y) (S0 xs len) (cre ty a g b g2 o) 89 := rfl
set_option maxRecDepth 100000 in
theorem cre90 (ty : Nat → ClassId) (a : Nat) (g : Nat → Nat) (b : Nat) (g2 : Nat → Nat) (o : Nat) (B : Nat → Nat) (Y : (Nat → ClassId) × (Nat → Nat → Nat) × Nat × Nat × (Nat → Int32)) (xs : Nat → Int32) (len : Nat) : creOK (adr a g b g2 o B, ty, Y) (S0 xs len) (cre ty a g b g2 o) 90 := rfl
set_option maxRecDepth 100000 in
theorem cre91 (ty : Nat → ClassId) (a : Nat) (g : Nat → Nat) (b : Nat) (g2 : Nat → Nat) (o : Nat) (B : Nat → Nat) (Y : (Nat → ClassId) × (Nat → Nat → Nat) × Nat × Nat × (Nat → Int32)) (xs : Nat → Int32) (len : Nat) : creOK (adr a g b g2 o B, ty, Y) (S0 xs len) (cre ty a g b g2 o) 91 := rfl
set_option maxRecDepth 100000 in
theorem cre92 (ty : Nat → ClassId) (a : Nat) (g : Nat → Nat) (b : Nat) (g2 : Nat → Nat) (o : Nat) (B : Nat → Nat) (Y : (Nat → ClassId) × (Nat → Nat → Nat) × Nat × Nat × (Nat → Int32)) (xs : Nat → Int32) (len : Nat) : creOK (adr a g b g2 o B, ty, Y) (S0 xs len) (cre ty a g b g2 o) 92 := rfl
set_option maxRecDepth 100000 in
theorem cre93 (ty : Nat → ClassId) (a : Nat) (g : Nat → Nat) (b : Nat) (g2 : Nat → Nat) (o : Nat) (B : Nat → Nat) (Y : (Nat → ClassId) × (Nat → Nat → Nat) × Nat × Nat × (Nat → Int32)) (xs : Nat → Int32) (len : Nat) : creOK (adr a g b g2 o B, ty, Y) (S0 xs len) (cre ty a g b g2 o) 93 := rfl
set_option maxRecDepth 100000 in
theorem cre94 (ty : Nat → ClassId) (a : Nat) (g : Nat → Nat) (b : Nat) (g2 : Nat → Nat) (o : Nat) (B : Nat → Nat) (Y : (Nat → ClassId) × (Nat → Nat → Nat) × Nat × Nat × (Nat → Int32)) (xs : Nat → Int32) (len : Nat) : creOK (adr a g b g2 o B, ty, Y) (S0 xs len) (cre ty a g b g2 o) 94 := rfl
set_option maxRecDepth 100000 in
theorem cre95 (ty : Nat → ClassId) (a : Nat) (g : Nat → Nat) (b : Nat) (g2 : Nat → Nat) (o : Nat) (B : Nat → Nat) (Y : (Nat → ClassId) × (Nat → Nat → Nat) × Nat × Nat × (Nat → Int32)) (xs : Nat → Int32) (len : Nat) : creOK (adr a g b g2 o B, ty, Y) (S0 xs len) (cre ty a g b g2 o) 95 := rfl
set_option maxRecDepth 100000 in
theorem cre96 (ty : Nat → ClassId) (a : Nat) (g : Nat → Nat) (b : Nat) (g2 : Nat → Nat) (o : Nat) (B : Nat → Nat) (Y : (Nat → ClassId) × (Nat → Nat → Nat) × Nat × Nat × (Nat → Int32)) (xs : Nat → Int32) (len : Nat) : creOK (adr a g b g2 o B, ty, Y) (S0 xs len) (cre ty a g b g2 o) 96 := rfl
set_option maxRecDepth 100000 in
theorem cre97 (ty : Nat → ClassId) (a : Nat) (g : Nat → Nat) (b : Nat) (g2 : Nat → Nat) (o : Nat) (B : Nat → Nat) (Y : (Nat → ClassId) × (Nat → Nat → Nat) × Nat × Nat × (Nat → Int32)) (xs : Nat → Int32) (len : Nat) : creOK (adr a g b g2 o B, ty, Y) (S0 xs len) (cre ty a g b g2 o) 97 := rfl
set_option maxRecDepth 100000 in
theorem cre98 (ty : Nat → ClassId) (a : Nat) (g : Nat → Nat) (b : Nat) (g2 : Nat → Nat) (o : Nat) (B : Nat → Nat) (Y : (Nat → ClassId) × (Nat → Nat → Nat) × Nat × Nat × (Nat → Int32)) (xs : Nat → Int32) (len : Nat) : creOK (adr a g b g2 o B, ty, Y) (S0 xs len) (cre ty a g b g2 o) 98 := rfl
set_option maxRecDepth 100000 in
theorem cre99 (ty : Nat → ClassId) (a : Nat) (g : Nat → Nat) (b : Nat) (g2 : Nat → Nat) (o : Nat) (B : Nat → Nat) (Y : (Nat → ClassId) × (Nat → Nat → Nat) × Nat × Nat × (Nat → Int32)) (xs : Nat → Int32) (len : Nat) : creOK (adr a g b g2 o B, ty, Y) (S0 xs len) (cre ty a g b g2 o) 99 := rfl
set_option maxRecDepth 100000 in
theorem cre100 (ty : Nat → ClassId) (a : Nat) (g : Nat → Nat) (b : Nat) (g2 : Nat → Nat) (o : Nat) (B : Nat → Nat) (Y : (Nat → ClassId) × (Nat → Nat → Nat) × Nat × Nat × (Nat → Int32)) (xs : Nat → Int32) (len : Nat) : creOK (adr a g b g2 o B, ty, Y) (S0 xs len) (cre ty a g b g2 o) 100 := rfl
set_option maxRecDepth 100000 in
theorem cre101 (ty : Nat → ClassId) (a : Nat) (g : Nat → Nat) (b : Nat) (g2 : Nat → Nat) (o : Nat) (B : Nat → Nat) (Y : (Nat → ClassId) × (Nat → Nat → Nat) × Nat × Nat × (Nat → Int32)) (xs : Nat → Int32) (len : Nat) : creOK (adr a g b g2 o B, ty, Y) (S0 xs len) (cre ty a g b g2 o) 101 := rfl
set_option maxRecDepth 100000 in
theorem cre102 (ty : Nat → ClassId) (a : Nat) (g : Nat → Nat) (b : Nat) (g2 : Nat → Nat) (o : Nat) (B : Nat → Nat) (Y : (Nat → ClassId) × (Nat → Nat → Nat) × Nat × Nat × (Nat → Int32)) (xs : Nat → Int32) (len : Nat) : creOK (adr a g b g2 o B, ty, Y) (S0 xs len) (cre ty a g b g2 o) 102 := rfl
set_option maxRecDepth 100000 in
theorem cre103 (ty : Nat → ClassId) (a : Nat) (g : Nat → Nat) (b : Nat) (g2 : Nat → Nat) (o : Nat) (B : Nat → Nat) (Y : (Nat → ClassId) × (Nat → Nat → Nat) × Nat × Nat × (Nat → Int32)) (xs : Nat → Int32) (len : Nat) : creOK (adr a g b g2 o B, ty, Y) (S0 xs len) (cre ty a g b g2 o) 103 := rfl
set_option maxRecDepth 100000 in
theorem cre104 (ty : Nat → ClassId) (a : Nat) (g : Nat → Nat) (b : Nat) (g2 : Nat → Nat) (o : Nat) (B : Nat → Nat) (Y : (Nat → ClassId) × (Nat → Nat → Nat) × Nat × Nat × (Nat → Int32)) (xs : Nat → Int32) (len : Nat) : creOK (adr a g b g2 o B, ty, Y) (S0 xs len) (cre ty a g b g2 o) 104 := rfl
set_option maxRecDepth 100000 in
theorem cre105 (ty : Nat → ClassId) (a : Nat) (g : Nat → Nat) (b : Nat) (g2 : Nat → Nat) (o : Nat) (B : Nat → Nat) (Y : (Nat → ClassId) × (Nat → Nat → Nat) × Nat × Nat × (Nat → Int32)) (xs : Nat → Int32) (len : Nat) : creOK (adr a g b g2 o B, ty, Y) (S0 xs len) (cre ty a g b g2 o) 105 := rfl
set_option maxRecDepth 100000 in
theorem cre106 (ty : Nat → ClassId) (a : Nat) (g : Nat → Nat) (b : Nat) (g2 : Nat → Nat) (o : Nat) (B : Nat → Nat) (Y : (Nat → ClassId) × (Nat → Nat → Nat) × Nat × Nat × (Nat → Int32)) (xs : Nat → Int32) (len : Nat) : creOK (adr a g b g2 o B, ty, Y) (S0 xs len) (cre ty a g b g2 o) 106 := rfl
set_option maxRecDepth 100000 in
theorem cre107 (ty : Nat → ClassId) (a : Nat) (g : Nat → Nat) (b : Nat) (g2 : Nat → Nat) (o : Nat) (B : Nat → Nat) (Y : (Nat → ClassId) × (Nat → Nat → Nat) × Nat × Nat × (Nat → Int32)) (xs : Nat → Int32) (len : Nat) : creOK (adr a g b g2 o B, ty, Y) (S0 xs len) (cre ty a g b g2 o) 107 := rfl
set_option maxRecDepth 100000 in
theorem cre108 (ty : Nat → ClassId) (a : Nat) (g : Nat → Nat) (b : Nat) (g2 : Nat → Nat) (o : Nat) (B : Nat → Nat) (Y : (Nat → ClassId) × (Nat → Nat → Nat) × Nat × Nat × (Nat → Int32)) (xs : Nat → Int32) (len : Nat) : creOK (adr a g b g2 o B, ty, Y) (S0 xs len) (cre ty a g b g2 o) 108 := rfl
set_option maxRecDepth 100000 in
theorem cre109 (ty : Nat → ClassId) (a : Nat) (g : Nat → Nat) (b : Nat) (g2 : Nat → Nat) (o : Nat) (B : Nat → Nat) (Y : (Nat → ClassId) × (Nat → Nat → Nat) × Nat × Nat × (Nat → Int32)) (xs : Nat → Int32) (len : Nat) : creOK (adr a g b g2 o B, ty, Y) (S0 xs len) (cre ty a g b g2 o) 109 := rfl
set_option maxRecDepth 100000 in
theorem cre110 (ty : Nat → ClassId) (a : Nat) (g : Nat → Nat) (b : Nat) (g2 : Nat → Nat) (o : Nat) (B : Nat → Nat) (Y : (Nat → ClassId) × (Nat → Nat → Nat) × Nat × Nat × (Nat → Int32)) (xs : Nat → Int32) (len : Nat) : creOK (adr a g b g2 o B, ty, Y) (S0 xs len) (cre ty a g b g2 o) 110 := rfl
set_option maxRecDepth 100000 in
theorem cre111 (ty : Nat → ClassId) (a : Nat) (g : Nat → Nat) (b : Nat) (g2 : Nat → Nat) (o : Nat) (B : Nat → Nat) (Y : (Nat → ClassId) × (Nat → Nat → Nat) × Nat × Nat × (Nat → Int32)) (xs : Nat → Int32) (len : Nat) : creOK (adr a g b g2 o B, ty, Y) (S0 xs len) (cre ty a g b g2 o) 111 := rfl
theorem cre_all (ty : Nat → ClassId) (a : Nat) (g : Nat → Nat) (b : Nat) (g2 : Nat → Nat) (o : Nat) (B : Nat → Nat) (Y : (Nat → ClassId) × (Nat → Nat → Nat) × Nat × Nat × (Nat → Int32)) (xs : Nat → Int32) (len : Nat) : ∀ k, k < 112 → creOK (adr a g b g2 o B, ty, Y) (S0 xs len) (cre ty a g b g2 o) k := fun k hk => match k, hk with
  | 0, _ => cre0 ty a g b g2 o B Y xs len
  | 1, _ => cre1 ty a g b g2 o B Y xs len
  | 2, _ => cre2 ty a g b g2 o B Y xs len
  | 3, _ => cre3 ty a g b g2 o B Y xs len
  | 4, _ => cre4 ty a g b g2 o B Y xs len
  | 5, _ => cre5 ty a g b g2 o B Y xs len
  | 6, _ => cre6 ty a g b g2 o B Y xs len
  | 7, _ => cre7 ty a g b g2 o B Y xs len
  | 8, _ => cre8 ty a g b g2 o B Y xs len
  | 9, _ => cre9 ty a g b g2 o B Y xs len
  | 10, _ => cre10 ty a g b g2 o B Y xs len
  | 11, _ => cre11 ty a g b g2 o B Y xs len
  | 12, _ => cre12 ty a g b g2 o B Y xs len
  | 13, _ => cre13 ty a g b g2 o B Y xs len
  | 14, _ => cre14 ty a g b g2 o B Y xs len
  | 15, _ => cre15 ty a g b g2 o B Y xs len
  | 16, _ => cre16 ty a g b g2 o B Y xs len
  | 17, _ => cre17 ty a g b g2 o B Y xs len
  | 18, _ => cre18 ty a g b g2 o B Y xs len
  | 19, _ => cre19 ty a g b g2 o B Y xs len
  | 20, _ => cre20 ty a g b g2 o B Y xs len
  | 21, _ => cre21 ty a g b g2 o B Y xs len
  | 22, _ => cre22 ty a g b g2 o B Y xs len
  | 23, _ => cre23 ty a g b g2 o B Y xs len
  | 24, _ => cre24 ty a g b g2 o B Y xs len
  | 25, _ => cre25 ty a g b g2 o B Y xs len
  | 26, _ => cre26 ty a g b g2 o B Y xs len
  | 27, _ => cre27 ty a g b g2 o B Y xs len
  | 28, _ => cre28 ty a g b g2 o B Y xs len
  | 29, _ => cre29 ty a g b g2 o B Y xs len
  | 30, _ => cre30 ty a g b g2 o B Y xs len
  | 31, _ => cre31 ty a g b g2 o B Y xs len
  | 32, _ => cre32 ty a g b g2 o B Y xs len
  | 33, _ => cre33 ty a g b g2 o B Y xs len
  | 34, _ => cre34 ty a g b g2 o B Y xs len
  | 35, _ => cre35 ty a g b g2 o B Y xs len
  | 36, _ => cre36 ty a g b g2 o B Y xs len
  | 37, _ => cre37 ty a g b g2 o B Y xs len
  | 38, _ => cre38 ty a g b g2 o B Y xs len
  | 39, _ => cre39 ty a g b g2 o B Y xs len
  | 40, _ => cre40 ty a g b g2 o B Y xs len
  | 41, _ => cre41 ty a g b g2 o B Y xs len
  | 42, _ => cre42 ty a g b g2 o B Y xs len
  | 43, _ => cre43 ty a g b g2 o B Y xs len
  | 44, _ => cre44 ty a g b g2 o B Y xs len
  | 45, _ => cre45 ty a g b g2 o B Y xs len
  | 46, _ => cre46 ty a g b g2 o B Y xs len
  | 47, _ => cre47 ty a g b g2 o B Y xs len
  | 48, _ => cre48 ty a g b g2 o B Y xs len
  | 49, _ => cre49 ty a g b g2 o B Y xs len
  | 50, _ => cre50 ty a g b g2 o B Y xs len
  | 51, _ => cre51 ty a g b g2 o B Y xs len
  | 52, _ => cre52 ty a g b g2 o B Y xs len
  | 53, _ => cre53 ty a g b g2 o B Y xs len
  | 54, _ => cre54 ty a g b g2 o B Y xs len
  | 55, _ => cre55 ty a g b g2 o B Y xs len
  | 56, _ => cre56 ty a g b g2 o B Y xs len
  | 57, _ => cre57 ty a g b g2 o B Y xs len
  | 58, _ => cre58 ty a g b g2 o B Y xs len
  | 59, _ => cre59 ty a g b g2 o B Y xs len
  | 60, _ => cre60 ty a g b g2 o B Y xs len
  | 61, _ => cre61 ty a g b g2 o B Y xs len
  | 62, _ => cre62 ty a g b g2 o B Y xs len
  | 63, _ => cre63 ty a g b g2 o B Y xs len
  | 64, _ => cre64 ty a g b g2 o B Y xs len
  | 65, _ => cre65 ty a g b g2 o B Y xs len
  | 66, _ => cre66 ty a g b g2 o B Y xs len
  | 67, _ => cre67 ty a g b g2 o B Y xs len
  | 68, _ => cre68 ty a g b g2 o B Y xs len
  | 69, _ => cre69 ty a g b g2 o B Y xs len
  | 70, _ => cre70 ty a g b g2 o B Y xs len
  | 71, _ => cre71 ty a g b g2 o B Y xs len
  | 72, _ => cre72 ty a g b g2 o B Y xs len
  | 73, _ => cre73 ty a g b g2 o B Y xs len
  | 74, _ => cre74 ty a g b g2 o B Y xs len
  | 75, _ => cre75 ty a g b g2 o B Y xs len
  | 76, _ => cre76 ty a g b g2 o B Y xs len
  | 77, _ => cre77 ty a g b g2 o B Y xs len
  | 78, _ => cre78 ty a g b g2 o B Y xs len
  | 79, _ => cre79 ty a g b g2 o B Y xs len
  | 80, _ => cre80 ty a g b g2 o B Y xs len
  | 81, _ => cre81 ty a g b g2 o B Y xs len
  | 82, _ => cre82 ty a g b g2 o B Y xs len
  | 83, _ => cre83 ty a g b g2 o B Y xs len
  | 84, _ => cre84 ty a g b g2 o B Y xs len
  | 85, _ => cre85 ty a g b g2 o B Y xs len
  | 86, _ => cre86 ty a g b g2 o B Y xs len
  | 87, _ => cre87 ty a g b g2 o B Y xs len
  | 88, _ => cre88 ty a g b g2 o B Y xs len
  | 89, _ => cre89 ty a g b g2 o B Y xs len
  | 90, _ => cre90 ty a g b g2 o B Y xs len
  | 91, _ => cre91 ty a g b g2 o B Y xs len
  | 92, _ => cre92 ty a g b g2 o B Y xs len
  | 93, _ => cre93 ty a g b g2 o B Y xs len
  | 94, _ => cre94 ty a g b g2 o B Y xs len
  | 95, _ => cre95 ty a g b g2 o B Y xs len
  | 96, _ => cre96 ty a g b g2 o B Y xs len
  | 97, _ => cre97 ty a g b g2 o B Y xs len
  | 98, _ => cre98 ty a g b g2 o B Y xs len
  | 99, _ => cre99 ty a g b g2 o B Y xs len
  | 100, _ => cre100 ty a g b g2 o B Y xs len
  | 101, _ => cre101 ty a g b g2 o B Y xs len
  | 102, _ => cre102 ty a g b g2 o B Y xs len
  | 103, _ => cre103 ty a g b g2 o B Y xs len
  | 104, _ => cre104 ty a g b g2 o B Y xs len
  | 105, _ => cre105 ty a g b g2 o B Y xs len
  | 106, _ => cre106 ty a g b g2 o B Y xs len
  | 107, _ => cre107 ty a g b g2 o B Y xs len
  | 108, _ => cre108 ty a g b g2 o B Y xs len
  | 109, _ => cre109 ty a g b g2 o B Y xs len
  | 110, _ => cre110 ty a g b g2 o B Y xs len
  | 111, _ => cre111 ty a g b g2 o B Y xs len
  | (k + 112), h => absurd h (by omega)
/-- the world in the cells' numbers -/
theorem start_P {ty : Nat → ClassId} {a : Nat} {g : Nat → Nat} {b : Nat} {g2 : Nat → Nat} {o : Nat} {B : Nat → Nat} {Y : (Nat → ClassId) × (Nat → Nat → Nat) × Nat × Nat × (Nat → Int32)} {xs : Nat → Int32} {len : Nat} {H : Heap} (h : va_P (Y.1, Y.2.1) vwCl (cre ty a g b g2 o) H) : va_P (gD (adr a g b g2 o B, ty, Y)) vwCl (wl (adr a g b g2 o B, ty, Y) (S0 xs len)) H := by
  intro k q hk
  obtain ⟨hlt, rfl⟩ := wl_inv hk
  exact h _ _ (cre_all ty a g b g2 o B Y xs len k hlt)
theorem pos_inj : ∀ i, i < 112 → posI.getD (pos.getD i 0) 0 = i := by decide +kernel
theorem start_inj {ty : Nat → ClassId} {a : Nat} {g : Nat → Nat} {b : Nat} {g2 : Nat → Nat} {o : Nat} {B : Nat → Nat} {A : Nat → Prop} (h : va_D A (cre ty a g b g2 o)) : ∀ i j, i < nC → j < nC → adr a g b g2 o B i = adr a g b g2 o B j → i = j := by
  intro i j hi hj hij
  have e1 := cre_all ty a g b g2 o B (fun _ => ty 0, fun _ _ => 0, 0, 0, fun _ => 0) (fun _ => 0) 0 i hi
  have e2 := cre_all ty a g b g2 o B (fun _ => ty 0, fun _ _ => 0, 0, 0, fun _ => 0) (fun _ => 0) 0 j hj
  have e3 := h.1 _ _ _ _ e1 e2 hij
  rw [← pos_inj i hi, ← pos_inj j hj, e3]
theorem start_in {ty : Nat → ClassId} {a : Nat} {g : Nat → Nat} {b : Nat} {g2 : Nat → Nat} {o : Nat} {B : Nat → Nat} {base : Nat} (h : va_D (kA base) (cre ty a g b g2 o)) : ∀ i, i < nC → base ≤ adr a g b g2 o B i := by
  intro i hi
  exact h.2 _ _ (cre_all ty a g b g2 o B (fun _ => ty 0, fun _ _ => 0, 0, 0, fun _ => 0) (fun _ => 0) 0 i hi)
