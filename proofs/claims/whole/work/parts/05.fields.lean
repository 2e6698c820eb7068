def pg_isX0 (Λ : pg_L) : Prop := Λ (161) = some (.inl (0, [.inr (162), .inr (163)])) ∧ Λ (162) = some (.inr (.long, 100, some none)) ∧ Λ (163) = some (.inr (.long, 100, some none))
def pg_isX1 (Λ : pg_L) (a : Nat) : Prop := Λ (a) = some (.inl (1, [.inr (a + 1), .inr (a + 2), .inr (a + 3), .inl 0, .inl 0, .inl 0])) ∧ Λ (a + 1) = some (.inr (.int, 30, none)) ∧ Λ (a + 2) = some (.inr (.int, 30, none)) ∧ Λ (a + 3) = some (.inr (.int, 30, none))
def pg_isX2 (Λ : pg_L) (a : Nat) : Prop := Λ (a) = some (.inl (2, [.inr (a + 1), .inr (a + 2), .inr (a + 3), .inr (a + 4), .inr (a + 5), .inl 0])) ∧ Λ (a + 1) = some (.inr (.int, 8, none)) ∧ Λ (a + 2) = some (.inr (.int, 8, none)) ∧ Λ (a + 3) = some (.inr (.int, 8, none)) ∧ Λ (a + 4) = some (.inr (.int, 12, none)) ∧ Λ (a + 5) = some (.inr (.int, 10, none))
def pg_isX3 (Λ : pg_L) : Prop := Λ (153) = some (.inl (3, [.inr (154), .inr (155), .inr (156), .inr (157), .inr (158), .inr (159), .inr (160), .inl 0, .inl 0, .inl 0])) ∧ Λ (154) = some (.inr (.int, 420, none)) ∧ Λ (155) = some (.inr (.int, 6, none)) ∧ Λ (156) = some (.inr (.int, 64, none)) ∧ Λ (157) = some (.inr (.int, 64, none)) ∧ Λ (158) = some (.inr (.boolean, 64, none)) ∧ Λ (159) = some (.inr (.long, 256, some none)) ∧ Λ (160) = some (.inr (.int, 6, none))
def pg_isX4 (Λ : pg_L) : Prop := Λ (164) = some (.inl (4, [.inr (165), .inr (166), .inr (167), .inr (168), .inl 0, .inl 0])) ∧ Λ (165) = some (.inr (.int, 6, none)) ∧ Λ (166) = some (.inr (.int, 36, none)) ∧ Λ (167) = some (.inr (.int, 64, none)) ∧ Λ (168) = some (.inr (.int, 6, none))
def pg_isX5 (Λ : pg_L) (a : Nat) : Prop := Λ (a) = some (.inl (5, [.inr (a + 1), .inr (a + 2), .inr (a + 3), .inr (a + 4), .inr (a + 5), .inr (a + 6), .inr (a + 7), .inr (a + 8), .inr (a + 9), .inr (a + 12), .inl 0, .inl 0, .inl 0, .inl 0, .inl 0, .inl 0])) ∧ Λ (a + 1) = some (.inr (.long, 6, some none)) ∧ Λ (a + 2) = some (.inr (.int, 6, none)) ∧ Λ (a + 3) = some (.inr (.int, 6, none)) ∧ Λ (a + 4) = some (.inr (.int, 6, none)) ∧ Λ (a + 5) = some (.inr (.int, 6, none)) ∧ Λ (a + 6) = some (.inr (.int, 6, none)) ∧ Λ (a + 7) = some (.inr (.int, 8, none)) ∧ Λ (a + 8) = some (.inr (.int, 12, none)) ∧ Λ (a + 9) = some (.inl (8, [.inr (a + 10), .inr (a + 11), .inl 0])) ∧ Λ (a + 10) = some (.inr (.int, 1000, none)) ∧ Λ (a + 11) = some (.inr (.int, 32, none)) ∧ Λ (a + 12) = some (.inl (8, [.inr (a + 13), .inr (a + 14), .inl 0])) ∧ Λ (a + 13) = some (.inr (.int, 1000, none)) ∧ Λ (a + 14) = some (.inr (.int, 32, none))
def pg_isX6 (Λ : pg_L) : Prop := Λ (19) = some (.inl (6, [.inr (20), .inr (21), .inr (22), .inr (23), .inl 0, .inl 0])) ∧ Λ (20) = some (.inr (.object "PegLaws$State", 17, some (some (fun j => 24 + 5 * j)))) ∧ Λ (21) = some (.inr (.object "PegLaws$State", 4, some (some (fun j => 109 + 11 * j)))) ∧ Λ (22) = some (.inr (.object "PegLaws$Felt", 4, some (some (fun j => 114 + 11 * j)))) ∧ Λ (23) = some (.inr (.boolean, 4, none))
def pg_isX7 (Λ : pg_L) : Prop := Λ (1) = some (.inl (7, [.inr (2), .inl 0, .inl 0, .inl 0, .inl 0, .inl 0, .inl 1, .inl 0, .inl 0, .inl 0])) ∧ Λ (2) = some (.inr (.char, 1000, none))
def pg_isX8 (Λ : pg_L) (a : Nat) : Prop := Λ (a) = some (.inl (8, [.inr (a + 1), .inr (a + 2), .inl 0])) ∧ Λ (a + 1) = some (.inr (.int, 1000, none)) ∧ Λ (a + 2) = some (.inr (.int, 32, none))
def pg_isX9 (Λ : pg_L) (a : Nat) : Prop := Λ (a) = some (.inl (9, [.inr (a + 1), .inr (a + 2), .inr (a + 3), .inr (a + 4), .inl 0, .inl 0])) ∧ Λ (a + 1) = some (.inr (.int, 6, none)) ∧ Λ (a + 2) = some (.inr (.int, 6, none)) ∧ Λ (a + 3) = some (.inr (.int, 6, none)) ∧ Λ (a + 4) = some (.inr (.int, 8, none))
def pg_isX10 (Λ : pg_L) : Prop := Λ (0) = some (.inl (10, [.inr (1), .inr (3), .inr (8), .inr (13), .inr (19), .inr (153), .inr (161), .inr (164), .inl 2, .inl 2, .inl 2, .inl 2, .inl 1]))
def pg_isX11 (Λ : pg_L) : Prop := Λ (207) = some (.inl (11, [.inl 0, .inr (208), .inl 0, .inl 0, .inr (209), .inr (210), .inr (211), .inl 0, .inl 0, .inr (212), .inr (213), .inr (214), .inr (215), .inl 0, .inr (216), .inr (217), .inl 0, .inl 0, .inl 0, .inr (218), .inr (219), .inr (220), .inr (221), .inl 0, .inr (222), .inr (223), .inr (224), .inr (225), .inl 0, .inl 0, .inr (226), .inr (227), .inr (228), .inr (229), .inl 0, .inl 0, .inr (230), .inl 1])) ∧ Λ (208) = some (.inr (.int, 1000, none)) ∧ Λ (209) = some (.inr (.int, 1002, none)) ∧ Λ (210) = some (.inr (.int, 1002, none)) ∧ Λ (211) = some (.inr (.long, 1002, some none)) ∧ Λ (212) = some (.inr (.long, 26, some none)) ∧ Λ (213) = some (.inr (.int, 200, none)) ∧ Λ (214) = some (.inr (.int, 2200, none)) ∧ Λ (215) = some (.inr (.int, 2200, none)) ∧ Λ (216) = some (.inr (.long, 6, some none)) ∧ Λ (217) = some (.inr (.long, 6, some none)) ∧ Λ (218) = some (.inr (.int, 200, none)) ∧ Λ (219) = some (.inr (.int, 3, none)) ∧ Λ (220) = some (.inr (.int, 1100, none)) ∧ Λ (221) = some (.inr (.int, 1242, none)) ∧ Λ (222) = some (.inr (.boolean, 4, none)) ∧ Λ (223) = some (.inr (.int, 6, none)) ∧ Λ (224) = some (.inr (.int, 6, none)) ∧ Λ (225) = some (.inr (.int, 6, none)) ∧ Λ (226) = some (.inr (.int, 72, none)) ∧ Λ (227) = some (.inr (.int, 36, none)) ∧ Λ (228) = some (.inr (.int, 6, none)) ∧ Λ (229) = some (.inr (.int, 6, none)) ∧ Λ (230) = some (.inr (.int, 10, none))
theorem pg_isX5.r8 {Λ : pg_L} {a : Nat} (h : pg_isX5 Λ a) : pg_isX8 Λ (a + 9) := ⟨h.2.2.2.2.2.2.2.2.2.1, h.2.2.2.2.2.2.2.2.2.2.1, h.2.2.2.2.2.2.2.2.2.2.2.1⟩
theorem pg_isX5.r9 {Λ : pg_L} {a : Nat} (h : pg_isX5 Λ a) : pg_isX8 Λ (a + 12) := ⟨h.2.2.2.2.2.2.2.2.2.2.2.2.1, h.2.2.2.2.2.2.2.2.2.2.2.2.2.1, h.2.2.2.2.2.2.2.2.2.2.2.2.2.2⟩
def pg_full (Λ : pg_L) : Prop := pg_isX10 Λ ∧ pg_isX7 Λ ∧ pg_isX9 Λ 3 ∧ pg_isX9 Λ 8 ∧ pg_isX2 Λ 13 ∧ pg_isX6 Λ ∧ pg_isX3 Λ ∧ pg_isX0 Λ ∧ pg_isX4 Λ ∧ pg_isX5 Λ 169 ∧ pg_isX5 Λ 184 ∧ pg_isX1 Λ 199 ∧ pg_isX1 Λ 203 ∧ (∀ j, j < 17 → pg_isX9 Λ (24 + 5 * j)) ∧ (∀ j, j < 4 → pg_isX9 Λ (109 + 11 * j)) ∧ (∀ j, j < 4 → pg_isX2 Λ (114 + 11 * j))
theorem pg_full.x10 {Λ : pg_L} (h : pg_full Λ) : pg_isX10 Λ := h.1
theorem pg_full.x7 {Λ : pg_L} (h : pg_full Λ) : pg_isX7 Λ := h.2.1
theorem pg_full.now {Λ : pg_L} (h : pg_full Λ) : pg_isX9 Λ 3 := h.2.2.1
theorem pg_full.trial {Λ : pg_L} (h : pg_full Λ) : pg_isX9 Λ 8 := h.2.2.2.1
theorem pg_full.felt {Λ : pg_L} (h : pg_full Λ) : pg_isX2 Λ 13 := h.2.2.2.2.1
theorem pg_full.x6 {Λ : pg_L} (h : pg_full Λ) : pg_isX6 Λ := h.2.2.2.2.2.1
theorem pg_full.x3 {Λ : pg_L} (h : pg_full Λ) : pg_isX3 Λ := h.2.2.2.2.2.2.1
theorem pg_full.x0 {Λ : pg_L} (h : pg_full Λ) : pg_isX0 Λ := h.2.2.2.2.2.2.2.1
theorem pg_full.x4 {Λ : pg_L} (h : pg_full Λ) : pg_isX4 Λ := h.2.2.2.2.2.2.2.2.1
theorem pg_full.l0 {Λ : pg_L} (h : pg_full Λ) : pg_isX5 Λ 169 := h.2.2.2.2.2.2.2.2.2.1
theorem pg_full.l1 {Λ : pg_L} (h : pg_full Λ) : pg_isX5 Λ 184 := h.2.2.2.2.2.2.2.2.2.2.1
theorem pg_full.d0 {Λ : pg_L} (h : pg_full Λ) : pg_isX1 Λ 199 := h.2.2.2.2.2.2.2.2.2.2.2.1
theorem pg_full.d1 {Λ : pg_L} (h : pg_full Λ) : pg_isX1 Λ 203 := h.2.2.2.2.2.2.2.2.2.2.2.2.1
theorem pg_full.steps {Λ : pg_L} (h : pg_full Λ) : (∀ j, j < 17 → pg_isX9 Λ (24 + 5 * j)) := h.2.2.2.2.2.2.2.2.2.2.2.2.2.1
theorem pg_full.marks {Λ : pg_L} (h : pg_full Λ) : (∀ j, j < 4 → pg_isX9 Λ (109 + 11 * j)) := h.2.2.2.2.2.2.2.2.2.2.2.2.2.2.1
theorem pg_full.mfelts {Λ : pg_L} (h : pg_full Λ) : (∀ j, j < 4 → pg_isX2 Λ (114 + 11 * j)) := h.2.2.2.2.2.2.2.2.2.2.2.2.2.2.2
section PGF
variable {S : pg_S} {Λ : pg_L} {Y : pg_Y} {d pc : Nat} {ls ls' : List (Nat × Value)} {st : List Value} {M : pg_M} {P : Option Value → pg_M → Prop} {a : Nat}
theorem gfX0_11 (hY : Y.1.cls = RX0) (h : pg_isX0 Λ) (hdg : decode Y.2.1 pc = .ok (.getfield 11, 3)) (kk : pg_At S Λ Y d (pc + 3) ls (.ref (162) :: st) M P) : pg_At S Λ Y d pc ls (.ref (161) :: st) M P :=
  pg_get (T := TX0) (N := 2) (k := 0) h.1 rfl rfl pg_inX0 (by decide) (by rw [hY]; exact pg_g (pg_t1 220 rfl) rfl) hdg kk
theorem gfX0_15 (hY : Y.1.cls = RX0) (h : pg_isX0 Λ) (hdg : decode Y.2.1 pc = .ok (.getfield 15, 3)) (kk : pg_At S Λ Y d (pc + 3) ls (.ref (163) :: st) M P) : pg_At S Λ Y d pc ls (.ref (161) :: st) M P :=
  pg_get (T := TX0) (N := 2) (k := 1) h.1 rfl rfl pg_inX0 (by decide) (by rw [hY]; exact pg_g (pg_t1 221 rfl) rfl) hdg kk
theorem gfX0_24 (hY : Y.1.cls = RX0) (h : pg_isX9 Λ a) (hdg : decode Y.2.1 pc = .ok (.getfield 24, 3)) (kk : pg_At S Λ Y d (pc + 3) ls (.ref (a + 1) :: st) M P) : pg_At S Λ Y d pc ls (.ref (a) :: st) M P :=
  pg_getN (host := "PegLaws") (T := TX9) (N := 6) (k := 0) h.1 rfl rfl pg_inX9 (by decide) (by rw [hY]; exact pg_t1 80 rfl) hdg kk
theorem gfX0_30 (hY : Y.1.cls = RX0) (h : pg_isX9 Λ a) (hdg : decode Y.2.1 pc = .ok (.getfield 30, 3)) (kk : pg_At S Λ Y d (pc + 3) ls (.int (M.1 (a) 5) :: st) M P) : pg_At S Λ Y d pc ls (.ref (a) :: st) M P :=
  pg_getN (host := "PegLaws") (T := TX9) (N := 6) (k := 5) h.1 rfl rfl pg_inX9 (by decide) (by rw [hY]; exact pg_t1 96 rfl) hdg kk
theorem gfX0_40 (hY : Y.1.cls = RX0) (h : pg_isX5 Λ a) (hdg : decode Y.2.1 pc = .ok (.getfield 40, 3)) (kk : pg_At S Λ Y d (pc + 3) ls (.int (M.1 (a) 14) :: st) M P) : pg_At S Λ Y d pc ls (.ref (a) :: st) M P :=
  pg_getN (host := "PegLaws") (T := TX5) (N := 16) (k := 14) h.1 rfl rfl pg_inX5 (by decide) (by rw [hY]; exact pg_t2 94 rfl) hdg kk
theorem gfX0_61 (hY : Y.1.cls = RX0) (h : pg_isX9 Λ a) (hdg : decode Y.2.1 pc = .ok (.getfield 61, 3)) (kk : pg_At S Λ Y d (pc + 3) ls (.ref (a + 3) :: st) M P) : pg_At S Λ Y d pc ls (.ref (a) :: st) M P :=
  pg_getN (host := "PegLaws") (T := TX9) (N := 6) (k := 2) h.1 rfl rfl pg_inX9 (by decide) (by rw [hY]; exact pg_t1 89 rfl) hdg kk
theorem gfX1_15 (hY : Y.1.cls = RX1) (h : pg_isX1 Λ a) (hdg : decode Y.2.1 pc = .ok (.getfield 15, 3)) (kk : pg_At S Λ Y d (pc + 3) ls (.ref (a + 2) :: st) M P) : pg_At S Λ Y d pc ls (.ref (a) :: st) M P :=
  pg_get (T := TX1) (N := 6) (k := 1) h.1 rfl rfl pg_inX1 (by decide) (by rw [hY]; exact pg_g (pg_t2 139 rfl) rfl) hdg kk
theorem gfX1_18 (hY : Y.1.cls = RX1) (h : pg_isX1 Λ a) (hdg : decode Y.2.1 pc = .ok (.getfield 18, 3)) (kk : pg_At S Λ Y d (pc + 3) ls (.ref (a + 3) :: st) M P) : pg_At S Λ Y d pc ls (.ref (a) :: st) M P :=
  pg_get (T := TX1) (N := 6) (k := 2) h.1 rfl rfl pg_inX1 (by decide) (by rw [hY]; exact pg_g (pg_t2 140 rfl) rfl) hdg kk
theorem gfX1_21 (hY : Y.1.cls = RX1) (h : pg_isX1 Λ a) (hdg : decode Y.2.1 pc = .ok (.getfield 21, 3)) (kk : pg_At S Λ Y d (pc + 3) ls (.int (M.1 (a) 3) :: st) M P) : pg_At S Λ Y d pc ls (.ref (a) :: st) M P :=
  pg_get (T := TX1) (N := 6) (k := 3) h.1 rfl rfl pg_inX1 (by decide) (by rw [hY]; exact pg_g (pg_t2 141 rfl) rfl) hdg kk
theorem pfX1_21 {v : Int32} (hY : Y.1.cls = RX1) (h : pg_isX1 Λ a) (hdg : decode Y.2.1 pc = .ok (.putfield 21, 3)) (kk : pg_At S Λ Y d (pc + 3) ls st (pg_si M (a) 3 v) P) : pg_At S Λ Y d pc ls (.int v :: .ref (a) :: st) M P :=
  pg_putG (T := TX1) (N := 6) (k := 3) tyX1 (ty := .int) h.1 rfl pg_inX1 tyX1_ok nmX1 (by decide) (Nat.le_of_ble_eq_true rfl) (by rw [hY]; exact pg_g (pg_t2 141 rfl) rfl) rfl (by decide +kernel) rfl rfl (pg_hvi rfl) (pg_si_off S M _ _ _) hdg kk
theorem gfX1_25 (hY : Y.1.cls = RX1) (h : pg_isX1 Λ a) (hdg : decode Y.2.1 pc = .ok (.getfield 25, 3)) (kk : pg_At S Λ Y d (pc + 3) ls (.int (M.1 (a) 4) :: st) M P) : pg_At S Λ Y d pc ls (.ref (a) :: st) M P :=
  pg_get (T := TX1) (N := 6) (k := 4) h.1 rfl rfl pg_inX1 (by decide) (by rw [hY]; exact pg_g (pg_t2 144 rfl) rfl) hdg kk
theorem pfX1_25 {v : Int32} (hY : Y.1.cls = RX1) (h : pg_isX1 Λ a) (hdg : decode Y.2.1 pc = .ok (.putfield 25, 3)) (kk : pg_At S Λ Y d (pc + 3) ls st (pg_si M (a) 4 v) P) : pg_At S Λ Y d pc ls (.int v :: .ref (a) :: st) M P :=
  pg_putG (T := TX1) (N := 6) (k := 4) tyX1 (ty := .int) h.1 rfl pg_inX1 tyX1_ok nmX1 (by decide) (Nat.le_of_ble_eq_true rfl) (by rw [hY]; exact pg_g (pg_t2 144 rfl) rfl) rfl (by decide +kernel) rfl rfl (pg_hvi rfl) (pg_si_off S M _ _ _) hdg kk
theorem gfX1_28 (hY : Y.1.cls = RX1) (h : pg_isX1 Λ a) (hdg : decode Y.2.1 pc = .ok (.getfield 28, 3)) (kk : pg_At S Λ Y d (pc + 3) ls (.int (M.1 (a) 5) :: st) M P) : pg_At S Λ Y d pc ls (.ref (a) :: st) M P :=
  pg_get (T := TX1) (N := 6) (k := 5) h.1 rfl rfl pg_inX1 (by decide) (by rw [hY]; exact pg_g (pg_t2 146 rfl) rfl) hdg kk
theorem pfX1_28 {v : Int32} (hY : Y.1.cls = RX1) (h : pg_isX1 Λ a) (hdg : decode Y.2.1 pc = .ok (.putfield 28, 3)) (kk : pg_At S Λ Y d (pc + 3) ls st (pg_si M (a) 5 v) P) : pg_At S Λ Y d pc ls (.int v :: .ref (a) :: st) M P :=
  pg_putG (T := TX1) (N := 6) (k := 5) tyX1 (ty := .int) h.1 rfl pg_inX1 tyX1_ok nmX1 (by decide) (Nat.le_of_ble_eq_true rfl) (by rw [hY]; exact pg_g (pg_t2 146 rfl) rfl) rfl (by decide +kernel) rfl rfl (pg_hvi rfl) (pg_si_off S M _ _ _) hdg kk
theorem gfX1_9 (hY : Y.1.cls = RX1) (h : pg_isX1 Λ a) (hdg : decode Y.2.1 pc = .ok (.getfield 9, 3)) (kk : pg_At S Λ Y d (pc + 3) ls (.ref (a + 1) :: st) M P) : pg_At S Λ Y d pc ls (.ref (a) :: st) M P :=
  pg_get (T := TX1) (N := 6) (k := 0) h.1 rfl rfl pg_inX1 (by decide) (by rw [hY]; exact pg_g (pg_t2 138 rfl) rfl) hdg kk
theorem gfX10_10 (hY : Y.1.cls = RX10) (h : pg_isX10 Λ) (hdg : decode Y.2.1 pc = .ok (.getfield 10, 3)) (kk : pg_At S Λ Y d (pc + 3) ls (.ref (1) :: st) M P) : pg_At S Λ Y d pc ls (.ref (0) :: st) M P :=
  pg_get (T := TX10) (N := 13) (k := 0) h rfl rfl pg_inX10 (by decide) (by rw [hY]; exact pg_g (pg_t2 161 rfl) rfl) hdg kk
theorem gfX10_114 (hY : Y.1.cls = RX10) (h : pg_isX5 Λ a) (hdg : decode Y.2.1 pc = .ok (.getfield 114, 3)) (kk : pg_At S Λ Y d (pc + 3) ls (.ref (a + 2) :: st) M P) : pg_At S Λ Y d pc ls (.ref (a) :: st) M P :=
  pg_getN (host := "PegLaws") (T := TX5) (N := 16) (k := 1) h.1 rfl rfl pg_inX5 (by decide) (by rw [hY]; exact pg_t2 55 rfl) hdg kk
theorem gfX10_118 (hY : Y.1.cls = RX10) (h : pg_isX9 Λ a) (hdg : decode Y.2.1 pc = .ok (.getfield 118, 3)) (kk : pg_At S Λ Y d (pc + 3) ls (.ref (a + 1) :: st) M P) : pg_At S Λ Y d pc ls (.ref (a) :: st) M P :=
  pg_getN (host := "PegLaws") (T := TX9) (N := 6) (k := 0) h.1 rfl rfl pg_inX9 (by decide) (by rw [hY]; exact pg_t1 82 rfl) hdg kk
theorem gfX10_121 (hY : Y.1.cls = RX10) (h : pg_isX9 Λ a) (hdg : decode Y.2.1 pc = .ok (.getfield 121, 3)) (kk : pg_At S Λ Y d (pc + 3) ls (.ref (a + 2) :: st) M P) : pg_At S Λ Y d pc ls (.ref (a) :: st) M P :=
  pg_getN (host := "PegLaws") (T := TX9) (N := 6) (k := 1) h.1 rfl rfl pg_inX9 (by decide) (by rw [hY]; exact pg_t1 86 rfl) hdg kk
theorem gfX10_124 (hY : Y.1.cls = RX10) (h : pg_isX9 Λ a) (hdg : decode Y.2.1 pc = .ok (.getfield 124, 3)) (kk : pg_At S Λ Y d (pc + 3) ls (.ref (a + 3) :: st) M P) : pg_At S Λ Y d pc ls (.ref (a) :: st) M P :=
  pg_getN (host := "PegLaws") (T := TX9) (N := 6) (k := 2) h.1 rfl rfl pg_inX9 (by decide) (by rw [hY]; exact pg_t1 90 rfl) hdg kk
theorem gfX10_138 (hY : Y.1.cls = RX10) (h : pg_isX9 Λ a) (hdg : decode Y.2.1 pc = .ok (.getfield 138, 3)) (kk : pg_At S Λ Y d (pc + 3) ls (.int (M.1 (a) 5) :: st) M P) : pg_At S Λ Y d pc ls (.ref (a) :: st) M P :=
  pg_getN (host := "PegLaws") (T := TX9) (N := 6) (k := 5) h.1 rfl rfl pg_inX9 (by decide) (by rw [hY]; exact pg_t1 100 rfl) hdg kk
theorem gfX10_149 (hY : Y.1.cls = RX10) (h : pg_isX9 Λ a) (hdg : decode Y.2.1 pc = .ok (.getfield 149, 3)) (kk : pg_At S Λ Y d (pc + 3) ls (.int (M.1 (a) 4) :: st) M P) : pg_At S Λ Y d pc ls (.ref (a) :: st) M P :=
  pg_getN (host := "PegLaws") (T := TX9) (N := 6) (k := 4) h.1 rfl rfl pg_inX9 (by decide) (by rw [hY]; exact pg_t1 95 rfl) hdg kk
theorem gfX10_152 (hY : Y.1.cls = RX10) (h : pg_isX9 Λ a) (hdg : decode Y.2.1 pc = .ok (.getfield 152, 3)) (kk : pg_At S Λ Y d (pc + 3) ls (.ref (a + 4) :: st) M P) : pg_At S Λ Y d pc ls (.ref (a) :: st) M P :=
  pg_getN (host := "PegLaws") (T := TX9) (N := 6) (k := 3) h.1 rfl rfl pg_inX9 (by decide) (by rw [hY]; exact pg_t1 92 rfl) hdg kk
theorem gfX10_19 (hY : Y.1.cls = RX10) (h : pg_isX10 Λ) (hdg : decode Y.2.1 pc = .ok (.getfield 19, 3)) (kk : pg_At S Λ Y d (pc + 3) ls (.ref (3) :: st) M P) : pg_At S Λ Y d pc ls (.ref (0) :: st) M P :=
  pg_get (T := TX10) (N := 13) (k := 1) h rfl rfl pg_inX10 (by decide) (by rw [hY]; exact pg_g (pg_t2 162 rfl) rfl) hdg kk
theorem gfX10_199 (hY : Y.1.cls = RX10) (h : pg_isX1 Λ a) (hdg : decode Y.2.1 pc = .ok (.getfield 199, 3)) (kk : pg_At S Λ Y d (pc + 3) ls (.int (M.1 (a) 4) :: st) M P) : pg_At S Λ Y d pc ls (.ref (a) :: st) M P :=
  pg_getN (host := "PegLaws") (T := TX1) (N := 6) (k := 4) h.1 rfl rfl pg_inX1 (by decide) (by rw [hY]; exact pg_t2 145 rfl) hdg kk
theorem gfX10_202 (hY : Y.1.cls = RX10) (h : pg_isX1 Λ a) (hdg : decode Y.2.1 pc = .ok (.getfield 202, 3)) (kk : pg_At S Λ Y d (pc + 3) ls (.int (M.1 (a) 5) :: st) M P) : pg_At S Λ Y d pc ls (.ref (a) :: st) M P :=
  pg_getN (host := "PegLaws") (T := TX1) (N := 6) (k := 5) h.1 rfl rfl pg_inX1 (by decide) (by rw [hY]; exact pg_t2 147 rfl) hdg kk
theorem gfX10_223 (hY : Y.1.cls = RX10) (h : pg_isX3 Λ) (hdg : decode Y.2.1 pc = .ok (.getfield 223, 3)) (kk : pg_At S Λ Y d (pc + 3) ls (.int (M.1 (153) 9) :: st) M P) : pg_At S Λ Y d pc ls (.ref (153) :: st) M P :=
  pg_getN (host := "PegLaws") (T := TX3) (N := 10) (k := 9) h.1 rfl rfl pg_inX3 (by decide) (by rw [hY]; exact pg_t1 191 rfl) hdg kk
theorem gfX10_226 (hY : Y.1.cls = RX10) (h : pg_isX3 Λ) (hdg : decode Y.2.1 pc = .ok (.getfield 226, 3)) (kk : pg_At S Λ Y d (pc + 3) ls (.ref (160) :: st) M P) : pg_At S Λ Y d pc ls (.ref (153) :: st) M P :=
  pg_getN (host := "PegLaws") (T := TX3) (N := 10) (k := 6) h.1 rfl rfl pg_inX3 (by decide) (by rw [hY]; exact pg_t1 187 rfl) hdg kk
theorem gfX10_23 (hY : Y.1.cls = RX10) (h : pg_isX10 Λ) (hdg : decode Y.2.1 pc = .ok (.getfield 23, 3)) (kk : pg_At S Λ Y d (pc + 3) ls (.ref (8) :: st) M P) : pg_At S Λ Y d pc ls (.ref (0) :: st) M P :=
  pg_get (T := TX10) (N := 13) (k := 2) h rfl rfl pg_inX10 (by decide) (by rw [hY]; exact pg_g (pg_t2 163 rfl) rfl) hdg kk
theorem gfX10_235 (hY : Y.1.cls = RX10) (h : pg_isX4 Λ) (hdg : decode Y.2.1 pc = .ok (.getfield 235, 3)) (kk : pg_At S Λ Y d (pc + 3) ls (.int (M.1 (164) 5) :: st) M P) : pg_At S Λ Y d pc ls (.ref (164) :: st) M P :=
  pg_getN (host := "PegLaws") (T := TX4) (N := 6) (k := 5) h.1 rfl rfl pg_inX4 (by decide) (by rw [hY]; exact pg_t2 1 rfl) hdg kk
theorem gfX10_238 (hY : Y.1.cls = RX10) (h : pg_isX4 Λ) (hdg : decode Y.2.1 pc = .ok (.getfield 238, 3)) (kk : pg_At S Λ Y d (pc + 3) ls (.int (M.1 (164) 4) :: st) M P) : pg_At S Λ Y d pc ls (.ref (164) :: st) M P :=
  pg_getN (host := "PegLaws") (T := TX4) (N := 6) (k := 4) h.1 rfl rfl pg_inX4 (by decide) (by rw [hY]; exact pg_t1 239 rfl) hdg kk
theorem gfX10_241 (hY : Y.1.cls = RX10) (h : pg_isX4 Λ) (hdg : decode Y.2.1 pc = .ok (.getfield 241, 3)) (kk : pg_At S Λ Y d (pc + 3) ls (.ref (168) :: st) M P) : pg_At S Λ Y d pc ls (.ref (164) :: st) M P :=
  pg_getN (host := "PegLaws") (T := TX4) (N := 6) (k := 3) h.1 rfl rfl pg_inX4 (by decide) (by rw [hY]; exact pg_t1 237 rfl) hdg kk
theorem gfX10_280 (hY : Y.1.cls = RX10) (h : pg_isX5 Λ a) (hdg : decode Y.2.1 pc = .ok (.getfield 280, 3)) (kk : pg_At S Λ Y d (pc + 3) ls (.int (M.1 (a) 14) :: st) M P) : pg_At S Λ Y d pc ls (.ref (a) :: st) M P :=
  pg_getN (host := "PegLaws") (T := TX5) (N := 16) (k := 14) h.1 rfl rfl pg_inX5 (by decide) (by rw [hY]; exact pg_t2 96 rfl) hdg kk
theorem gfX10_29 (hY : Y.1.cls = RX10) (h : pg_isX10 Λ) (hdg : decode Y.2.1 pc = .ok (.getfield 29, 3)) (kk : pg_At S Λ Y d (pc + 3) ls (.ref (13) :: st) M P) : pg_At S Λ Y d pc ls (.ref (0) :: st) M P :=
  pg_get (T := TX10) (N := 13) (k := 3) h rfl rfl pg_inX10 (by decide) (by rw [hY]; exact pg_g (pg_t2 164 rfl) rfl) hdg kk
theorem gfX10_299 (hY : Y.1.cls = RX10) (h : pg_isX5 Λ a) (hdg : decode Y.2.1 pc = .ok (.getfield 299, 3)) (kk : pg_At S Λ Y d (pc + 3) ls (.int (M.1 (a) 10) :: st) M P) : pg_At S Λ Y d pc ls (.ref (a) :: st) M P :=
  pg_getN (host := "PegLaws") (T := TX5) (N := 16) (k := 10) h.1 rfl rfl pg_inX5 (by decide) (by rw [hY]; exact pg_t2 81 rfl) hdg kk
theorem gfX10_302 (hY : Y.1.cls = RX10) (h : pg_isX5 Λ a) (hdg : decode Y.2.1 pc = .ok (.getfield 302, 3)) (kk : pg_At S Λ Y d (pc + 3) ls (.int (M.1 (a) 13) :: st) M P) : pg_At S Λ Y d pc ls (.ref (a) :: st) M P :=
  pg_getN (host := "PegLaws") (T := TX5) (N := 16) (k := 13) h.1 rfl rfl pg_inX5 (by decide) (by rw [hY]; exact pg_t2 92 rfl) hdg kk
theorem gfX10_308 (hY : Y.1.cls = RX10) (h : pg_isX5 Λ a) (hdg : decode Y.2.1 pc = .ok (.getfield 308, 3)) (kk : pg_At S Λ Y d (pc + 3) ls (.int (M.1 (a) 15) :: st) M P) : pg_At S Λ Y d pc ls (.ref (a) :: st) M P :=
  pg_getN (host := "PegLaws") (T := TX5) (N := 16) (k := 15) h.1 rfl rfl pg_inX5 (by decide) (by rw [hY]; exact pg_t2 98 rfl) hdg kk
theorem gfX10_311 (hY : Y.1.cls = RX10) (h : pg_isX1 Λ a) (hdg : decode Y.2.1 pc = .ok (.getfield 311, 3)) (kk : pg_At S Λ Y d (pc + 3) ls (.int (M.1 (a) 3) :: st) M P) : pg_At S Λ Y d pc ls (.ref (a) :: st) M P :=
  pg_getN (host := "PegLaws") (T := TX1) (N := 6) (k := 3) h.1 rfl rfl pg_inX1 (by decide) (by rw [hY]; exact pg_t2 143 rfl) hdg kk
theorem gfX10_314 (hY : Y.1.cls = RX10) (h : pg_isX2 Λ a) (hdg : decode Y.2.1 pc = .ok (.getfield 314, 3)) (kk : pg_At S Λ Y d (pc + 3) ls (.int (M.1 (a) 5) :: st) M P) : pg_At S Λ Y d pc ls (.ref (a) :: st) M P :=
  pg_getN (host := "PegLaws") (T := TX2) (N := 6) (k := 5) h.1 rfl rfl pg_inX2 (by decide) (by rw [hY]; exact pg_t1 127 rfl) hdg kk
theorem gfX10_315 (hY : Y.1.cls = RX10) (h : pg_isX6 Λ) (hdg : decode Y.2.1 pc = .ok (.getfield 315, 3)) (kk : pg_At S Λ Y d (pc + 3) ls (.int (M.1 (19) 5) :: st) M P) : pg_At S Λ Y d pc ls (.ref (19) :: st) M P :=
  pg_getN (host := "PegLaws") (T := TX6) (N := 6) (k := 5) h.1 rfl rfl pg_inX6 (by decide) (by rw [hY]; exact pg_t1 159 rfl) hdg kk
theorem gfX10_36 (hY : Y.1.cls = RX10) (h : pg_isX10 Λ) (hdg : decode Y.2.1 pc = .ok (.getfield 36, 3)) (kk : pg_At S Λ Y d (pc + 3) ls (.ref (19) :: st) M P) : pg_At S Λ Y d pc ls (.ref (0) :: st) M P :=
  pg_get (T := TX10) (N := 13) (k := 4) h rfl rfl pg_inX10 (by decide) (by rw [hY]; exact pg_g (pg_t2 165 rfl) rfl) hdg kk
theorem gfX10_43 (hY : Y.1.cls = RX10) (h : pg_isX10 Λ) (hdg : decode Y.2.1 pc = .ok (.getfield 43, 3)) (kk : pg_At S Λ Y d (pc + 3) ls (.ref (153) :: st) M P) : pg_At S Λ Y d pc ls (.ref (0) :: st) M P :=
  pg_get (T := TX10) (N := 13) (k := 5) h rfl rfl pg_inX10 (by decide) (by rw [hY]; exact pg_g (pg_t2 166 rfl) rfl) hdg kk
theorem gfX10_50 (hY : Y.1.cls = RX10) (h : pg_isX10 Λ) (hdg : decode Y.2.1 pc = .ok (.getfield 50, 3)) (kk : pg_At S Λ Y d (pc + 3) ls (.ref (161) :: st) M P) : pg_At S Λ Y d pc ls (.ref (0) :: st) M P :=
  pg_get (T := TX10) (N := 13) (k := 6) h rfl rfl pg_inX10 (by decide) (by rw [hY]; exact pg_g (pg_t2 167 rfl) rfl) hdg kk
theorem gfX10_57 (hY : Y.1.cls = RX10) (h : pg_isX10 Λ) (hdg : decode Y.2.1 pc = .ok (.getfield 57, 3)) (kk : pg_At S Λ Y d (pc + 3) ls (.ref (164) :: st) M P) : pg_At S Λ Y d pc ls (.ref (0) :: st) M P :=
  pg_get (T := TX10) (N := 13) (k := 7) h rfl rfl pg_inX10 (by decide) (by rw [hY]; exact pg_g (pg_t2 168 rfl) rfl) hdg kk
theorem gfX10_64 (hY : Y.1.cls = RX10) (h : pg_isX10 Λ) (hdg : decode Y.2.1 pc = .ok (.getfield 64, 3)) (kk : pg_At S Λ Y d (pc + 3) ls (.ref (M.2.2 (0) 8) :: st) M P) : pg_At S Λ Y d pc ls (.ref (0) :: st) M P :=
  pg_get (T := TX10) (N := 13) (k := 8) h rfl rfl pg_inX10 (by decide) (by rw [hY]; exact pg_g (pg_t2 169 rfl) rfl) hdg kk
theorem pfX10_64 {v : Nat} (hY : Y.1.cls = RX10) (h : pg_isX10 Λ) (hdg : decode Y.2.1 pc = .ok (.putfield 64, 3)) (kk : pg_At S Λ Y d (pc + 3) ls st (pg_sr M (0) 8 v) P) : pg_At S Λ Y d pc ls (.ref v :: .ref (0) :: st) M P :=
  pg_putG (T := TX10) (N := 13) (k := 8) tyX10 (ty := .object "PegLaws$Line") h rfl pg_inX10 tyX10_ok nmX10 (by decide) (Nat.le_of_ble_eq_true rfl) (by rw [hY]; exact pg_g (pg_t2 169 rfl) rfl) rfl (by decide +kernel) rfl rfl (pg_hvr rfl) (pg_sr_off S M _ _ _) hdg kk
theorem gfX10_68 (hY : Y.1.cls = RX10) (h : pg_isX10 Λ) (hdg : decode Y.2.1 pc = .ok (.getfield 68, 3)) (kk : pg_At S Λ Y d (pc + 3) ls (.ref (M.2.2 (0) 9) :: st) M P) : pg_At S Λ Y d pc ls (.ref (0) :: st) M P :=
  pg_get (T := TX10) (N := 13) (k := 9) h rfl rfl pg_inX10 (by decide) (by rw [hY]; exact pg_g (pg_t2 170 rfl) rfl) hdg kk
theorem pfX10_68 {v : Nat} (hY : Y.1.cls = RX10) (h : pg_isX10 Λ) (hdg : decode Y.2.1 pc = .ok (.putfield 68, 3)) (kk : pg_At S Λ Y d (pc + 3) ls st (pg_sr M (0) 9 v) P) : pg_At S Λ Y d pc ls (.ref v :: .ref (0) :: st) M P :=
  pg_putG (T := TX10) (N := 13) (k := 9) tyX10 (ty := .object "PegLaws$Line") h rfl pg_inX10 tyX10_ok nmX10 (by decide) (Nat.le_of_ble_eq_true rfl) (by rw [hY]; exact pg_g (pg_t2 170 rfl) rfl) rfl (by decide +kernel) rfl rfl (pg_hvr rfl) (pg_sr_off S M _ _ _) hdg kk
theorem gfX10_74 (hY : Y.1.cls = RX10) (h : pg_isX10 Λ) (hdg : decode Y.2.1 pc = .ok (.getfield 74, 3)) (kk : pg_At S Λ Y d (pc + 3) ls (.ref (M.2.2 (0) 10) :: st) M P) : pg_At S Λ Y d pc ls (.ref (0) :: st) M P :=
  pg_get (T := TX10) (N := 13) (k := 10) h rfl rfl pg_inX10 (by decide) (by rw [hY]; exact pg_g (pg_t2 171 rfl) rfl) hdg kk
theorem pfX10_74 {v : Nat} (hY : Y.1.cls = RX10) (h : pg_isX10 Λ) (hdg : decode Y.2.1 pc = .ok (.putfield 74, 3)) (kk : pg_At S Λ Y d (pc + 3) ls st (pg_sr M (0) 10 v) P) : pg_At S Λ Y d pc ls (.ref v :: .ref (0) :: st) M P :=
  pg_putG (T := TX10) (N := 13) (k := 10) tyX10 (ty := .object "PegLaws$Day") h rfl pg_inX10 tyX10_ok nmX10 (by decide) (Nat.le_of_ble_eq_true rfl) (by rw [hY]; exact pg_g (pg_t2 171 rfl) rfl) rfl (by decide +kernel) rfl rfl (pg_hvr rfl) (pg_sr_off S M _ _ _) hdg kk
theorem gfX10_78 (hY : Y.1.cls = RX10) (h : pg_isX10 Λ) (hdg : decode Y.2.1 pc = .ok (.getfield 78, 3)) (kk : pg_At S Λ Y d (pc + 3) ls (.ref (M.2.2 (0) 11) :: st) M P) : pg_At S Λ Y d pc ls (.ref (0) :: st) M P :=
  pg_get (T := TX10) (N := 13) (k := 11) h rfl rfl pg_inX10 (by decide) (by rw [hY]; exact pg_g (pg_t2 172 rfl) rfl) hdg kk
theorem pfX10_78 {v : Nat} (hY : Y.1.cls = RX10) (h : pg_isX10 Λ) (hdg : decode Y.2.1 pc = .ok (.putfield 78, 3)) (kk : pg_At S Λ Y d (pc + 3) ls st (pg_sr M (0) 11 v) P) : pg_At S Λ Y d pc ls (.ref v :: .ref (0) :: st) M P :=
  pg_putG (T := TX10) (N := 13) (k := 11) tyX10 (ty := .object "PegLaws$Day") h rfl pg_inX10 tyX10_ok nmX10 (by decide) (Nat.le_of_ble_eq_true rfl) (by rw [hY]; exact pg_g (pg_t2 172 rfl) rfl) rfl (by decide +kernel) rfl rfl (pg_hvr rfl) (pg_sr_off S M _ _ _) hdg kk
theorem gfX10_81 (hY : Y.1.cls = RX10) (h : pg_isX10 Λ) (hdg : decode Y.2.1 pc = .ok (.getfield 81, 3)) (kk : pg_At S Λ Y d (pc + 3) ls (.long (M.2.1 (0) 12) :: st) M P) : pg_At S Λ Y d pc ls (.ref (0) :: st) M P :=
  pg_get (T := TX10) (N := 13) (k := 12) h rfl rfl pg_inX10 (by decide) (by rw [hY]; exact pg_g (pg_t2 173 rfl) rfl) hdg kk
theorem pfX10_81 {v : Int64} (hY : Y.1.cls = RX10) (h : pg_isX10 Λ) (hdg : decode Y.2.1 pc = .ok (.putfield 81, 3)) (kk : pg_At S Λ Y d (pc + 3) ls st (pg_sj M (0) 12 v) P) : pg_At S Λ Y d pc ls (.long v :: .ref (0) :: st) M P :=
  pg_putG (T := TX10) (N := 13) (k := 12) tyX10 (ty := .long) h rfl pg_inX10 tyX10_ok nmX10 (by decide) (Nat.le_of_ble_eq_true rfl) (by rw [hY]; exact pg_g (pg_t2 173 rfl) rfl) rfl (by decide +kernel) rfl rfl (pg_hvj rfl) (pg_sj_off S M _ _ _) hdg kk
theorem gfX10_89 (hY : Y.1.cls = RX10) (h : pg_isX7 Λ) (hdg : decode Y.2.1 pc = .ok (.getfield 89, 3)) (kk : pg_At S Λ Y d (pc + 3) ls (.int (M.1 (1) 1) :: st) M P) : pg_At S Λ Y d pc ls (.ref (1) :: st) M P :=
  pg_getN (host := "PegLaws") (T := TX7) (N := 10) (k := 1) h.1 rfl rfl pg_inX7 (by decide) (by rw [hY]; exact pg_t1 41 rfl) hdg kk
theorem gfX11_1 (hY : Y.1.cls = RX11) (h : pg_isX11 Λ) (hdg : decode Y.2.1 pc = .ok (.getfield 1, 3)) (kk : pg_At S Λ Y d (pc + 3) ls (.int (M.1 (207) 0) :: st) M P) : pg_At S Λ Y d pc ls (.ref (207) :: st) M P :=
  pg_get (T := TX11) (N := 38) (k := 0) h.1 rfl rfl pg_inX11 (by decide) (by rw [hY]; exact pg_g (pg_t6 99 rfl) rfl) hdg kk
theorem pfX11_1 {v : Int32} (hY : Y.1.cls = RX11) (h : pg_isX11 Λ) (hdg : decode Y.2.1 pc = .ok (.putfield 1, 3)) (kk : pg_At S Λ Y d (pc + 3) ls st (pg_si M (207) 0 v) P) : pg_At S Λ Y d pc ls (.int v :: .ref (207) :: st) M P :=
  pg_putG (T := TX11) (N := 38) (k := 0) tyX11 (ty := .int) h.1 rfl pg_inX11 tyX11_ok nmX11 (by decide) (Nat.le_of_ble_eq_true rfl) (by rw [hY]; exact pg_g (pg_t6 99 rfl) rfl) rfl (by decide +kernel) rfl rfl (pg_hvi rfl) (pg_si_off S M _ _ _) hdg kk
theorem gfX11_101 (hY : Y.1.cls = RX11) (h : pg_isX11 Λ) (hdg : decode Y.2.1 pc = .ok (.getfield 101, 3)) (kk : pg_At S Λ Y d (pc + 3) ls (.ref (217) :: st) M P) : pg_At S Λ Y d pc ls (.ref (207) :: st) M P :=
  pg_get (T := TX11) (N := 38) (k := 15) h.1 rfl rfl pg_inX11 (by decide) (by rw [hY]; exact pg_g (pg_t6 114 rfl) rfl) hdg kk
theorem gfX11_104 (hY : Y.1.cls = RX11) (h : pg_isX11 Λ) (hdg : decode Y.2.1 pc = .ok (.getfield 104, 3)) (kk : pg_At S Λ Y d (pc + 3) ls (.ref (218) :: st) M P) : pg_At S Λ Y d pc ls (.ref (207) :: st) M P :=
  pg_get (T := TX11) (N := 38) (k := 19) h.1 rfl rfl pg_inX11 (by decide) (by rw [hY]; exact pg_g (pg_t6 118 rfl) rfl) hdg kk
theorem gfX11_107 (hY : Y.1.cls = RX11) (h : pg_isX11 Λ) (hdg : decode Y.2.1 pc = .ok (.getfield 107, 3)) (kk : pg_At S Λ Y d (pc + 3) ls (.ref (219) :: st) M P) : pg_At S Λ Y d pc ls (.ref (207) :: st) M P :=
  pg_get (T := TX11) (N := 38) (k := 20) h.1 rfl rfl pg_inX11 (by decide) (by rw [hY]; exact pg_g (pg_t6 119 rfl) rfl) hdg kk
theorem gfX11_11 (hY : Y.1.cls = RX11) (h : pg_isX11 Λ) (hdg : decode Y.2.1 pc = .ok (.getfield 11, 3)) (kk : pg_At S Λ Y d (pc + 3) ls (.int (M.1 (207) 2) :: st) M P) : pg_At S Λ Y d pc ls (.ref (207) :: st) M P :=
  pg_get (T := TX11) (N := 38) (k := 2) h.1 rfl rfl pg_inX11 (by decide) (by rw [hY]; exact pg_g (pg_t6 101 rfl) rfl) hdg kk
theorem pfX11_11 {v : Int32} (hY : Y.1.cls = RX11) (h : pg_isX11 Λ) (hdg : decode Y.2.1 pc = .ok (.putfield 11, 3)) (kk : pg_At S Λ Y d (pc + 3) ls st (pg_si M (207) 2 v) P) : pg_At S Λ Y d pc ls (.int v :: .ref (207) :: st) M P :=
  pg_putG (T := TX11) (N := 38) (k := 2) tyX11 (ty := .int) h.1 rfl pg_inX11 tyX11_ok nmX11 (by decide) (Nat.le_of_ble_eq_true rfl) (by rw [hY]; exact pg_g (pg_t6 101 rfl) rfl) rfl (by decide +kernel) rfl rfl (pg_hvi rfl) (pg_si_off S M _ _ _) hdg kk
theorem gfX11_110 (hY : Y.1.cls = RX11) (h : pg_isX11 Λ) (hdg : decode Y.2.1 pc = .ok (.getfield 110, 3)) (kk : pg_At S Λ Y d (pc + 3) ls (.ref (220) :: st) M P) : pg_At S Λ Y d pc ls (.ref (207) :: st) M P :=
  pg_get (T := TX11) (N := 38) (k := 21) h.1 rfl rfl pg_inX11 (by decide) (by rw [hY]; exact pg_g (pg_t6 120 rfl) rfl) hdg kk
theorem gfX11_113 (hY : Y.1.cls = RX11) (h : pg_isX11 Λ) (hdg : decode Y.2.1 pc = .ok (.getfield 113, 3)) (kk : pg_At S Λ Y d (pc + 3) ls (.ref (221) :: st) M P) : pg_At S Λ Y d pc ls (.ref (207) :: st) M P :=
  pg_get (T := TX11) (N := 38) (k := 22) h.1 rfl rfl pg_inX11 (by decide) (by rw [hY]; exact pg_g (pg_t6 121 rfl) rfl) hdg kk
theorem gfX11_116 (hY : Y.1.cls = RX11) (h : pg_isX11 Λ) (hdg : decode Y.2.1 pc = .ok (.getfield 116, 3)) (kk : pg_At S Λ Y d (pc + 3) ls (.ref (222) :: st) M P) : pg_At S Λ Y d pc ls (.ref (207) :: st) M P :=
  pg_get (T := TX11) (N := 38) (k := 24) h.1 rfl rfl pg_inX11 (by decide) (by rw [hY]; exact pg_g (pg_t6 123 rfl) rfl) hdg kk
theorem gfX11_120 (hY : Y.1.cls = RX11) (h : pg_isX11 Λ) (hdg : decode Y.2.1 pc = .ok (.getfield 120, 3)) (kk : pg_At S Λ Y d (pc + 3) ls (.ref (223) :: st) M P) : pg_At S Λ Y d pc ls (.ref (207) :: st) M P :=
  pg_get (T := TX11) (N := 38) (k := 25) h.1 rfl rfl pg_inX11 (by decide) (by rw [hY]; exact pg_g (pg_t6 124 rfl) rfl) hdg kk
theorem gfX11_123 (hY : Y.1.cls = RX11) (h : pg_isX11 Λ) (hdg : decode Y.2.1 pc = .ok (.getfield 123, 3)) (kk : pg_At S Λ Y d (pc + 3) ls (.ref (224) :: st) M P) : pg_At S Λ Y d pc ls (.ref (207) :: st) M P :=
  pg_get (T := TX11) (N := 38) (k := 26) h.1 rfl rfl pg_inX11 (by decide) (by rw [hY]; exact pg_g (pg_t6 125 rfl) rfl) hdg kk
theorem gfX11_126 (hY : Y.1.cls = RX11) (h : pg_isX11 Λ) (hdg : decode Y.2.1 pc = .ok (.getfield 126, 3)) (kk : pg_At S Λ Y d (pc + 3) ls (.ref (225) :: st) M P) : pg_At S Λ Y d pc ls (.ref (207) :: st) M P :=
  pg_get (T := TX11) (N := 38) (k := 27) h.1 rfl rfl pg_inX11 (by decide) (by rw [hY]; exact pg_g (pg_t6 126 rfl) rfl) hdg kk
theorem gfX11_129 (hY : Y.1.cls = RX11) (h : pg_isX11 Λ) (hdg : decode Y.2.1 pc = .ok (.getfield 129, 3)) (kk : pg_At S Λ Y d (pc + 3) ls (.ref (226) :: st) M P) : pg_At S Λ Y d pc ls (.ref (207) :: st) M P :=
  pg_get (T := TX11) (N := 38) (k := 30) h.1 rfl rfl pg_inX11 (by decide) (by rw [hY]; exact pg_g (pg_t6 129 rfl) rfl) hdg kk
theorem gfX11_132 (hY : Y.1.cls = RX11) (h : pg_isX11 Λ) (hdg : decode Y.2.1 pc = .ok (.getfield 132, 3)) (kk : pg_At S Λ Y d (pc + 3) ls (.ref (227) :: st) M P) : pg_At S Λ Y d pc ls (.ref (207) :: st) M P :=
  pg_get (T := TX11) (N := 38) (k := 31) h.1 rfl rfl pg_inX11 (by decide) (by rw [hY]; exact pg_g (pg_t6 130 rfl) rfl) hdg kk
theorem gfX11_135 (hY : Y.1.cls = RX11) (h : pg_isX11 Λ) (hdg : decode Y.2.1 pc = .ok (.getfield 135, 3)) (kk : pg_At S Λ Y d (pc + 3) ls (.ref (228) :: st) M P) : pg_At S Λ Y d pc ls (.ref (207) :: st) M P :=
  pg_get (T := TX11) (N := 38) (k := 32) h.1 rfl rfl pg_inX11 (by decide) (by rw [hY]; exact pg_g (pg_t6 131 rfl) rfl) hdg kk
theorem gfX11_138 (hY : Y.1.cls = RX11) (h : pg_isX11 Λ) (hdg : decode Y.2.1 pc = .ok (.getfield 138, 3)) (kk : pg_At S Λ Y d (pc + 3) ls (.ref (229) :: st) M P) : pg_At S Λ Y d pc ls (.ref (207) :: st) M P :=
  pg_get (T := TX11) (N := 38) (k := 33) h.1 rfl rfl pg_inX11 (by decide) (by rw [hY]; exact pg_g (pg_t6 132 rfl) rfl) hdg kk
theorem gfX11_14 (hY : Y.1.cls = RX11) (h : pg_isX11 Λ) (hdg : decode Y.2.1 pc = .ok (.getfield 14, 3)) (kk : pg_At S Λ Y d (pc + 3) ls (.ref (208) :: st) M P) : pg_At S Λ Y d pc ls (.ref (207) :: st) M P :=
  pg_get (T := TX11) (N := 38) (k := 1) h.1 rfl rfl pg_inX11 (by decide) (by rw [hY]; exact pg_g (pg_t6 100 rfl) rfl) hdg kk
theorem gfX11_141 (hY : Y.1.cls = RX11) (h : pg_isX11 Λ) (hdg : decode Y.2.1 pc = .ok (.getfield 141, 3)) (kk : pg_At S Λ Y d (pc + 3) ls (.ref (230) :: st) M P) : pg_At S Λ Y d pc ls (.ref (207) :: st) M P :=
  pg_get (T := TX11) (N := 38) (k := 36) h.1 rfl rfl pg_inX11 (by decide) (by rw [hY]; exact pg_g (pg_t6 135 rfl) rfl) hdg kk
theorem gfX11_155 (hY : Y.1.cls = RX11) (h : pg_isX11 Λ) (hdg : decode Y.2.1 pc = .ok (.getfield 155, 3)) (kk : pg_At S Λ Y d (pc + 3) ls (.int (M.1 (207) 3) :: st) M P) : pg_At S Λ Y d pc ls (.ref (207) :: st) M P :=
  pg_get (T := TX11) (N := 38) (k := 3) h.1 rfl rfl pg_inX11 (by decide) (by rw [hY]; exact pg_g (pg_t6 102 rfl) rfl) hdg kk
theorem pfX11_155 {v : Int32} (hY : Y.1.cls = RX11) (h : pg_isX11 Λ) (hdg : decode Y.2.1 pc = .ok (.putfield 155, 3)) (kk : pg_At S Λ Y d (pc + 3) ls st (pg_si M (207) 3 v) P) : pg_At S Λ Y d pc ls (.int v :: .ref (207) :: st) M P :=
  pg_putG (T := TX11) (N := 38) (k := 3) tyX11 (ty := .int) h.1 rfl pg_inX11 tyX11_ok nmX11 (by decide) (Nat.le_of_ble_eq_true rfl) (by rw [hY]; exact pg_g (pg_t6 102 rfl) rfl) rfl (by decide +kernel) rfl rfl (pg_hvi rfl) (pg_si_off S M _ _ _) hdg kk
theorem gfX11_174 (hY : Y.1.cls = RX11) (h : pg_isX11 Λ) (hdg : decode Y.2.1 pc = .ok (.getfield 174, 3)) (kk : pg_At S Λ Y d (pc + 3) ls (.int (M.1 (207) 7) :: st) M P) : pg_At S Λ Y d pc ls (.ref (207) :: st) M P :=
  pg_get (T := TX11) (N := 38) (k := 7) h.1 rfl rfl pg_inX11 (by decide) (by rw [hY]; exact pg_g (pg_t6 106 rfl) rfl) hdg kk
theorem pfX11_174 {v : Int32} (hY : Y.1.cls = RX11) (h : pg_isX11 Λ) (hdg : decode Y.2.1 pc = .ok (.putfield 174, 3)) (kk : pg_At S Λ Y d (pc + 3) ls st (pg_si M (207) 7 v) P) : pg_At S Λ Y d pc ls (.int v :: .ref (207) :: st) M P :=
  pg_putG (T := TX11) (N := 38) (k := 7) tyX11 (ty := .int) h.1 rfl pg_inX11 tyX11_ok nmX11 (by decide) (Nat.le_of_ble_eq_true rfl) (by rw [hY]; exact pg_g (pg_t6 106 rfl) rfl) rfl (by decide +kernel) rfl rfl (pg_hvi rfl) (pg_si_off S M _ _ _) hdg kk
theorem gfX11_177 (hY : Y.1.cls = RX11) (h : pg_isX11 Λ) (hdg : decode Y.2.1 pc = .ok (.getfield 177, 3)) (kk : pg_At S Λ Y d (pc + 3) ls (.int (M.1 (207) 8) :: st) M P) : pg_At S Λ Y d pc ls (.ref (207) :: st) M P :=
  pg_get (T := TX11) (N := 38) (k := 8) h.1 rfl rfl pg_inX11 (by decide) (by rw [hY]; exact pg_g (pg_t6 107 rfl) rfl) hdg kk
theorem pfX11_177 {v : Int32} (hY : Y.1.cls = RX11) (h : pg_isX11 Λ) (hdg : decode Y.2.1 pc = .ok (.putfield 177, 3)) (kk : pg_At S Λ Y d (pc + 3) ls st (pg_si M (207) 8 v) P) : pg_At S Λ Y d pc ls (.int v :: .ref (207) :: st) M P :=
  pg_putG (T := TX11) (N := 38) (k := 8) tyX11 (ty := .int) h.1 rfl pg_inX11 tyX11_ok nmX11 (by decide) (Nat.le_of_ble_eq_true rfl) (by rw [hY]; exact pg_g (pg_t6 107 rfl) rfl) rfl (by decide +kernel) rfl rfl (pg_hvi rfl) (pg_si_off S M _ _ _) hdg kk
theorem gfX11_202 (hY : Y.1.cls = RX11) (h : pg_isX11 Λ) (hdg : decode Y.2.1 pc = .ok (.getfield 202, 3)) (kk : pg_At S Λ Y d (pc + 3) ls (.int (M.1 (207) 17) :: st) M P) : pg_At S Λ Y d pc ls (.ref (207) :: st) M P :=
  pg_get (T := TX11) (N := 38) (k := 17) h.1 rfl rfl pg_inX11 (by decide) (by rw [hY]; exact pg_g (pg_t6 116 rfl) rfl) hdg kk
theorem pfX11_202 {v : Int32} (hY : Y.1.cls = RX11) (h : pg_isX11 Λ) (hdg : decode Y.2.1 pc = .ok (.putfield 202, 3)) (kk : pg_At S Λ Y d (pc + 3) ls st (pg_si M (207) 17 v) P) : pg_At S Λ Y d pc ls (.int v :: .ref (207) :: st) M P :=
  pg_putG (T := TX11) (N := 38) (k := 17) tyX11 (ty := .int) h.1 rfl pg_inX11 tyX11_ok nmX11 (by decide) (Nat.le_of_ble_eq_true rfl) (by rw [hY]; exact pg_g (pg_t6 116 rfl) rfl) rfl (by decide +kernel) rfl rfl (pg_hvi rfl) (pg_si_off S M _ _ _) hdg kk
theorem gfX11_205 (hY : Y.1.cls = RX11) (h : pg_isX11 Λ) (hdg : decode Y.2.1 pc = .ok (.getfield 205, 3)) (kk : pg_At S Λ Y d (pc + 3) ls (.int (M.1 (207) 16) :: st) M P) : pg_At S Λ Y d pc ls (.ref (207) :: st) M P :=
  pg_get (T := TX11) (N := 38) (k := 16) h.1 rfl rfl pg_inX11 (by decide) (by rw [hY]; exact pg_g (pg_t6 115 rfl) rfl) hdg kk
theorem pfX11_205 {v : Int32} (hY : Y.1.cls = RX11) (h : pg_isX11 Λ) (hdg : decode Y.2.1 pc = .ok (.putfield 205, 3)) (kk : pg_At S Λ Y d (pc + 3) ls st (pg_si M (207) 16 v) P) : pg_At S Λ Y d pc ls (.int v :: .ref (207) :: st) M P :=
  pg_putG (T := TX11) (N := 38) (k := 16) tyX11 (ty := .int) h.1 rfl pg_inX11 tyX11_ok nmX11 (by decide) (Nat.le_of_ble_eq_true rfl) (by rw [hY]; exact pg_g (pg_t6 115 rfl) rfl) rfl (by decide +kernel) rfl rfl (pg_hvi rfl) (pg_si_off S M _ _ _) hdg kk
theorem gfX11_222 (hY : Y.1.cls = RX11) (h : pg_isX11 Λ) (hdg : decode Y.2.1 pc = .ok (.getfield 222, 3)) (kk : pg_At S Λ Y d (pc + 3) ls (.int (M.1 (207) 13) :: st) M P) : pg_At S Λ Y d pc ls (.ref (207) :: st) M P :=
  pg_get (T := TX11) (N := 38) (k := 13) h.1 rfl rfl pg_inX11 (by decide) (by rw [hY]; exact pg_g (pg_t6 112 rfl) rfl) hdg kk
theorem pfX11_222 {v : Int32} (hY : Y.1.cls = RX11) (h : pg_isX11 Λ) (hdg : decode Y.2.1 pc = .ok (.putfield 222, 3)) (kk : pg_At S Λ Y d (pc + 3) ls st (pg_si M (207) 13 v) P) : pg_At S Λ Y d pc ls (.int v :: .ref (207) :: st) M P :=
  pg_putG (T := TX11) (N := 38) (k := 13) tyX11 (ty := .int) h.1 rfl pg_inX11 tyX11_ok nmX11 (by decide) (Nat.le_of_ble_eq_true rfl) (by rw [hY]; exact pg_g (pg_t6 112 rfl) rfl) rfl (by decide +kernel) rfl rfl (pg_hvi rfl) (pg_si_off S M _ _ _) hdg kk
theorem gfX11_225 (hY : Y.1.cls = RX11) (h : pg_isX11 Λ) (hdg : decode Y.2.1 pc = .ok (.getfield 225, 3)) (kk : pg_At S Λ Y d (pc + 3) ls (.int (M.1 (207) 18) :: st) M P) : pg_At S Λ Y d pc ls (.ref (207) :: st) M P :=
  pg_get (T := TX11) (N := 38) (k := 18) h.1 rfl rfl pg_inX11 (by decide) (by rw [hY]; exact pg_g (pg_t6 117 rfl) rfl) hdg kk
theorem pfX11_225 {v : Int32} (hY : Y.1.cls = RX11) (h : pg_isX11 Λ) (hdg : decode Y.2.1 pc = .ok (.putfield 225, 3)) (kk : pg_At S Λ Y d (pc + 3) ls st (pg_si M (207) 18 v) P) : pg_At S Λ Y d pc ls (.int v :: .ref (207) :: st) M P :=
  pg_putG (T := TX11) (N := 38) (k := 18) tyX11 (ty := .int) h.1 rfl pg_inX11 tyX11_ok nmX11 (by decide) (Nat.le_of_ble_eq_true rfl) (by rw [hY]; exact pg_g (pg_t6 117 rfl) rfl) rfl (by decide +kernel) rfl rfl (pg_hvi rfl) (pg_si_off S M _ _ _) hdg kk
theorem gfX11_24 (hY : Y.1.cls = RX11) (h : pg_isX11 Λ) (hdg : decode Y.2.1 pc = .ok (.getfield 24, 3)) (kk : pg_At S Λ Y d (pc + 3) ls (.ref (209) :: st) M P) : pg_At S Λ Y d pc ls (.ref (207) :: st) M P :=
  pg_get (T := TX11) (N := 38) (k := 4) h.1 rfl rfl pg_inX11 (by decide) (by rw [hY]; exact pg_g (pg_t6 103 rfl) rfl) hdg kk
theorem gfX11_27 (hY : Y.1.cls = RX11) (h : pg_isX11 Λ) (hdg : decode Y.2.1 pc = .ok (.getfield 27, 3)) (kk : pg_At S Λ Y d (pc + 3) ls (.ref (210) :: st) M P) : pg_At S Λ Y d pc ls (.ref (207) :: st) M P :=
  pg_get (T := TX11) (N := 38) (k := 5) h.1 rfl rfl pg_inX11 (by decide) (by rw [hY]; exact pg_g (pg_t6 104 rfl) rfl) hdg kk
theorem gfX11_285 (hY : Y.1.cls = RX11) (h : pg_isX11 Λ) (hdg : decode Y.2.1 pc = .ok (.getfield 285, 3)) (kk : pg_At S Λ Y d (pc + 3) ls (.int (M.1 (207) 23) :: st) M P) : pg_At S Λ Y d pc ls (.ref (207) :: st) M P :=
  pg_get (T := TX11) (N := 38) (k := 23) h.1 rfl rfl pg_inX11 (by decide) (by rw [hY]; exact pg_g (pg_t6 122 rfl) rfl) hdg kk
theorem pfX11_285 {v : Int32} (hY : Y.1.cls = RX11) (h : pg_isX11 Λ) (hdg : decode Y.2.1 pc = .ok (.putfield 285, 3)) (kk : pg_At S Λ Y d (pc + 3) ls st (pg_si M (207) 23 v) P) : pg_At S Λ Y d pc ls (.int v :: .ref (207) :: st) M P :=
  pg_putG (T := TX11) (N := 38) (k := 23) tyX11 (ty := .int) h.1 rfl pg_inX11 tyX11_ok nmX11 (by decide) (Nat.le_of_ble_eq_true rfl) (by rw [hY]; exact pg_g (pg_t6 122 rfl) rfl) rfl (by decide +kernel) rfl rfl (pg_hvi rfl) (pg_si_off S M _ _ _) hdg kk
theorem gfX11_30 (hY : Y.1.cls = RX11) (h : pg_isX11 Λ) (hdg : decode Y.2.1 pc = .ok (.getfield 30, 3)) (kk : pg_At S Λ Y d (pc + 3) ls (.ref (211) :: st) M P) : pg_At S Λ Y d pc ls (.ref (207) :: st) M P :=
  pg_get (T := TX11) (N := 38) (k := 6) h.1 rfl rfl pg_inX11 (by decide) (by rw [hY]; exact pg_g (pg_t6 105 rfl) rfl) hdg kk
theorem gfX11_391 (hY : Y.1.cls = RX11) (h : pg_isX11 Λ) (hdg : decode Y.2.1 pc = .ok (.getfield 391, 3)) (kk : pg_At S Λ Y d (pc + 3) ls (.int (M.1 (207) 28) :: st) M P) : pg_At S Λ Y d pc ls (.ref (207) :: st) M P :=
  pg_get (T := TX11) (N := 38) (k := 28) h.1 rfl rfl pg_inX11 (by decide) (by rw [hY]; exact pg_g (pg_t6 127 rfl) rfl) hdg kk
theorem pfX11_391 {v : Int32} (hY : Y.1.cls = RX11) (h : pg_isX11 Λ) (hdg : decode Y.2.1 pc = .ok (.putfield 391, 3)) (kk : pg_At S Λ Y d (pc + 3) ls st (pg_si M (207) 28 v) P) : pg_At S Λ Y d pc ls (.int v :: .ref (207) :: st) M P :=
  pg_putG (T := TX11) (N := 38) (k := 28) tyX11 (ty := .int) h.1 rfl pg_inX11 tyX11_ok nmX11 (by decide) (Nat.le_of_ble_eq_true rfl) (by rw [hY]; exact pg_g (pg_t6 127 rfl) rfl) rfl (by decide +kernel) rfl rfl (pg_hvi rfl) (pg_si_off S M _ _ _) hdg kk
theorem gfX11_394 (hY : Y.1.cls = RX11) (h : pg_isX11 Λ) (hdg : decode Y.2.1 pc = .ok (.getfield 394, 3)) (kk : pg_At S Λ Y d (pc + 3) ls (.int (M.1 (207) 29) :: st) M P) : pg_At S Λ Y d pc ls (.ref (207) :: st) M P :=
  pg_get (T := TX11) (N := 38) (k := 29) h.1 rfl rfl pg_inX11 (by decide) (by rw [hY]; exact pg_g (pg_t6 128 rfl) rfl) hdg kk
theorem pfX11_394 {v : Int32} (hY : Y.1.cls = RX11) (h : pg_isX11 Λ) (hdg : decode Y.2.1 pc = .ok (.putfield 394, 3)) (kk : pg_At S Λ Y d (pc + 3) ls st (pg_si M (207) 29 v) P) : pg_At S Λ Y d pc ls (.int v :: .ref (207) :: st) M P :=
  pg_putG (T := TX11) (N := 38) (k := 29) tyX11 (ty := .int) h.1 rfl pg_inX11 tyX11_ok nmX11 (by decide) (Nat.le_of_ble_eq_true rfl) (by rw [hY]; exact pg_g (pg_t6 128 rfl) rfl) rfl (by decide +kernel) rfl rfl (pg_hvi rfl) (pg_si_off S M _ _ _) hdg kk
theorem gfX11_410 (hY : Y.1.cls = RX11) (h : pg_isX11 Λ) (hdg : decode Y.2.1 pc = .ok (.getfield 410, 3)) (kk : pg_At S Λ Y d (pc + 3) ls (.int (M.1 (207) 35) :: st) M P) : pg_At S Λ Y d pc ls (.ref (207) :: st) M P :=
  pg_get (T := TX11) (N := 38) (k := 35) h.1 rfl rfl pg_inX11 (by decide) (by rw [hY]; exact pg_g (pg_t6 134 rfl) rfl) hdg kk
theorem pfX11_410 {v : Int32} (hY : Y.1.cls = RX11) (h : pg_isX11 Λ) (hdg : decode Y.2.1 pc = .ok (.putfield 410, 3)) (kk : pg_At S Λ Y d (pc + 3) ls st (pg_si M (207) 35 v) P) : pg_At S Λ Y d pc ls (.int v :: .ref (207) :: st) M P :=
  pg_putG (T := TX11) (N := 38) (k := 35) tyX11 (ty := .int) h.1 rfl pg_inX11 tyX11_ok nmX11 (by decide) (Nat.le_of_ble_eq_true rfl) (by rw [hY]; exact pg_g (pg_t6 134 rfl) rfl) rfl (by decide +kernel) rfl rfl (pg_hvi rfl) (pg_si_off S M _ _ _) hdg kk
theorem gfX11_413 (hY : Y.1.cls = RX11) (h : pg_isX11 Λ) (hdg : decode Y.2.1 pc = .ok (.getfield 413, 3)) (kk : pg_At S Λ Y d (pc + 3) ls (.int (M.1 (207) 34) :: st) M P) : pg_At S Λ Y d pc ls (.ref (207) :: st) M P :=
  pg_get (T := TX11) (N := 38) (k := 34) h.1 rfl rfl pg_inX11 (by decide) (by rw [hY]; exact pg_g (pg_t6 133 rfl) rfl) hdg kk
theorem pfX11_413 {v : Int32} (hY : Y.1.cls = RX11) (h : pg_isX11 Λ) (hdg : decode Y.2.1 pc = .ok (.putfield 413, 3)) (kk : pg_At S Λ Y d (pc + 3) ls st (pg_si M (207) 34 v) P) : pg_At S Λ Y d pc ls (.int v :: .ref (207) :: st) M P :=
  pg_putG (T := TX11) (N := 38) (k := 34) tyX11 (ty := .int) h.1 rfl pg_inX11 tyX11_ok nmX11 (by decide) (Nat.le_of_ble_eq_true rfl) (by rw [hY]; exact pg_g (pg_t6 133 rfl) rfl) rfl (by decide +kernel) rfl rfl (pg_hvi rfl) (pg_si_off S M _ _ _) hdg kk
theorem gfX11_431 (hY : Y.1.cls = RX11) (h : pg_isX11 Λ) (hdg : decode Y.2.1 pc = .ok (.getfield 431, 3)) (kk : pg_At S Λ Y d (pc + 3) ls (.long (M.2.1 (207) 37) :: st) M P) : pg_At S Λ Y d pc ls (.ref (207) :: st) M P :=
  pg_get (T := TX11) (N := 38) (k := 37) h.1 rfl rfl pg_inX11 (by decide) (by rw [hY]; exact pg_g (pg_t6 136 rfl) rfl) hdg kk
theorem pfX11_431 {v : Int64} (hY : Y.1.cls = RX11) (h : pg_isX11 Λ) (hdg : decode Y.2.1 pc = .ok (.putfield 431, 3)) (kk : pg_At S Λ Y d (pc + 3) ls st (pg_sj M (207) 37 v) P) : pg_At S Λ Y d pc ls (.long v :: .ref (207) :: st) M P :=
  pg_putG (T := TX11) (N := 38) (k := 37) tyX11 (ty := .long) h.1 rfl pg_inX11 tyX11_ok nmX11 (by decide) (Nat.le_of_ble_eq_true rfl) (by rw [hY]; exact pg_g (pg_t6 136 rfl) rfl) rfl (by decide +kernel) rfl rfl (pg_hvj rfl) (pg_sj_off S M _ _ _) hdg kk
theorem gfX11_86 (hY : Y.1.cls = RX11) (h : pg_isX11 Λ) (hdg : decode Y.2.1 pc = .ok (.getfield 86, 3)) (kk : pg_At S Λ Y d (pc + 3) ls (.ref (212) :: st) M P) : pg_At S Λ Y d pc ls (.ref (207) :: st) M P :=
  pg_get (T := TX11) (N := 38) (k := 9) h.1 rfl rfl pg_inX11 (by decide) (by rw [hY]; exact pg_g (pg_t6 108 rfl) rfl) hdg kk
theorem gfX11_89 (hY : Y.1.cls = RX11) (h : pg_isX11 Λ) (hdg : decode Y.2.1 pc = .ok (.getfield 89, 3)) (kk : pg_At S Λ Y d (pc + 3) ls (.ref (213) :: st) M P) : pg_At S Λ Y d pc ls (.ref (207) :: st) M P :=
  pg_get (T := TX11) (N := 38) (k := 10) h.1 rfl rfl pg_inX11 (by decide) (by rw [hY]; exact pg_g (pg_t6 109 rfl) rfl) hdg kk
theorem gfX11_92 (hY : Y.1.cls = RX11) (h : pg_isX11 Λ) (hdg : decode Y.2.1 pc = .ok (.getfield 92, 3)) (kk : pg_At S Λ Y d (pc + 3) ls (.ref (214) :: st) M P) : pg_At S Λ Y d pc ls (.ref (207) :: st) M P :=
  pg_get (T := TX11) (N := 38) (k := 11) h.1 rfl rfl pg_inX11 (by decide) (by rw [hY]; exact pg_g (pg_t6 110 rfl) rfl) hdg kk
theorem gfX11_95 (hY : Y.1.cls = RX11) (h : pg_isX11 Λ) (hdg : decode Y.2.1 pc = .ok (.getfield 95, 3)) (kk : pg_At S Λ Y d (pc + 3) ls (.ref (215) :: st) M P) : pg_At S Λ Y d pc ls (.ref (207) :: st) M P :=
  pg_get (T := TX11) (N := 38) (k := 12) h.1 rfl rfl pg_inX11 (by decide) (by rw [hY]; exact pg_g (pg_t6 111 rfl) rfl) hdg kk
theorem gfX11_98 (hY : Y.1.cls = RX11) (h : pg_isX11 Λ) (hdg : decode Y.2.1 pc = .ok (.getfield 98, 3)) (kk : pg_At S Λ Y d (pc + 3) ls (.ref (216) :: st) M P) : pg_At S Λ Y d pc ls (.ref (207) :: st) M P :=
  pg_get (T := TX11) (N := 38) (k := 14) h.1 rfl rfl pg_inX11 (by decide) (by rw [hY]; exact pg_g (pg_t6 113 rfl) rfl) hdg kk
theorem gfX2_15 (hY : Y.1.cls = RX2) (h : pg_isX2 Λ a) (hdg : decode Y.2.1 pc = .ok (.getfield 15, 3)) (kk : pg_At S Λ Y d (pc + 3) ls (.ref (a + 2) :: st) M P) : pg_At S Λ Y d pc ls (.ref (a) :: st) M P :=
  pg_get (T := TX2) (N := 6) (k := 1) h.1 rfl rfl pg_inX2 (by decide) (by rw [hY]; exact pg_g (pg_t1 122 rfl) rfl) hdg kk
theorem gfX2_18 (hY : Y.1.cls = RX2) (h : pg_isX2 Λ a) (hdg : decode Y.2.1 pc = .ok (.getfield 18, 3)) (kk : pg_At S Λ Y d (pc + 3) ls (.ref (a + 3) :: st) M P) : pg_At S Λ Y d pc ls (.ref (a) :: st) M P :=
  pg_get (T := TX2) (N := 6) (k := 2) h.1 rfl rfl pg_inX2 (by decide) (by rw [hY]; exact pg_g (pg_t1 123 rfl) rfl) hdg kk
theorem gfX2_21 (hY : Y.1.cls = RX2) (h : pg_isX2 Λ a) (hdg : decode Y.2.1 pc = .ok (.getfield 21, 3)) (kk : pg_At S Λ Y d (pc + 3) ls (.ref (a + 4) :: st) M P) : pg_At S Λ Y d pc ls (.ref (a) :: st) M P :=
  pg_get (T := TX2) (N := 6) (k := 3) h.1 rfl rfl pg_inX2 (by decide) (by rw [hY]; exact pg_g (pg_t1 124 rfl) rfl) hdg kk
theorem gfX2_24 (hY : Y.1.cls = RX2) (h : pg_isX2 Λ a) (hdg : decode Y.2.1 pc = .ok (.getfield 24, 3)) (kk : pg_At S Λ Y d (pc + 3) ls (.ref (a + 5) :: st) M P) : pg_At S Λ Y d pc ls (.ref (a) :: st) M P :=
  pg_get (T := TX2) (N := 6) (k := 4) h.1 rfl rfl pg_inX2 (by decide) (by rw [hY]; exact pg_g (pg_t1 125 rfl) rfl) hdg kk
theorem gfX2_27 (hY : Y.1.cls = RX2) (h : pg_isX2 Λ a) (hdg : decode Y.2.1 pc = .ok (.getfield 27, 3)) (kk : pg_At S Λ Y d (pc + 3) ls (.int (M.1 (a) 5) :: st) M P) : pg_At S Λ Y d pc ls (.ref (a) :: st) M P :=
  pg_get (T := TX2) (N := 6) (k := 5) h.1 rfl rfl pg_inX2 (by decide) (by rw [hY]; exact pg_g (pg_t1 126 rfl) rfl) hdg kk
theorem pfX2_27 {v : Int32} (hY : Y.1.cls = RX2) (h : pg_isX2 Λ a) (hdg : decode Y.2.1 pc = .ok (.putfield 27, 3)) (kk : pg_At S Λ Y d (pc + 3) ls st (pg_si M (a) 5 v) P) : pg_At S Λ Y d pc ls (.int v :: .ref (a) :: st) M P :=
  pg_putG (T := TX2) (N := 6) (k := 5) tyX2 (ty := .int) h.1 rfl pg_inX2 tyX2_ok nmX2 (by decide) (Nat.le_of_ble_eq_true rfl) (by rw [hY]; exact pg_g (pg_t1 126 rfl) rfl) rfl (by decide +kernel) rfl rfl (pg_hvi rfl) (pg_si_off S M _ _ _) hdg kk
theorem gfX2_37 (hY : Y.1.cls = RX2) (h : pg_isX5 Λ a) (hdg : decode Y.2.1 pc = .ok (.getfield 37, 3)) (kk : pg_At S Λ Y d (pc + 3) ls (.int (M.1 (a) 12) :: st) M P) : pg_At S Λ Y d pc ls (.ref (a) :: st) M P :=
  pg_getN (host := "PegLaws") (T := TX5) (N := 16) (k := 12) h.1 rfl rfl pg_inX5 (by decide) (by rw [hY]; exact pg_t2 86 rfl) hdg kk
theorem gfX2_9 (hY : Y.1.cls = RX2) (h : pg_isX2 Λ a) (hdg : decode Y.2.1 pc = .ok (.getfield 9, 3)) (kk : pg_At S Λ Y d (pc + 3) ls (.ref (a + 1) :: st) M P) : pg_At S Λ Y d pc ls (.ref (a) :: st) M P :=
  pg_get (T := TX2) (N := 6) (k := 0) h.1 rfl rfl pg_inX2 (by decide) (by rw [hY]; exact pg_g (pg_t1 121 rfl) rfl) hdg kk
theorem gfX3_102 (hY : Y.1.cls = RX3) (h : pg_isX9 Λ a) (hdg : decode Y.2.1 pc = .ok (.getfield 102, 3)) (kk : pg_At S Λ Y d (pc + 3) ls (.ref (a + 1) :: st) M P) : pg_At S Λ Y d pc ls (.ref (a) :: st) M P :=
  pg_getN (host := "PegLaws") (T := TX9) (N := 6) (k := 0) h.1 rfl rfl pg_inX9 (by decide) (by rw [hY]; exact pg_t1 81 rfl) hdg kk
theorem gfX3_105 (hY : Y.1.cls = RX3) (h : pg_isX9 Λ a) (hdg : decode Y.2.1 pc = .ok (.getfield 105, 3)) (kk : pg_At S Λ Y d (pc + 3) ls (.int (M.1 (a) 5) :: st) M P) : pg_At S Λ Y d pc ls (.ref (a) :: st) M P :=
  pg_getN (host := "PegLaws") (T := TX9) (N := 6) (k := 5) h.1 rfl rfl pg_inX9 (by decide) (by rw [hY]; exact pg_t1 99 rfl) hdg kk
theorem gfX3_11 (hY : Y.1.cls = RX3) (h : pg_isX3 Λ) (hdg : decode Y.2.1 pc = .ok (.getfield 11, 3)) (kk : pg_At S Λ Y d (pc + 3) ls (.ref (154) :: st) M P) : pg_At S Λ Y d pc ls (.ref (153) :: st) M P :=
  pg_get (T := TX3) (N := 10) (k := 0) h.1 rfl rfl pg_inX3 (by decide) (by rw [hY]; exact pg_g (pg_t1 180 rfl) rfl) hdg kk
theorem gfX3_121 (hY : Y.1.cls = RX3) (h : pg_isX5 Λ a) (hdg : decode Y.2.1 pc = .ok (.getfield 121, 3)) (kk : pg_At S Λ Y d (pc + 3) ls (.ref (a + 3) :: st) M P) : pg_At S Λ Y d pc ls (.ref (a) :: st) M P :=
  pg_getN (host := "PegLaws") (T := TX5) (N := 16) (k := 2) h.1 rfl rfl pg_inX5 (by decide) (by rw [hY]; exact pg_t2 58 rfl) hdg kk
theorem gfX3_122 (hY : Y.1.cls = RX3) (h : pg_isX5 Λ a) (hdg : decode Y.2.1 pc = .ok (.getfield 122, 3)) (kk : pg_At S Λ Y d (pc + 3) ls (.ref (a + 5) :: st) M P) : pg_At S Λ Y d pc ls (.ref (a) :: st) M P :=
  pg_getN (host := "PegLaws") (T := TX5) (N := 16) (k := 4) h.1 rfl rfl pg_inX5 (by decide) (by rw [hY]; exact pg_t2 64 rfl) hdg kk
theorem gfX3_123 (hY : Y.1.cls = RX3) (h : pg_isX5 Λ a) (hdg : decode Y.2.1 pc = .ok (.getfield 123, 3)) (kk : pg_At S Λ Y d (pc + 3) ls (.int (M.1 (a) 13) :: st) M P) : pg_At S Λ Y d pc ls (.ref (a) :: st) M P :=
  pg_getN (host := "PegLaws") (T := TX5) (N := 16) (k := 13) h.1 rfl rfl pg_inX5 (by decide) (by rw [hY]; exact pg_t2 89 rfl) hdg kk
theorem gfX3_15 (hY : Y.1.cls = RX3) (h : pg_isX3 Λ) (hdg : decode Y.2.1 pc = .ok (.getfield 15, 3)) (kk : pg_At S Λ Y d (pc + 3) ls (.ref (155) :: st) M P) : pg_At S Λ Y d pc ls (.ref (153) :: st) M P :=
  pg_get (T := TX3) (N := 10) (k := 1) h.1 rfl rfl pg_inX3 (by decide) (by rw [hY]; exact pg_g (pg_t1 181 rfl) rfl) hdg kk
theorem gfX3_18 (hY : Y.1.cls = RX3) (h : pg_isX3 Λ) (hdg : decode Y.2.1 pc = .ok (.getfield 18, 3)) (kk : pg_At S Λ Y d (pc + 3) ls (.ref (156) :: st) M P) : pg_At S Λ Y d pc ls (.ref (153) :: st) M P :=
  pg_get (T := TX3) (N := 10) (k := 2) h.1 rfl rfl pg_inX3 (by decide) (by rw [hY]; exact pg_g (pg_t1 182 rfl) rfl) hdg kk
theorem gfX3_21 (hY : Y.1.cls = RX3) (h : pg_isX3 Λ) (hdg : decode Y.2.1 pc = .ok (.getfield 21, 3)) (kk : pg_At S Λ Y d (pc + 3) ls (.ref (157) :: st) M P) : pg_At S Λ Y d pc ls (.ref (153) :: st) M P :=
  pg_get (T := TX3) (N := 10) (k := 3) h.1 rfl rfl pg_inX3 (by decide) (by rw [hY]; exact pg_g (pg_t1 183 rfl) rfl) hdg kk
theorem gfX3_24 (hY : Y.1.cls = RX3) (h : pg_isX3 Λ) (hdg : decode Y.2.1 pc = .ok (.getfield 24, 3)) (kk : pg_At S Λ Y d (pc + 3) ls (.ref (158) :: st) M P) : pg_At S Λ Y d pc ls (.ref (153) :: st) M P :=
  pg_get (T := TX3) (N := 10) (k := 4) h.1 rfl rfl pg_inX3 (by decide) (by rw [hY]; exact pg_g (pg_t1 184 rfl) rfl) hdg kk
theorem gfX3_28 (hY : Y.1.cls = RX3) (h : pg_isX3 Λ) (hdg : decode Y.2.1 pc = .ok (.getfield 28, 3)) (kk : pg_At S Λ Y d (pc + 3) ls (.ref (159) :: st) M P) : pg_At S Λ Y d pc ls (.ref (153) :: st) M P :=
  pg_get (T := TX3) (N := 10) (k := 5) h.1 rfl rfl pg_inX3 (by decide) (by rw [hY]; exact pg_g (pg_t1 185 rfl) rfl) hdg kk
theorem gfX3_32 (hY : Y.1.cls = RX3) (h : pg_isX3 Λ) (hdg : decode Y.2.1 pc = .ok (.getfield 32, 3)) (kk : pg_At S Λ Y d (pc + 3) ls (.ref (160) :: st) M P) : pg_At S Λ Y d pc ls (.ref (153) :: st) M P :=
  pg_get (T := TX3) (N := 10) (k := 6) h.1 rfl rfl pg_inX3 (by decide) (by rw [hY]; exact pg_g (pg_t1 186 rfl) rfl) hdg kk
theorem gfX3_35 (hY : Y.1.cls = RX3) (h : pg_isX5 Λ a) (hdg : decode Y.2.1 pc = .ok (.getfield 35, 3)) (kk : pg_At S Λ Y d (pc + 3) ls (.int (M.1 (a) 10) :: st) M P) : pg_At S Λ Y d pc ls (.ref (a) :: st) M P :=
  pg_getN (host := "PegLaws") (T := TX5) (N := 16) (k := 10) h.1 rfl rfl pg_inX5 (by decide) (by rw [hY]; exact pg_t2 76 rfl) hdg kk
theorem gfX3_41 (hY : Y.1.cls = RX3) (h : pg_isX3 Λ) (hdg : decode Y.2.1 pc = .ok (.getfield 41, 3)) (kk : pg_At S Λ Y d (pc + 3) ls (.int (M.1 (153) 7) :: st) M P) : pg_At S Λ Y d pc ls (.ref (153) :: st) M P :=
  pg_get (T := TX3) (N := 10) (k := 7) h.1 rfl rfl pg_inX3 (by decide) (by rw [hY]; exact pg_g (pg_t1 188 rfl) rfl) hdg kk
theorem pfX3_41 {v : Int32} (hY : Y.1.cls = RX3) (h : pg_isX3 Λ) (hdg : decode Y.2.1 pc = .ok (.putfield 41, 3)) (kk : pg_At S Λ Y d (pc + 3) ls st (pg_si M (153) 7 v) P) : pg_At S Λ Y d pc ls (.int v :: .ref (153) :: st) M P :=
  pg_putG (T := TX3) (N := 10) (k := 7) tyX3 (ty := .int) h.1 rfl pg_inX3 tyX3_ok nmX3 (by decide) (Nat.le_of_ble_eq_true rfl) (by rw [hY]; exact pg_g (pg_t1 188 rfl) rfl) rfl (by decide +kernel) rfl rfl (pg_hvi rfl) (pg_si_off S M _ _ _) hdg kk
theorem gfX3_44 (hY : Y.1.cls = RX3) (h : pg_isX9 Λ a) (hdg : decode Y.2.1 pc = .ok (.getfield 44, 3)) (kk : pg_At S Λ Y d (pc + 3) ls (.int (M.1 (a) 4) :: st) M P) : pg_At S Λ Y d pc ls (.ref (a) :: st) M P :=
  pg_getN (host := "PegLaws") (T := TX9) (N := 6) (k := 4) h.1 rfl rfl pg_inX9 (by decide) (by rw [hY]; exact pg_t1 93 rfl) hdg kk
theorem gfX3_49 (hY : Y.1.cls = RX3) (h : pg_isX3 Λ) (hdg : decode Y.2.1 pc = .ok (.getfield 49, 3)) (kk : pg_At S Λ Y d (pc + 3) ls (.int (M.1 (153) 8) :: st) M P) : pg_At S Λ Y d pc ls (.ref (153) :: st) M P :=
  pg_get (T := TX3) (N := 10) (k := 8) h.1 rfl rfl pg_inX3 (by decide) (by rw [hY]; exact pg_g (pg_t1 189 rfl) rfl) hdg kk
theorem pfX3_49 {v : Int32} (hY : Y.1.cls = RX3) (h : pg_isX3 Λ) (hdg : decode Y.2.1 pc = .ok (.putfield 49, 3)) (kk : pg_At S Λ Y d (pc + 3) ls st (pg_si M (153) 8 v) P) : pg_At S Λ Y d pc ls (.int v :: .ref (153) :: st) M P :=
  pg_putG (T := TX3) (N := 10) (k := 8) tyX3 (ty := .int) h.1 rfl pg_inX3 tyX3_ok nmX3 (by decide) (Nat.le_of_ble_eq_true rfl) (by rw [hY]; exact pg_g (pg_t1 189 rfl) rfl) rfl (by decide +kernel) rfl rfl (pg_hvi rfl) (pg_si_off S M _ _ _) hdg kk
theorem gfX3_62 (hY : Y.1.cls = RX3) (h : pg_isX3 Λ) (hdg : decode Y.2.1 pc = .ok (.getfield 62, 3)) (kk : pg_At S Λ Y d (pc + 3) ls (.int (M.1 (153) 9) :: st) M P) : pg_At S Λ Y d pc ls (.ref (153) :: st) M P :=
  pg_get (T := TX3) (N := 10) (k := 9) h.1 rfl rfl pg_inX3 (by decide) (by rw [hY]; exact pg_g (pg_t1 190 rfl) rfl) hdg kk
theorem pfX3_62 {v : Int32} (hY : Y.1.cls = RX3) (h : pg_isX3 Λ) (hdg : decode Y.2.1 pc = .ok (.putfield 62, 3)) (kk : pg_At S Λ Y d (pc + 3) ls st (pg_si M (153) 9 v) P) : pg_At S Λ Y d pc ls (.int v :: .ref (153) :: st) M P :=
  pg_putG (T := TX3) (N := 10) (k := 9) tyX3 (ty := .int) h.1 rfl pg_inX3 tyX3_ok nmX3 (by decide) (Nat.le_of_ble_eq_true rfl) (by rw [hY]; exact pg_g (pg_t1 190 rfl) rfl) rfl (by decide +kernel) rfl rfl (pg_hvi rfl) (pg_si_off S M _ _ _) hdg kk
theorem gfX3_91 (hY : Y.1.cls = RX3) (h : pg_isX9 Λ a) (hdg : decode Y.2.1 pc = .ok (.getfield 91, 3)) (kk : pg_At S Λ Y d (pc + 3) ls (.ref (a + 2) :: st) M P) : pg_At S Λ Y d pc ls (.ref (a) :: st) M P :=
  pg_getN (host := "PegLaws") (T := TX9) (N := 6) (k := 1) h.1 rfl rfl pg_inX9 (by decide) (by rw [hY]; exact pg_t1 85 rfl) hdg kk
theorem gfX4_15 (hY : Y.1.cls = RX4) (h : pg_isX4 Λ) (hdg : decode Y.2.1 pc = .ok (.getfield 15, 3)) (kk : pg_At S Λ Y d (pc + 3) ls (.ref (166) :: st) M P) : pg_At S Λ Y d pc ls (.ref (164) :: st) M P :=
  pg_get (T := TX4) (N := 6) (k := 1) h.1 rfl rfl pg_inX4 (by decide) (by rw [hY]; exact pg_g (pg_t1 234 rfl) rfl) hdg kk
theorem gfX4_18 (hY : Y.1.cls = RX4) (h : pg_isX4 Λ) (hdg : decode Y.2.1 pc = .ok (.getfield 18, 3)) (kk : pg_At S Λ Y d (pc + 3) ls (.ref (167) :: st) M P) : pg_At S Λ Y d pc ls (.ref (164) :: st) M P :=
  pg_get (T := TX4) (N := 6) (k := 2) h.1 rfl rfl pg_inX4 (by decide) (by rw [hY]; exact pg_g (pg_t1 235 rfl) rfl) hdg kk
theorem gfX4_21 (hY : Y.1.cls = RX4) (h : pg_isX4 Λ) (hdg : decode Y.2.1 pc = .ok (.getfield 21, 3)) (kk : pg_At S Λ Y d (pc + 3) ls (.ref (168) :: st) M P) : pg_At S Λ Y d pc ls (.ref (164) :: st) M P :=
  pg_get (T := TX4) (N := 6) (k := 3) h.1 rfl rfl pg_inX4 (by decide) (by rw [hY]; exact pg_g (pg_t1 236 rfl) rfl) hdg kk
theorem gfX4_24 (hY : Y.1.cls = RX4) (h : pg_isX4 Λ) (hdg : decode Y.2.1 pc = .ok (.getfield 24, 3)) (kk : pg_At S Λ Y d (pc + 3) ls (.int (M.1 (164) 4) :: st) M P) : pg_At S Λ Y d pc ls (.ref (164) :: st) M P :=
  pg_get (T := TX4) (N := 6) (k := 4) h.1 rfl rfl pg_inX4 (by decide) (by rw [hY]; exact pg_g (pg_t1 238 rfl) rfl) hdg kk
theorem pfX4_24 {v : Int32} (hY : Y.1.cls = RX4) (h : pg_isX4 Λ) (hdg : decode Y.2.1 pc = .ok (.putfield 24, 3)) (kk : pg_At S Λ Y d (pc + 3) ls st (pg_si M (164) 4 v) P) : pg_At S Λ Y d pc ls (.int v :: .ref (164) :: st) M P :=
  pg_putG (T := TX4) (N := 6) (k := 4) tyX4 (ty := .int) h.1 rfl pg_inX4 tyX4_ok nmX4 (by decide) (Nat.le_of_ble_eq_true rfl) (by rw [hY]; exact pg_g (pg_t1 238 rfl) rfl) rfl (by decide +kernel) rfl rfl (pg_hvi rfl) (pg_si_off S M _ _ _) hdg kk
theorem gfX4_28 (hY : Y.1.cls = RX4) (h : pg_isX5 Λ a) (hdg : decode Y.2.1 pc = .ok (.getfield 28, 3)) (kk : pg_At S Λ Y d (pc + 3) ls (.int (M.1 (a) 10) :: st) M P) : pg_At S Λ Y d pc ls (.ref (a) :: st) M P :=
  pg_getN (host := "PegLaws") (T := TX5) (N := 16) (k := 10) h.1 rfl rfl pg_inX5 (by decide) (by rw [hY]; exact pg_t2 77 rfl) hdg kk
theorem gfX4_33 (hY : Y.1.cls = RX4) (h : pg_isX9 Λ a) (hdg : decode Y.2.1 pc = .ok (.getfield 33, 3)) (kk : pg_At S Λ Y d (pc + 3) ls (.ref (a + 3) :: st) M P) : pg_At S Λ Y d pc ls (.ref (a) :: st) M P :=
  pg_getN (host := "PegLaws") (T := TX9) (N := 6) (k := 2) h.1 rfl rfl pg_inX9 (by decide) (by rw [hY]; exact pg_t1 88 rfl) hdg kk
theorem gfX4_38 (hY : Y.1.cls = RX4) (h : pg_isX9 Λ a) (hdg : decode Y.2.1 pc = .ok (.getfield 38, 3)) (kk : pg_At S Λ Y d (pc + 3) ls (.ref (a + 2) :: st) M P) : pg_At S Λ Y d pc ls (.ref (a) :: st) M P :=
  pg_getN (host := "PegLaws") (T := TX9) (N := 6) (k := 1) h.1 rfl rfl pg_inX9 (by decide) (by rw [hY]; exact pg_t1 84 rfl) hdg kk
theorem gfX4_41 (hY : Y.1.cls = RX4) (h : pg_isX9 Λ a) (hdg : decode Y.2.1 pc = .ok (.getfield 41, 3)) (kk : pg_At S Λ Y d (pc + 3) ls (.int (M.1 (a) 5) :: st) M P) : pg_At S Λ Y d pc ls (.ref (a) :: st) M P :=
  pg_getN (host := "PegLaws") (T := TX9) (N := 6) (k := 5) h.1 rfl rfl pg_inX9 (by decide) (by rw [hY]; exact pg_t1 98 rfl) hdg kk
theorem pfX4_52 {v : Int32} (hY : Y.1.cls = RX4) (h : pg_isX4 Λ) (hdg : decode Y.2.1 pc = .ok (.putfield 52, 3)) (kk : pg_At S Λ Y d (pc + 3) ls st (pg_si M (164) 5 v) P) : pg_At S Λ Y d pc ls (.int v :: .ref (164) :: st) M P :=
  pg_putG (T := TX4) (N := 6) (k := 5) tyX4 (ty := .int) h.1 rfl pg_inX4 tyX4_ok nmX4 (by decide) (Nat.le_of_ble_eq_true rfl) (by rw [hY]; exact pg_g (pg_t2 0 rfl) rfl) rfl (by decide +kernel) rfl rfl (pg_hvi rfl) (pg_si_off S M _ _ _) hdg kk
theorem gfX4_9 (hY : Y.1.cls = RX4) (h : pg_isX4 Λ) (hdg : decode Y.2.1 pc = .ok (.getfield 9, 3)) (kk : pg_At S Λ Y d (pc + 3) ls (.ref (165) :: st) M P) : pg_At S Λ Y d pc ls (.ref (164) :: st) M P :=
  pg_get (T := TX4) (N := 6) (k := 0) h.1 rfl rfl pg_inX4 (by decide) (by rw [hY]; exact pg_g (pg_t1 233 rfl) rfl) hdg kk
theorem gfX5_15 (hY : Y.1.cls = RX5) (h : pg_isX5 Λ a) (hdg : decode Y.2.1 pc = .ok (.getfield 15, 3)) (kk : pg_At S Λ Y d (pc + 3) ls (.ref (a + 2) :: st) M P) : pg_At S Λ Y d pc ls (.ref (a) :: st) M P :=
  pg_get (T := TX5) (N := 16) (k := 1) h.1 rfl rfl pg_inX5 (by decide) (by rw [hY]; exact pg_g (pg_t2 54 rfl) rfl) hdg kk
theorem gfX5_19 (hY : Y.1.cls = RX5) (h : pg_isX5 Λ a) (hdg : decode Y.2.1 pc = .ok (.getfield 19, 3)) (kk : pg_At S Λ Y d (pc + 3) ls (.ref (a + 3) :: st) M P) : pg_At S Λ Y d pc ls (.ref (a) :: st) M P :=
  pg_get (T := TX5) (N := 16) (k := 2) h.1 rfl rfl pg_inX5 (by decide) (by rw [hY]; exact pg_g (pg_t2 57 rfl) rfl) hdg kk
theorem gfX5_22 (hY : Y.1.cls = RX5) (h : pg_isX5 Λ a) (hdg : decode Y.2.1 pc = .ok (.getfield 22, 3)) (kk : pg_At S Λ Y d (pc + 3) ls (.ref (a + 4) :: st) M P) : pg_At S Λ Y d pc ls (.ref (a) :: st) M P :=
  pg_get (T := TX5) (N := 16) (k := 3) h.1 rfl rfl pg_inX5 (by decide) (by rw [hY]; exact pg_g (pg_t2 61 rfl) rfl) hdg kk
theorem gfX5_25 (hY : Y.1.cls = RX5) (h : pg_isX5 Λ a) (hdg : decode Y.2.1 pc = .ok (.getfield 25, 3)) (kk : pg_At S Λ Y d (pc + 3) ls (.ref (a + 5) :: st) M P) : pg_At S Λ Y d pc ls (.ref (a) :: st) M P :=
  pg_get (T := TX5) (N := 16) (k := 4) h.1 rfl rfl pg_inX5 (by decide) (by rw [hY]; exact pg_g (pg_t2 63 rfl) rfl) hdg kk
theorem gfX5_28 (hY : Y.1.cls = RX5) (h : pg_isX5 Λ a) (hdg : decode Y.2.1 pc = .ok (.getfield 28, 3)) (kk : pg_At S Λ Y d (pc + 3) ls (.ref (a + 6) :: st) M P) : pg_At S Λ Y d pc ls (.ref (a) :: st) M P :=
  pg_get (T := TX5) (N := 16) (k := 5) h.1 rfl rfl pg_inX5 (by decide) (by rw [hY]; exact pg_g (pg_t2 66 rfl) rfl) hdg kk
theorem gfX5_34 (hY : Y.1.cls = RX5) (h : pg_isX5 Λ a) (hdg : decode Y.2.1 pc = .ok (.getfield 34, 3)) (kk : pg_At S Λ Y d (pc + 3) ls (.ref (a + 8) :: st) M P) : pg_At S Λ Y d pc ls (.ref (a) :: st) M P :=
  pg_get (T := TX5) (N := 16) (k := 7) h.1 rfl rfl pg_inX5 (by decide) (by rw [hY]; exact pg_g (pg_t2 70 rfl) rfl) hdg kk
theorem gfX5_40 (hY : Y.1.cls = RX5) (h : pg_isX5 Λ a) (hdg : decode Y.2.1 pc = .ok (.getfield 40, 3)) (kk : pg_At S Λ Y d (pc + 3) ls (.ref (a + 9) :: st) M P) : pg_At S Λ Y d pc ls (.ref (a) :: st) M P :=
  pg_get (T := TX5) (N := 16) (k := 8) h.1 rfl rfl pg_inX5 (by decide) (by rw [hY]; exact pg_g (pg_t2 72 rfl) rfl) hdg kk
theorem gfX5_44 (hY : Y.1.cls = RX5) (h : pg_isX5 Λ a) (hdg : decode Y.2.1 pc = .ok (.getfield 44, 3)) (kk : pg_At S Λ Y d (pc + 3) ls (.ref (a + 12) :: st) M P) : pg_At S Λ Y d pc ls (.ref (a) :: st) M P :=
  pg_get (T := TX5) (N := 16) (k := 9) h.1 rfl rfl pg_inX5 (by decide) (by rw [hY]; exact pg_g (pg_t2 74 rfl) rfl) hdg kk
theorem gfX5_56 (hY : Y.1.cls = RX5) (h : pg_isX5 Λ a) (hdg : decode Y.2.1 pc = .ok (.getfield 56, 3)) (kk : pg_At S Λ Y d (pc + 3) ls (.int (M.1 (a) 10) :: st) M P) : pg_At S Λ Y d pc ls (.ref (a) :: st) M P :=
  pg_get (T := TX5) (N := 16) (k := 10) h.1 rfl rfl pg_inX5 (by decide) (by rw [hY]; exact pg_g (pg_t2 78 rfl) rfl) hdg kk
theorem pfX5_56 {v : Int32} (hY : Y.1.cls = RX5) (h : pg_isX5 Λ a) (hdg : decode Y.2.1 pc = .ok (.putfield 56, 3)) (kk : pg_At S Λ Y d (pc + 3) ls st (pg_si M (a) 10 v) P) : pg_At S Λ Y d pc ls (.int v :: .ref (a) :: st) M P :=
  pg_putG (T := TX5) (N := 16) (k := 10) tyX5 (ty := .int) h.1 rfl pg_inX5 tyX5_ok nmX5 (by decide) (Nat.le_of_ble_eq_true rfl) (by rw [hY]; exact pg_g (pg_t2 78 rfl) rfl) rfl (by decide +kernel) rfl rfl (pg_hvi rfl) (pg_si_off S M _ _ _) hdg kk
theorem pfX5_60 {v : Int32} (hY : Y.1.cls = RX5) (h : pg_isX5 Λ a) (hdg : decode Y.2.1 pc = .ok (.putfield 60, 3)) (kk : pg_At S Λ Y d (pc + 3) ls st (pg_si M (a) 11 v) P) : pg_At S Λ Y d pc ls (.int v :: .ref (a) :: st) M P :=
  pg_putG (T := TX5) (N := 16) (k := 11) tyX5 (ty := .int) h.1 rfl pg_inX5 tyX5_ok nmX5 (by decide) (Nat.le_of_ble_eq_true rfl) (by rw [hY]; exact pg_g (pg_t2 82 rfl) rfl) rfl (by decide +kernel) rfl rfl (pg_hvi rfl) (pg_si_off S M _ _ _) hdg kk
theorem gfX5_63 (hY : Y.1.cls = RX5) (h : pg_isX5 Λ a) (hdg : decode Y.2.1 pc = .ok (.getfield 63, 3)) (kk : pg_At S Λ Y d (pc + 3) ls (.int (M.1 (a) 12) :: st) M P) : pg_At S Λ Y d pc ls (.ref (a) :: st) M P :=
  pg_get (T := TX5) (N := 16) (k := 12) h.1 rfl rfl pg_inX5 (by decide) (by rw [hY]; exact pg_g (pg_t2 85 rfl) rfl) hdg kk
theorem pfX5_63 {v : Int32} (hY : Y.1.cls = RX5) (h : pg_isX5 Λ a) (hdg : decode Y.2.1 pc = .ok (.putfield 63, 3)) (kk : pg_At S Λ Y d (pc + 3) ls st (pg_si M (a) 12 v) P) : pg_At S Λ Y d pc ls (.int v :: .ref (a) :: st) M P :=
  pg_putG (T := TX5) (N := 16) (k := 12) tyX5 (ty := .int) h.1 rfl pg_inX5 tyX5_ok nmX5 (by decide) (Nat.le_of_ble_eq_true rfl) (by rw [hY]; exact pg_g (pg_t2 85 rfl) rfl) rfl (by decide +kernel) rfl rfl (pg_hvi rfl) (pg_si_off S M _ _ _) hdg kk
theorem pfX5_66 {v : Int32} (hY : Y.1.cls = RX5) (h : pg_isX5 Λ a) (hdg : decode Y.2.1 pc = .ok (.putfield 66, 3)) (kk : pg_At S Λ Y d (pc + 3) ls st (pg_si M (a) 13 v) P) : pg_At S Λ Y d pc ls (.int v :: .ref (a) :: st) M P :=
  pg_putG (T := TX5) (N := 16) (k := 13) tyX5 (ty := .int) h.1 rfl pg_inX5 tyX5_ok nmX5 (by decide) (Nat.le_of_ble_eq_true rfl) (by rw [hY]; exact pg_g (pg_t2 88 rfl) rfl) rfl (by decide +kernel) rfl rfl (pg_hvi rfl) (pg_si_off S M _ _ _) hdg kk
theorem pfX5_69 {v : Int32} (hY : Y.1.cls = RX5) (h : pg_isX5 Λ a) (hdg : decode Y.2.1 pc = .ok (.putfield 69, 3)) (kk : pg_At S Λ Y d (pc + 3) ls st (pg_si M (a) 14 v) P) : pg_At S Λ Y d pc ls (.int v :: .ref (a) :: st) M P :=
  pg_putG (T := TX5) (N := 16) (k := 14) tyX5 (ty := .int) h.1 rfl pg_inX5 tyX5_ok nmX5 (by decide) (Nat.le_of_ble_eq_true rfl) (by rw [hY]; exact pg_g (pg_t2 93 rfl) rfl) rfl (by decide +kernel) rfl rfl (pg_hvi rfl) (pg_si_off S M _ _ _) hdg kk
theorem gfX5_72 (hY : Y.1.cls = RX5) (h : pg_isX5 Λ a) (hdg : decode Y.2.1 pc = .ok (.getfield 72, 3)) (kk : pg_At S Λ Y d (pc + 3) ls (.int (M.1 (a) 15) :: st) M P) : pg_At S Λ Y d pc ls (.ref (a) :: st) M P :=
  pg_get (T := TX5) (N := 16) (k := 15) h.1 rfl rfl pg_inX5 (by decide) (by rw [hY]; exact pg_g (pg_t2 97 rfl) rfl) hdg kk
theorem pfX5_72 {v : Int32} (hY : Y.1.cls = RX5) (h : pg_isX5 Λ a) (hdg : decode Y.2.1 pc = .ok (.putfield 72, 3)) (kk : pg_At S Λ Y d (pc + 3) ls st (pg_si M (a) 15 v) P) : pg_At S Λ Y d pc ls (.int v :: .ref (a) :: st) M P :=
  pg_putG (T := TX5) (N := 16) (k := 15) tyX5 (ty := .int) h.1 rfl pg_inX5 tyX5_ok nmX5 (by decide) (Nat.le_of_ble_eq_true rfl) (by rw [hY]; exact pg_g (pg_t2 97 rfl) rfl) rfl (by decide +kernel) rfl rfl (pg_hvi rfl) (pg_si_off S M _ _ _) hdg kk
theorem gfX5_9 (hY : Y.1.cls = RX5) (h : pg_isX5 Λ a) (hdg : decode Y.2.1 pc = .ok (.getfield 9, 3)) (kk : pg_At S Λ Y d (pc + 3) ls (.ref (a + 1) :: st) M P) : pg_At S Λ Y d pc ls (.ref (a) :: st) M P :=
  pg_get (T := TX5) (N := 16) (k := 0) h.1 rfl rfl pg_inX5 (by decide) (by rw [hY]; exact pg_g (pg_t2 52 rfl) rfl) hdg kk
theorem gfX6_11 (hY : Y.1.cls = RX6) (h : pg_isX6 Λ) (hdg : decode Y.2.1 pc = .ok (.getfield 11, 3)) (kk : pg_At S Λ Y d (pc + 3) ls (.ref (20) :: st) M P) : pg_At S Λ Y d pc ls (.ref (19) :: st) M P :=
  pg_get (T := TX6) (N := 6) (k := 0) h.1 rfl rfl pg_inX6 (by decide) (by rw [hY]; exact pg_g (pg_t1 153 rfl) rfl) hdg kk
theorem gfX6_17 (hY : Y.1.cls = RX6) (h : pg_isX6 Λ) (hdg : decode Y.2.1 pc = .ok (.getfield 17, 3)) (kk : pg_At S Λ Y d (pc + 3) ls (.ref (21) :: st) M P) : pg_At S Λ Y d pc ls (.ref (19) :: st) M P :=
  pg_get (T := TX6) (N := 6) (k := 1) h.1 rfl rfl pg_inX6 (by decide) (by rw [hY]; exact pg_g (pg_t1 154 rfl) rfl) hdg kk
theorem gfX6_22 (hY : Y.1.cls = RX6) (h : pg_isX6 Λ) (hdg : decode Y.2.1 pc = .ok (.getfield 22, 3)) (kk : pg_At S Λ Y d (pc + 3) ls (.ref (22) :: st) M P) : pg_At S Λ Y d pc ls (.ref (19) :: st) M P :=
  pg_get (T := TX6) (N := 6) (k := 2) h.1 rfl rfl pg_inX6 (by decide) (by rw [hY]; exact pg_g (pg_t1 155 rfl) rfl) hdg kk
theorem gfX6_26 (hY : Y.1.cls = RX6) (h : pg_isX6 Λ) (hdg : decode Y.2.1 pc = .ok (.getfield 26, 3)) (kk : pg_At S Λ Y d (pc + 3) ls (.ref (23) :: st) M P) : pg_At S Λ Y d pc ls (.ref (19) :: st) M P :=
  pg_get (T := TX6) (N := 6) (k := 3) h.1 rfl rfl pg_inX6 (by decide) (by rw [hY]; exact pg_g (pg_t1 156 rfl) rfl) hdg kk
theorem gfX6_32 (hY : Y.1.cls = RX6) (h : pg_isX6 Λ) (hdg : decode Y.2.1 pc = .ok (.getfield 32, 3)) (kk : pg_At S Λ Y d (pc + 3) ls (.int (M.1 (19) 5) :: st) M P) : pg_At S Λ Y d pc ls (.ref (19) :: st) M P :=
  pg_get (T := TX6) (N := 6) (k := 5) h.1 rfl rfl pg_inX6 (by decide) (by rw [hY]; exact pg_g (pg_t1 158 rfl) rfl) hdg kk
theorem pfX6_32 {v : Int32} (hY : Y.1.cls = RX6) (h : pg_isX6 Λ) (hdg : decode Y.2.1 pc = .ok (.putfield 32, 3)) (kk : pg_At S Λ Y d (pc + 3) ls st (pg_si M (19) 5 v) P) : pg_At S Λ Y d pc ls (.int v :: .ref (19) :: st) M P :=
  pg_putG (T := TX6) (N := 6) (k := 5) tyX6 (ty := .int) h.1 rfl pg_inX6 tyX6_ok nmX6 (by decide) (Nat.le_of_ble_eq_true rfl) (by rw [hY]; exact pg_g (pg_t1 158 rfl) rfl) rfl (by decide +kernel) rfl rfl (pg_hvi rfl) (pg_si_off S M _ _ _) hdg kk
theorem gfX6_36 (hY : Y.1.cls = RX6) (h : pg_isX6 Λ) (hdg : decode Y.2.1 pc = .ok (.getfield 36, 3)) (kk : pg_At S Λ Y d (pc + 3) ls (.int (M.1 (19) 4) :: st) M P) : pg_At S Λ Y d pc ls (.ref (19) :: st) M P :=
  pg_get (T := TX6) (N := 6) (k := 4) h.1 rfl rfl pg_inX6 (by decide) (by rw [hY]; exact pg_g (pg_t1 157 rfl) rfl) hdg kk
theorem pfX6_36 {v : Int32} (hY : Y.1.cls = RX6) (h : pg_isX6 Λ) (hdg : decode Y.2.1 pc = .ok (.putfield 36, 3)) (kk : pg_At S Λ Y d (pc + 3) ls st (pg_si M (19) 4 v) P) : pg_At S Λ Y d pc ls (.int v :: .ref (19) :: st) M P :=
  pg_putG (T := TX6) (N := 6) (k := 4) tyX6 (ty := .int) h.1 rfl pg_inX6 tyX6_ok nmX6 (by decide) (Nat.le_of_ble_eq_true rfl) (by rw [hY]; exact pg_g (pg_t1 157 rfl) rfl) rfl (by decide +kernel) rfl rfl (pg_hvi rfl) (pg_si_off S M _ _ _) hdg kk
theorem gfX7_105 (hY : Y.1.cls = RX7) (h : pg_isX5 Λ a) (hdg : decode Y.2.1 pc = .ok (.getfield 105, 3)) (kk : pg_At S Λ Y d (pc + 3) ls (.ref (a + 4) :: st) M P) : pg_At S Λ Y d pc ls (.ref (a) :: st) M P :=
  pg_getN (host := "PegLaws") (T := TX5) (N := 16) (k := 3) h.1 rfl rfl pg_inX5 (by decide) (by rw [hY]; exact pg_t2 62 rfl) hdg kk
theorem gfX7_108 (hY : Y.1.cls = RX7) (h : pg_isX5 Λ a) (hdg : decode Y.2.1 pc = .ok (.getfield 108, 3)) (kk : pg_At S Λ Y d (pc + 3) ls (.ref (a + 5) :: st) M P) : pg_At S Λ Y d pc ls (.ref (a) :: st) M P :=
  pg_getN (host := "PegLaws") (T := TX5) (N := 16) (k := 4) h.1 rfl rfl pg_inX5 (by decide) (by rw [hY]; exact pg_t2 65 rfl) hdg kk
theorem gfX7_130 (hY : Y.1.cls = RX7) (h : pg_isX5 Λ a) (hdg : decode Y.2.1 pc = .ok (.getfield 130, 3)) (kk : pg_At S Λ Y d (pc + 3) ls (.ref (a + 7) :: st) M P) : pg_At S Λ Y d pc ls (.ref (a) :: st) M P :=
  pg_getN (host := "PegLaws") (T := TX5) (N := 16) (k := 6) h.1 rfl rfl pg_inX5 (by decide) (by rw [hY]; exact pg_t2 69 rfl) hdg kk
theorem pfX7_137 {v : Int32} (hY : Y.1.cls = RX7) (h : pg_isX5 Λ a) (hdg : decode Y.2.1 pc = .ok (.putfield 137, 3)) (kk : pg_At S Λ Y d (pc + 3) ls st (pg_si M (a) 11 v) P) : pg_At S Λ Y d pc ls (.int v :: .ref (a) :: st) M P :=
  pg_putGN (host := "PegLaws") (T := TX5) (N := 16) (k := 11) tyX5 (ty := .int) h.1 rfl pg_inX5 tyX5_ok nmX5 (by decide) (Nat.le_of_ble_eq_true rfl) (by rw [hY]; exact pg_t2 84 rfl) rfl (by decide +kernel) rfl rfl (pg_hvi rfl) (pg_si_off S M _ _ _) hdg kk
theorem gfX7_140 (hY : Y.1.cls = RX7) (h : pg_isX5 Λ a) (hdg : decode Y.2.1 pc = .ok (.getfield 140, 3)) (kk : pg_At S Λ Y d (pc + 3) ls (.ref (a + 8) :: st) M P) : pg_At S Λ Y d pc ls (.ref (a) :: st) M P :=
  pg_getN (host := "PegLaws") (T := TX5) (N := 16) (k := 7) h.1 rfl rfl pg_inX5 (by decide) (by rw [hY]; exact pg_t2 71 rfl) hdg kk
theorem pfX7_143 {v : Int32} (hY : Y.1.cls = RX7) (h : pg_isX5 Λ a) (hdg : decode Y.2.1 pc = .ok (.putfield 143, 3)) (kk : pg_At S Λ Y d (pc + 3) ls st (pg_si M (a) 12 v) P) : pg_At S Λ Y d pc ls (.int v :: .ref (a) :: st) M P :=
  pg_putGN (host := "PegLaws") (T := TX5) (N := 16) (k := 12) tyX5 (ty := .int) h.1 rfl pg_inX5 tyX5_ok nmX5 (by decide) (Nat.le_of_ble_eq_true rfl) (by rw [hY]; exact pg_t2 87 rfl) rfl (by decide +kernel) rfl rfl (pg_hvi rfl) (pg_si_off S M _ _ _) hdg kk
theorem pfX7_146 {v : Int32} (hY : Y.1.cls = RX7) (h : pg_isX5 Λ a) (hdg : decode Y.2.1 pc = .ok (.putfield 146, 3)) (kk : pg_At S Λ Y d (pc + 3) ls st (pg_si M (a) 13 v) P) : pg_At S Λ Y d pc ls (.int v :: .ref (a) :: st) M P :=
  pg_putGN (host := "PegLaws") (T := TX5) (N := 16) (k := 13) tyX5 (ty := .int) h.1 rfl pg_inX5 tyX5_ok nmX5 (by decide) (Nat.le_of_ble_eq_true rfl) (by rw [hY]; exact pg_t2 91 rfl) rfl (by decide +kernel) rfl rfl (pg_hvi rfl) (pg_si_off S M _ _ _) hdg kk
theorem pfX7_149 {v : Int32} (hY : Y.1.cls = RX7) (h : pg_isX5 Λ a) (hdg : decode Y.2.1 pc = .ok (.putfield 149, 3)) (kk : pg_At S Λ Y d (pc + 3) ls st (pg_si M (a) 14 v) P) : pg_At S Λ Y d pc ls (.int v :: .ref (a) :: st) M P :=
  pg_putGN (host := "PegLaws") (T := TX5) (N := 16) (k := 14) tyX5 (ty := .int) h.1 rfl pg_inX5 tyX5_ok nmX5 (by decide) (Nat.le_of_ble_eq_true rfl) (by rw [hY]; exact pg_t2 95 rfl) rfl (by decide +kernel) rfl rfl (pg_hvi rfl) (pg_si_off S M _ _ _) hdg kk
theorem gfX7_152 (hY : Y.1.cls = RX7) (h : pg_isX5 Λ a) (hdg : decode Y.2.1 pc = .ok (.getfield 152, 3)) (kk : pg_At S Λ Y d (pc + 3) ls (.ref (a + 9) :: st) M P) : pg_At S Λ Y d pc ls (.ref (a) :: st) M P :=
  pg_getN (host := "PegLaws") (T := TX5) (N := 16) (k := 8) h.1 rfl rfl pg_inX5 (by decide) (by rw [hY]; exact pg_t2 73 rfl) hdg kk
theorem gfX7_163 (hY : Y.1.cls = RX7) (h : pg_isX5 Λ a) (hdg : decode Y.2.1 pc = .ok (.getfield 163, 3)) (kk : pg_At S Λ Y d (pc + 3) ls (.ref (a + 12) :: st) M P) : pg_At S Λ Y d pc ls (.ref (a) :: st) M P :=
  pg_getN (host := "PegLaws") (T := TX5) (N := 16) (k := 9) h.1 rfl rfl pg_inX5 (by decide) (by rw [hY]; exact pg_t2 75 rfl) hdg kk
theorem gfX7_169 (hY : Y.1.cls = RX7) (h : pg_isX1 Λ a) (hdg : decode Y.2.1 pc = .ok (.getfield 169, 3)) (kk : pg_At S Λ Y d (pc + 3) ls (.int (M.1 (a) 3) :: st) M P) : pg_At S Λ Y d pc ls (.ref (a) :: st) M P :=
  pg_getN (host := "PegLaws") (T := TX1) (N := 6) (k := 3) h.1 rfl rfl pg_inX1 (by decide) (by rw [hY]; exact pg_t2 142 rfl) hdg kk
theorem gfX7_17 (hY : Y.1.cls = RX7) (h : pg_isX7 Λ) (hdg : decode Y.2.1 pc = .ok (.getfield 17, 3)) (kk : pg_At S Λ Y d (pc + 3) ls (.int (M.1 (1) 1) :: st) M P) : pg_At S Λ Y d pc ls (.ref (1) :: st) M P :=
  pg_get (T := TX7) (N := 10) (k := 1) h.1 rfl rfl pg_inX7 (by decide) (by rw [hY]; exact pg_g (pg_t1 42 rfl) rfl) hdg kk
theorem pfX7_17 {v : Int32} (hY : Y.1.cls = RX7) (h : pg_isX7 Λ) (hdg : decode Y.2.1 pc = .ok (.putfield 17, 3)) (kk : pg_At S Λ Y d (pc + 3) ls st (pg_si M (1) 1 v) P) : pg_At S Λ Y d pc ls (.int v :: .ref (1) :: st) M P :=
  pg_putG (T := TX7) (N := 10) (k := 1) tyX7 (ty := .int) h.1 rfl pg_inX7 tyX7_ok nmX7 (by decide) (Nat.le_of_ble_eq_true rfl) (by rw [hY]; exact pg_g (pg_t1 42 rfl) rfl) rfl (by decide +kernel) rfl rfl (pg_hvi rfl) (pg_si_off S M _ _ _) hdg kk
theorem gfX7_194 (hY : Y.1.cls = RX7) (h : pg_isX7 Λ) (hdg : decode Y.2.1 pc = .ok (.getfield 194, 3)) (kk : pg_At S Λ Y d (pc + 3) ls (.int (M.1 (1) 5) :: st) M P) : pg_At S Λ Y d pc ls (.ref (1) :: st) M P :=
  pg_get (T := TX7) (N := 10) (k := 5) h.1 rfl rfl pg_inX7 (by decide) (by rw [hY]; exact pg_g (pg_t1 46 rfl) rfl) hdg kk
theorem pfX7_194 {v : Int32} (hY : Y.1.cls = RX7) (h : pg_isX7 Λ) (hdg : decode Y.2.1 pc = .ok (.putfield 194, 3)) (kk : pg_At S Λ Y d (pc + 3) ls st (pg_si M (1) 5 v) P) : pg_At S Λ Y d pc ls (.int v :: .ref (1) :: st) M P :=
  pg_putG (T := TX7) (N := 10) (k := 5) tyX7 (ty := .int) h.1 rfl pg_inX7 tyX7_ok nmX7 (by decide) (Nat.le_of_ble_eq_true rfl) (by rw [hY]; exact pg_g (pg_t1 46 rfl) rfl) rfl (by decide +kernel) rfl rfl (pg_hvi rfl) (pg_si_off S M _ _ _) hdg kk
theorem gfX7_197 (hY : Y.1.cls = RX7) (h : pg_isX7 Λ) (hdg : decode Y.2.1 pc = .ok (.getfield 197, 3)) (kk : pg_At S Λ Y d (pc + 3) ls (.int (M.1 (1) 2) :: st) M P) : pg_At S Λ Y d pc ls (.ref (1) :: st) M P :=
  pg_get (T := TX7) (N := 10) (k := 2) h.1 rfl rfl pg_inX7 (by decide) (by rw [hY]; exact pg_g (pg_t1 43 rfl) rfl) hdg kk
theorem pfX7_197 {v : Int32} (hY : Y.1.cls = RX7) (h : pg_isX7 Λ) (hdg : decode Y.2.1 pc = .ok (.putfield 197, 3)) (kk : pg_At S Λ Y d (pc + 3) ls st (pg_si M (1) 2 v) P) : pg_At S Λ Y d pc ls (.int v :: .ref (1) :: st) M P :=
  pg_putG (T := TX7) (N := 10) (k := 2) tyX7 (ty := .int) h.1 rfl pg_inX7 tyX7_ok nmX7 (by decide) (Nat.le_of_ble_eq_true rfl) (by rw [hY]; exact pg_g (pg_t1 43 rfl) rfl) rfl (by decide +kernel) rfl rfl (pg_hvi rfl) (pg_si_off S M _ _ _) hdg kk
theorem gfX7_26 (hY : Y.1.cls = RX7) (h : pg_isX7 Λ) (hdg : decode Y.2.1 pc = .ok (.getfield 26, 3)) (kk : pg_At S Λ Y d (pc + 3) ls (.int (M.1 (1) 8) :: st) M P) : pg_At S Λ Y d pc ls (.ref (1) :: st) M P :=
  pg_get (T := TX7) (N := 10) (k := 8) h.1 rfl rfl pg_inX7 (by decide) (by rw [hY]; exact pg_g (pg_t1 49 rfl) rfl) hdg kk
theorem pfX7_26 {v : Int32} (hY : Y.1.cls = RX7) (h : pg_isX7 Λ) (hdg : decode Y.2.1 pc = .ok (.putfield 26, 3)) (kk : pg_At S Λ Y d (pc + 3) ls st (pg_si M (1) 8 v) P) : pg_At S Λ Y d pc ls (.int v :: .ref (1) :: st) M P :=
  pg_putG (T := TX7) (N := 10) (k := 8) tyX7 (ty := .int) h.1 rfl pg_inX7 tyX7_ok nmX7 (by decide) (Nat.le_of_ble_eq_true rfl) (by rw [hY]; exact pg_g (pg_t1 49 rfl) rfl) rfl (by decide +kernel) rfl rfl (pg_hvi rfl) (pg_si_off S M _ _ _) hdg kk
theorem gfX7_32 (hY : Y.1.cls = RX7) (h : pg_isX7 Λ) (hdg : decode Y.2.1 pc = .ok (.getfield 32, 3)) (kk : pg_At S Λ Y d (pc + 3) ls (.int (M.1 (1) 9) :: st) M P) : pg_At S Λ Y d pc ls (.ref (1) :: st) M P :=
  pg_get (T := TX7) (N := 10) (k := 9) h.1 rfl rfl pg_inX7 (by decide) (by rw [hY]; exact pg_g (pg_t1 50 rfl) rfl) hdg kk
theorem pfX7_32 {v : Int32} (hY : Y.1.cls = RX7) (h : pg_isX7 Λ) (hdg : decode Y.2.1 pc = .ok (.putfield 32, 3)) (kk : pg_At S Λ Y d (pc + 3) ls st (pg_si M (1) 9 v) P) : pg_At S Λ Y d pc ls (.int v :: .ref (1) :: st) M P :=
  pg_putG (T := TX7) (N := 10) (k := 9) tyX7 (ty := .int) h.1 rfl pg_inX7 tyX7_ok nmX7 (by decide) (Nat.le_of_ble_eq_true rfl) (by rw [hY]; exact pg_g (pg_t1 50 rfl) rfl) rfl (by decide +kernel) rfl rfl (pg_hvi rfl) (pg_si_off S M _ _ _) hdg kk
theorem gfX7_35 (hY : Y.1.cls = RX7) (h : pg_isX7 Λ) (hdg : decode Y.2.1 pc = .ok (.getfield 35, 3)) (kk : pg_At S Λ Y d (pc + 3) ls (.int (M.1 (1) 4) :: st) M P) : pg_At S Λ Y d pc ls (.ref (1) :: st) M P :=
  pg_get (T := TX7) (N := 10) (k := 4) h.1 rfl rfl pg_inX7 (by decide) (by rw [hY]; exact pg_g (pg_t1 45 rfl) rfl) hdg kk
theorem pfX7_35 {v : Int32} (hY : Y.1.cls = RX7) (h : pg_isX7 Λ) (hdg : decode Y.2.1 pc = .ok (.putfield 35, 3)) (kk : pg_At S Λ Y d (pc + 3) ls st (pg_si M (1) 4 v) P) : pg_At S Λ Y d pc ls (.int v :: .ref (1) :: st) M P :=
  pg_putG (T := TX7) (N := 10) (k := 4) tyX7 (ty := .int) h.1 rfl pg_inX7 tyX7_ok nmX7 (by decide) (Nat.le_of_ble_eq_true rfl) (by rw [hY]; exact pg_g (pg_t1 45 rfl) rfl) rfl (by decide +kernel) rfl rfl (pg_hvi rfl) (pg_si_off S M _ _ _) hdg kk
theorem gfX7_49 (hY : Y.1.cls = RX7) (h : pg_isX7 Λ) (hdg : decode Y.2.1 pc = .ok (.getfield 49, 3)) (kk : pg_At S Λ Y d (pc + 3) ls (.int (M.1 (1) 3) :: st) M P) : pg_At S Λ Y d pc ls (.ref (1) :: st) M P :=
  pg_get (T := TX7) (N := 10) (k := 3) h.1 rfl rfl pg_inX7 (by decide) (by rw [hY]; exact pg_g (pg_t1 44 rfl) rfl) hdg kk
theorem pfX7_49 {v : Int32} (hY : Y.1.cls = RX7) (h : pg_isX7 Λ) (hdg : decode Y.2.1 pc = .ok (.putfield 49, 3)) (kk : pg_At S Λ Y d (pc + 3) ls st (pg_si M (1) 3 v) P) : pg_At S Λ Y d pc ls (.int v :: .ref (1) :: st) M P :=
  pg_putG (T := TX7) (N := 10) (k := 3) tyX7 (ty := .int) h.1 rfl pg_inX7 tyX7_ok nmX7 (by decide) (Nat.le_of_ble_eq_true rfl) (by rw [hY]; exact pg_g (pg_t1 44 rfl) rfl) rfl (by decide +kernel) rfl rfl (pg_hvi rfl) (pg_si_off S M _ _ _) hdg kk
theorem gfX7_55 (hY : Y.1.cls = RX7) (h : pg_isX7 Λ) (hdg : decode Y.2.1 pc = .ok (.getfield 55, 3)) (kk : pg_At S Λ Y d (pc + 3) ls (.int (M.1 (1) 7) :: st) M P) : pg_At S Λ Y d pc ls (.ref (1) :: st) M P :=
  pg_get (T := TX7) (N := 10) (k := 7) h.1 rfl rfl pg_inX7 (by decide) (by rw [hY]; exact pg_g (pg_t1 48 rfl) rfl) hdg kk
theorem pfX7_55 {v : Int32} (hY : Y.1.cls = RX7) (h : pg_isX7 Λ) (hdg : decode Y.2.1 pc = .ok (.putfield 55, 3)) (kk : pg_At S Λ Y d (pc + 3) ls st (pg_si M (1) 7 v) P) : pg_At S Λ Y d pc ls (.int v :: .ref (1) :: st) M P :=
  pg_putG (T := TX7) (N := 10) (k := 7) tyX7 (ty := .int) h.1 rfl pg_inX7 tyX7_ok nmX7 (by decide) (Nat.le_of_ble_eq_true rfl) (by rw [hY]; exact pg_g (pg_t1 48 rfl) rfl) rfl (by decide +kernel) rfl rfl (pg_hvi rfl) (pg_si_off S M _ _ _) hdg kk
theorem gfX7_75 (hY : Y.1.cls = RX7) (h : pg_isX5 Λ a) (hdg : decode Y.2.1 pc = .ok (.getfield 75, 3)) (kk : pg_At S Λ Y d (pc + 3) ls (.int (M.1 (a) 10) :: st) M P) : pg_At S Λ Y d pc ls (.ref (a) :: st) M P :=
  pg_getN (host := "PegLaws") (T := TX5) (N := 16) (k := 10) h.1 rfl rfl pg_inX5 (by decide) (by rw [hY]; exact pg_t2 80 rfl) hdg kk
theorem pfX7_75 {v : Int32} (hY : Y.1.cls = RX7) (h : pg_isX5 Λ a) (hdg : decode Y.2.1 pc = .ok (.putfield 75, 3)) (kk : pg_At S Λ Y d (pc + 3) ls st (pg_si M (a) 10 v) P) : pg_At S Λ Y d pc ls (.int v :: .ref (a) :: st) M P :=
  pg_putGN (host := "PegLaws") (T := TX5) (N := 16) (k := 10) tyX5 (ty := .int) h.1 rfl pg_inX5 tyX5_ok nmX5 (by decide) (Nat.le_of_ble_eq_true rfl) (by rw [hY]; exact pg_t2 80 rfl) rfl (by decide +kernel) rfl rfl (pg_hvi rfl) (pg_si_off S M _ _ _) hdg kk
theorem gfX7_82 (hY : Y.1.cls = RX7) (h : pg_isX7 Λ) (hdg : decode Y.2.1 pc = .ok (.getfield 82, 3)) (kk : pg_At S Λ Y d (pc + 3) ls (.long (M.2.1 (1) 6) :: st) M P) : pg_At S Λ Y d pc ls (.ref (1) :: st) M P :=
  pg_get (T := TX7) (N := 10) (k := 6) h.1 rfl rfl pg_inX7 (by decide) (by rw [hY]; exact pg_g (pg_t1 47 rfl) rfl) hdg kk
theorem pfX7_82 {v : Int64} (hY : Y.1.cls = RX7) (h : pg_isX7 Λ) (hdg : decode Y.2.1 pc = .ok (.putfield 82, 3)) (kk : pg_At S Λ Y d (pc + 3) ls st (pg_sj M (1) 6 v) P) : pg_At S Λ Y d pc ls (.long v :: .ref (1) :: st) M P :=
  pg_putG (T := TX7) (N := 10) (k := 6) tyX7 (ty := .long) h.1 rfl pg_inX7 tyX7_ok nmX7 (by decide) (Nat.le_of_ble_eq_true rfl) (by rw [hY]; exact pg_g (pg_t1 47 rfl) rfl) rfl (by decide +kernel) rfl rfl (pg_hvj rfl) (pg_sj_off S M _ _ _) hdg kk
theorem gfX7_9 (hY : Y.1.cls = RX7) (h : pg_isX7 Λ) (hdg : decode Y.2.1 pc = .ok (.getfield 9, 3)) (kk : pg_At S Λ Y d (pc + 3) ls (.ref (2) :: st) M P) : pg_At S Λ Y d pc ls (.ref (1) :: st) M P :=
  pg_get (T := TX7) (N := 10) (k := 0) h.1 rfl rfl pg_inX7 (by decide) (by rw [hY]; exact pg_g (pg_t1 40 rfl) rfl) hdg kk
theorem gfX7_90 (hY : Y.1.cls = RX7) (h : pg_isX5 Λ a) (hdg : decode Y.2.1 pc = .ok (.getfield 90, 3)) (kk : pg_At S Λ Y d (pc + 3) ls (.ref (a + 1) :: st) M P) : pg_At S Λ Y d pc ls (.ref (a) :: st) M P :=
  pg_getN (host := "PegLaws") (T := TX5) (N := 16) (k := 0) h.1 rfl rfl pg_inX5 (by decide) (by rw [hY]; exact pg_t2 53 rfl) hdg kk
theorem gfX7_94 (hY : Y.1.cls = RX7) (h : pg_isX5 Λ a) (hdg : decode Y.2.1 pc = .ok (.getfield 94, 3)) (kk : pg_At S Λ Y d (pc + 3) ls (.ref (a + 2) :: st) M P) : pg_At S Λ Y d pc ls (.ref (a) :: st) M P :=
  pg_getN (host := "PegLaws") (T := TX5) (N := 16) (k := 1) h.1 rfl rfl pg_inX5 (by decide) (by rw [hY]; exact pg_t2 56 rfl) hdg kk
theorem gfX7_98 (hY : Y.1.cls = RX7) (h : pg_isX5 Λ a) (hdg : decode Y.2.1 pc = .ok (.getfield 98, 3)) (kk : pg_At S Λ Y d (pc + 3) ls (.ref (a + 3) :: st) M P) : pg_At S Λ Y d pc ls (.ref (a) :: st) M P :=
  pg_getN (host := "PegLaws") (T := TX5) (N := 16) (k := 2) h.1 rfl rfl pg_inX5 (by decide) (by rw [hY]; exact pg_t2 59 rfl) hdg kk
theorem gfX8_15 (hY : Y.1.cls = RX8) (h : pg_isX8 Λ a) (hdg : decode Y.2.1 pc = .ok (.getfield 15, 3)) (kk : pg_At S Λ Y d (pc + 3) ls (.ref (a + 2) :: st) M P) : pg_At S Λ Y d pc ls (.ref (a) :: st) M P :=
  pg_get (T := TX8) (N := 3) (k := 1) h.1 rfl rfl pg_inX8 (by decide) (by rw [hY]; exact pg_g (pg_t2 28 rfl) rfl) hdg kk
theorem gfX8_18 (hY : Y.1.cls = RX8) (h : pg_isX8 Λ a) (hdg : decode Y.2.1 pc = .ok (.getfield 18, 3)) (kk : pg_At S Λ Y d (pc + 3) ls (.int (M.1 (a) 2) :: st) M P) : pg_At S Λ Y d pc ls (.ref (a) :: st) M P :=
  pg_get (T := TX8) (N := 3) (k := 2) h.1 rfl rfl pg_inX8 (by decide) (by rw [hY]; exact pg_g (pg_t2 29 rfl) rfl) hdg kk
theorem pfX8_18 {v : Int32} (hY : Y.1.cls = RX8) (h : pg_isX8 Λ a) (hdg : decode Y.2.1 pc = .ok (.putfield 18, 3)) (kk : pg_At S Λ Y d (pc + 3) ls st (pg_si M (a) 2 v) P) : pg_At S Λ Y d pc ls (.int v :: .ref (a) :: st) M P :=
  pg_putG (T := TX8) (N := 3) (k := 2) tyX8 (ty := .int) h.1 rfl pg_inX8 tyX8_ok nmX8 (by decide) (Nat.le_of_ble_eq_true rfl) (by rw [hY]; exact pg_g (pg_t2 29 rfl) rfl) rfl (by decide +kernel) rfl rfl (pg_hvi rfl) (pg_si_off S M _ _ _) hdg kk
theorem gfX8_9 (hY : Y.1.cls = RX8) (h : pg_isX8 Λ a) (hdg : decode Y.2.1 pc = .ok (.getfield 9, 3)) (kk : pg_At S Λ Y d (pc + 3) ls (.ref (a + 1) :: st) M P) : pg_At S Λ Y d pc ls (.ref (a) :: st) M P :=
  pg_get (T := TX8) (N := 3) (k := 0) h.1 rfl rfl pg_inX8 (by decide) (by rw [hY]; exact pg_g (pg_t2 27 rfl) rfl) hdg kk
theorem gfX9_134 (hY : Y.1.cls = RX9) (h : pg_isX5 Λ a) (hdg : decode Y.2.1 pc = .ok (.getfield 134, 3)) (kk : pg_At S Λ Y d (pc + 3) ls (.ref (a + 3) :: st) M P) : pg_At S Λ Y d pc ls (.ref (a) :: st) M P :=
  pg_getN (host := "PegLaws") (T := TX5) (N := 16) (k := 2) h.1 rfl rfl pg_inX5 (by decide) (by rw [hY]; exact pg_t2 60 rfl) hdg kk
theorem gfX9_15 (hY : Y.1.cls = RX9) (h : pg_isX9 Λ a) (hdg : decode Y.2.1 pc = .ok (.getfield 15, 3)) (kk : pg_At S Λ Y d (pc + 3) ls (.ref (a + 2) :: st) M P) : pg_At S Λ Y d pc ls (.ref (a) :: st) M P :=
  pg_get (T := TX9) (N := 6) (k := 1) h.1 rfl rfl pg_inX9 (by decide) (by rw [hY]; exact pg_g (pg_t1 83 rfl) rfl) hdg kk
theorem gfX9_18 (hY : Y.1.cls = RX9) (h : pg_isX9 Λ a) (hdg : decode Y.2.1 pc = .ok (.getfield 18, 3)) (kk : pg_At S Λ Y d (pc + 3) ls (.ref (a + 3) :: st) M P) : pg_At S Λ Y d pc ls (.ref (a) :: st) M P :=
  pg_get (T := TX9) (N := 6) (k := 2) h.1 rfl rfl pg_inX9 (by decide) (by rw [hY]; exact pg_g (pg_t1 87 rfl) rfl) hdg kk
theorem gfX9_21 (hY : Y.1.cls = RX9) (h : pg_isX9 Λ a) (hdg : decode Y.2.1 pc = .ok (.getfield 21, 3)) (kk : pg_At S Λ Y d (pc + 3) ls (.ref (a + 4) :: st) M P) : pg_At S Λ Y d pc ls (.ref (a) :: st) M P :=
  pg_get (T := TX9) (N := 6) (k := 3) h.1 rfl rfl pg_inX9 (by decide) (by rw [hY]; exact pg_g (pg_t1 91 rfl) rfl) hdg kk
theorem gfX9_30 (hY : Y.1.cls = RX9) (h : pg_isX5 Λ a) (hdg : decode Y.2.1 pc = .ok (.getfield 30, 3)) (kk : pg_At S Λ Y d (pc + 3) ls (.ref (a + 7) :: st) M P) : pg_At S Λ Y d pc ls (.ref (a) :: st) M P :=
  pg_getN (host := "PegLaws") (T := TX5) (N := 16) (k := 6) h.1 rfl rfl pg_inX5 (by decide) (by rw [hY]; exact pg_t2 68 rfl) hdg kk
theorem gfX9_39 (hY : Y.1.cls = RX9) (h : pg_isX5 Λ a) (hdg : decode Y.2.1 pc = .ok (.getfield 39, 3)) (kk : pg_At S Λ Y d (pc + 3) ls (.int (M.1 (a) 11) :: st) M P) : pg_At S Λ Y d pc ls (.ref (a) :: st) M P :=
  pg_getN (host := "PegLaws") (T := TX5) (N := 16) (k := 11) h.1 rfl rfl pg_inX5 (by decide) (by rw [hY]; exact pg_t2 83 rfl) hdg kk
theorem gfX9_43 (hY : Y.1.cls = RX9) (h : pg_isX9 Λ a) (hdg : decode Y.2.1 pc = .ok (.getfield 43, 3)) (kk : pg_At S Λ Y d (pc + 3) ls (.int (M.1 (a) 4) :: st) M P) : pg_At S Λ Y d pc ls (.ref (a) :: st) M P :=
  pg_get (T := TX9) (N := 6) (k := 4) h.1 rfl rfl pg_inX9 (by decide) (by rw [hY]; exact pg_g (pg_t1 94 rfl) rfl) hdg kk
theorem pfX9_43 {v : Int32} (hY : Y.1.cls = RX9) (h : pg_isX9 Λ a) (hdg : decode Y.2.1 pc = .ok (.putfield 43, 3)) (kk : pg_At S Λ Y d (pc + 3) ls st (pg_si M (a) 4 v) P) : pg_At S Λ Y d pc ls (.int v :: .ref (a) :: st) M P :=
  pg_putG (T := TX9) (N := 6) (k := 4) tyX9 (ty := .int) h.1 rfl pg_inX9 tyX9_ok nmX9 (by decide) (Nat.le_of_ble_eq_true rfl) (by rw [hY]; exact pg_g (pg_t1 94 rfl) rfl) rfl (by decide +kernel) rfl rfl (pg_hvi rfl) (pg_si_off S M _ _ _) hdg kk
theorem gfX9_44 (hY : Y.1.cls = RX9) (h : pg_isX9 Λ a) (hdg : decode Y.2.1 pc = .ok (.getfield 44, 3)) (kk : pg_At S Λ Y d (pc + 3) ls (.int (M.1 (a) 5) :: st) M P) : pg_At S Λ Y d pc ls (.ref (a) :: st) M P :=
  pg_get (T := TX9) (N := 6) (k := 5) h.1 rfl rfl pg_inX9 (by decide) (by rw [hY]; exact pg_g (pg_t1 97 rfl) rfl) hdg kk
theorem pfX9_44 {v : Int32} (hY : Y.1.cls = RX9) (h : pg_isX9 Λ a) (hdg : decode Y.2.1 pc = .ok (.putfield 44, 3)) (kk : pg_At S Λ Y d (pc + 3) ls st (pg_si M (a) 5 v) P) : pg_At S Λ Y d pc ls (.int v :: .ref (a) :: st) M P :=
  pg_putG (T := TX9) (N := 6) (k := 5) tyX9 (ty := .int) h.1 rfl pg_inX9 tyX9_ok nmX9 (by decide) (Nat.le_of_ble_eq_true rfl) (by rw [hY]; exact pg_g (pg_t1 97 rfl) rfl) rfl (by decide +kernel) rfl rfl (pg_hvi rfl) (pg_si_off S M _ _ _) hdg kk
theorem gfX9_56 (hY : Y.1.cls = RX9) (h : pg_isX5 Λ a) (hdg : decode Y.2.1 pc = .ok (.getfield 56, 3)) (kk : pg_At S Λ Y d (pc + 3) ls (.int (M.1 (a) 10) :: st) M P) : pg_At S Λ Y d pc ls (.ref (a) :: st) M P :=
  pg_getN (host := "PegLaws") (T := TX5) (N := 16) (k := 10) h.1 rfl rfl pg_inX5 (by decide) (by rw [hY]; exact pg_t2 79 rfl) hdg kk
theorem gfX9_78 (hY : Y.1.cls = RX9) (h : pg_isX5 Λ a) (hdg : decode Y.2.1 pc = .ok (.getfield 78, 3)) (kk : pg_At S Λ Y d (pc + 3) ls (.int (M.1 (a) 13) :: st) M P) : pg_At S Λ Y d pc ls (.ref (a) :: st) M P :=
  pg_getN (host := "PegLaws") (T := TX5) (N := 16) (k := 13) h.1 rfl rfl pg_inX5 (by decide) (by rw [hY]; exact pg_t2 90 rfl) hdg kk
theorem gfX9_9 (hY : Y.1.cls = RX9) (h : pg_isX9 Λ a) (hdg : decode Y.2.1 pc = .ok (.getfield 9, 3)) (kk : pg_At S Λ Y d (pc + 3) ls (.ref (a + 1) :: st) M P) : pg_At S Λ Y d pc ls (.ref (a) :: st) M P :=
  pg_get (T := TX9) (N := 6) (k := 0) h.1 rfl rfl pg_inX9 (by decide) (by rw [hY]; exact pg_g (pg_t1 79 rfl) rfl) hdg kk
end PGF
