/-! loops; bits of small numbers; what a method leaves as it was -/
theorem pg_loop {σ : Type} (A : Nat → σ → Prop) (I : Nat → σ → Prop) (n : Nat) (hx : ∀ s, I n s → A n s) (hs : ∀ i s, i < n → I i s → (∀ s', I (i + 1) s' → A (i + 1) s') → A i s) : ∀ (i : Nat) (s : σ), i ≤ n → I i s → A i s := by
  have : ∀ (k i : Nat) (s : σ), i + k = n → I i s → A i s := by
    intro k
    induction k with
    | zero => intro i s hi h; rw [show i = n by omega] at h ⊢; exact hx s h
    | succ k ih => intro i s hi h; exact hs i s (by omega) h (fun s' h' => ih (i + 1) s' (by omega) h')
  intro i s hi h
  exact this (n - i) i s (by omega) h
theorem nb_bt {n i : Nat} (hi : i < 32) : bt (nI n) i = n.testBit i := by
  have h : (nI n).toBitVec = BitVec.ofNat 32 n := rfl
  show (nI n).toBitVec.getLsbD i = _
  rw [h, BitVec.getLsbD_ofNat]
  simp [hi]
theorem nb_bit1 {n k : Nat} (hn : n < 2 ^ 31) (hk : k < 31) : ((nI n >>> (nI k &&& 31)) &&& 1) = nI (n / 2 ^ k % 2) := by
  rw [pk_shrN hn _ k (s_l k (by omega))]
  exact pk_andN (Nat.lt_of_le_of_lt (Nat.div_le_self _ _) (by omega)) 1 (by decide)
theorem nb_bit {n k : Nat} (hn : n < 2 ^ 31) (hk : k < 31) : ((nI n >>> (nI k &&& 31)) &&& 1) = 0 ↔ n.testBit k = false := by
  rw [nb_bit1 hn hk, ← nI_0, nI_eq (by omega) (by omega), Nat.testBit_eq_decide_div_mod_eq]
  simp
theorem nb_bit' {n k : Nat} (hn : n < 2 ^ 31) (hk : k < 31) : ((nI n >>> (nI k &&& 31)) &&& 1) = 1 ↔ n.testBit k = true := by
  rw [nb_bit1 hn hk, show (1 : Int32) = nI 1 from rfl, nI_eq (by omega) (by omega), Nat.testBit_eq_decide_div_mod_eq]
  simp
theorem nb_pow {k : Nat} (hk : k < 31) : (1 : Int32) <<< (nI k &&& 31) = nI (2 ^ k) := by
  have h2 : 2 ^ k < 2 ^ 31 := Nat.pow_lt_pow_right (by decide) hk
  rw [show (1 : Int32) = nI 1 from rfl, pk_shlN _ k (s_l k (by omega)) (by omega), Nat.one_mul]
theorem nb_set {n k : Nat} (hk : k < 31) : nI n ||| ((1 : Int32) <<< (nI k &&& 31)) = nI (n ||| 2 ^ k) := by
  rw [nb_pow hk, fa_or]
theorem nb_andn (a b : Nat) : nI a &&& (nI b ^^^ (-1)) = nI (a ^^^ (a &&& b)) := by
  apply b_ext
  intro i hi
  rw [b_and, b_xor, nb_bt hi, nb_bt hi, nb_bt hi, b_m1 i hi]
  simp [Nat.testBit_xor, Nat.testBit_and]
  cases a.testBit i <;> cases b.testBit i <;> rfl
/-- how many of the bits 0 .. 15 are set -/
def sp_pc (n : Nat) : Nat := fb_ct (fun k => n.testBit k) 16
set_option maxRecDepth 100000 in
theorem sp_pc_bc : ∀ n, n < 4096 → pg_bc (nI n) = nI (sp_pc n) := by
  intro n hn
  exact co_dec (N := 4096) (P := fun n => pg_bc (nI n) = nI (sp_pc n)) (by decide +kernel) hn
theorem sp_pc_le (n : Nat) : sp_pc n ≤ 16 := fb_ct_le _ _
/-- the set of those below n that have p -/
def sp_mk (p : Nat → Bool) : Nat → Nat
  | 0 => 0
  | n + 1 => if p n then sp_mk p n ||| 2 ^ n else sp_mk p n
theorem sp_mk_bit (p : Nat → Bool) : ∀ n i, (sp_mk p n).testBit i = (decide (i < n) && p i) := by
  intro n
  induction n with
  | zero => intro i; simp [sp_mk]
  | succ n ih =>
    intro i
    by_cases hp : p n = true
    · simp only [sp_mk, hp, if_true, fb_bit_set, ih]
      by_cases h1 : i = n
      · subst h1; simp [hp]
      · simp [h1, show i < n + 1 ↔ i < n by omega]
    · rw [show sp_mk p (n + 1) = sp_mk p n by simp [sp_mk, hp], ih]
      by_cases h1 : i = n
      · subst h1; simp [hp]
      · simp [show i < n + 1 ↔ i < n by omega]
theorem sp_mk_lt (p : Nat → Bool) (n : Nat) : sp_mk p n < 2 ^ n := by
  apply Nat.lt_pow_two_of_testBit
  intro i hi
  rw [sp_mk_bit]
  simp [show ¬ i < n by omega]
theorem sp_mk_cong {p q : Nat → Bool} {n : Nat} (h : ∀ i, i < n → p i = q i) : sp_mk p n = sp_mk q n := by
  apply Nat.eq_of_testBit_eq
  intro i
  rw [sp_mk_bit, sp_mk_bit]
  by_cases hi : i < n
  · simp [hi, h i hi]
  · simp [hi]
/-- rows outside X are as they were -/
def pg_fr (X : List Nat) (M M' : pg_M) : Prop := (∀ b, b ∉ X → M'.1 b = M.1 b) ∧ (∀ b, b ∉ X → M'.2.1 b = M.2.1 b) ∧ M'.2.2 = M.2.2
theorem pg_fr.rfl' {X : List Nat} {M : pg_M} : pg_fr X M M := ⟨fun _ _ => rfl, fun _ _ => rfl, rfl⟩
theorem pg_fr.trans {X : List Nat} {M M1 M2 : pg_M} (h : pg_fr X M M1) (h2 : pg_fr X M1 M2) : pg_fr X M M2 :=
  ⟨fun b hb => (h2.1 b hb).trans (h.1 b hb), fun b hb => (h2.2.1 b hb).trans (h.2.1 b hb), h2.2.2.trans h.2.2⟩
theorem pg_fr.mono {X Z : List Nat} {M M1 : pg_M} (h : pg_fr X M M1) (hs : ∀ b, b ∈ X → b ∈ Z) : pg_fr Z M M1 :=
  ⟨fun b hb => h.1 b (fun q => hb (hs b q)), fun b hb => h.2.1 b (fun q => hb (hs b q)), h.2.2⟩
theorem pg_fr.si {X : List Nat} {M : pg_M} {a k : Nat} {v : Int32} (h : a ∈ X) : pg_fr X M (pg_si M a k v) :=
  ⟨fun b hb => by simp only [pg_si]; rw [if_neg (fun e : b = a => hb (e ▸ h))], fun _ _ => rfl, rfl⟩
theorem pg_fr.sj {X : List Nat} {M : pg_M} {a k : Nat} {v : Int64} (h : a ∈ X) : pg_fr X M (pg_sj M a k v) :=
  ⟨fun _ _ => rfl, fun b hb => by simp only [pg_sj]; rw [if_neg (fun e : b = a => hb (e ▸ h))], rfl⟩
theorem pg_fr.sa {X : List Nat} {M : pg_M} {a : Nat} {f : Nat → Int32} (h : a ∈ X) : pg_fr X M (pg_sa M a f) :=
  ⟨fun b hb => by simp only [pg_sa]; rw [if_neg (fun e : b = a => hb (e ▸ h))], fun _ _ => rfl, rfl⟩
theorem pg_fr.sl {X : List Nat} {M : pg_M} {a : Nat} {f : Nat → Int64} (h : a ∈ X) : pg_fr X M (pg_sl2 M a f) :=
  ⟨fun _ _ => rfl, fun b hb => by simp only [pg_sl2]; rw [if_neg (fun e : b = a => hb (e ▸ h))], rfl⟩
theorem pg_si_at (M : pg_M) (a k : Nat) (v : Int32) : (pg_si M a k v).1 a = upd (M.1 a) k v := by simp [pg_si]
theorem pg_si_ne {M : pg_M} {a b k : Nat} {v : Int32} (h : b ≠ a) : (pg_si M a k v).1 b = M.1 b := by simp [pg_si, h]
theorem pg_si_2 (M : pg_M) (a k : Nat) (v : Int32) : (pg_si M a k v).2 = M.2 := rfl
theorem pg_sj_at (M : pg_M) (a k : Nat) (v : Int64) : (pg_sj M a k v).2.1 a = vp_updL (M.2.1 a) k v := by simp [pg_sj]
theorem pg_sj_ne {M : pg_M} {a b k : Nat} {v : Int64} (h : b ≠ a) : (pg_sj M a k v).2.1 b = M.2.1 b := by simp [pg_sj, h]
theorem pg_sj_1 (M : pg_M) (a k : Nat) (v : Int64) : (pg_sj M a k v).1 = M.1 := rfl
theorem pg_Ev.imp {S : pg_S} {Λ : pg_L} {Y : pg_Y} {d : Nat} {As : List Value} {M : pg_M} {P P' : Option Value → pg_M → Prop} (hi : ∀ r M, P r M → P' r M) (h : pg_Ev S Λ Y d As M P) : pg_Ev S Λ Y d As M P' := by
  intro rm h1 h2 h3 h4
  have := h rm h1 h2 h3 h4
  intro p e ha hc hk s m args below hf happ hP hK
  obtain ⟨k, o, q1, q2, q3, q4⟩ := this p e ha hc hk s m args below hf happ hP hK
  exact ⟨k, o, q1, q2, q3, pg_Q.imp hi q4.1, q4.2⟩
/-- a truth value as the machine has it -/
def b2i (b : Bool) : Int32 := if b then 1 else 0
theorem b2i_t : b2i true = 1 := rfl
theorem b2i_f : b2i false = 0 := rfl
theorem b2i_0 {b : Bool} : b2i b = 0 ↔ b = false := by cases b <;> decide
theorem b2i_1 {b : Bool} : b2i b = 1 ↔ b = true := by cases b <;> decide
theorem b2i_nar (b : Bool) : narrow .boolean (.int (b2i b)) = .int (b2i b) := by cases b <;> rfl
theorem b2i_vn (b : Bool) : vp_nar .boolean (b2i b) = b2i b := by cases b <;> rfl
