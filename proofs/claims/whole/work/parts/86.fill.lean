/-! fill: the specification, and the reference's rows -/
def sp_wk (L : sp_N) (E : sp_E) (s : sp_N) (c : Nat) : Nat → Nat
  | 0 => s 0 c
  | k + 1 => sp_dry L E c (sp_wk L E s c k) (sp_wind L (s 4 1 + k))
def sp_hard (L : sp_N) (E : sp_E) (s : sp_N) (c : Nat) : Nat → Nat
  | 0 => 0
  | k + 1 => max (sp_hard L E s c k) (sp_pull L E c (sp_wk L E s c k) (sp_wind L (s 4 1 + k)))
def sp_sub (a b : Nat) : Nat := a ^^^ (a &&& b)
/-- these pegs may hold that cloth -/
def sp_fch (L : sp_N) (E : sp_E) (s : sp_N) (n c b : Nat) : Bool := decide (s 1 c < 3) && (decide (sp_sub b (sp_sound s) = 0) && (decide (sp_pc b = sp_needs L c) && decide (sp_hard L E s c n ≤ sp_grips s b 0)))
def sp_fm (P : Nat → Bool) (f : Nat → Nat) (z : Nat) : Nat → Nat
  | 0 => z
  | i + 1 => if P i then max (sp_fm P f z i) (f i) else sp_fm P f z i
def sp_fp (ch : Nat → Nat → Bool) (w : Nat → Nat) (c free left b : Nat) : Bool := ch c b && (decide (sp_sub b free = 0) && decide (w c ≤ left))
/-- the most worth of the cloths from one on -/
def sp_fb (ch : Nat → Nat → Bool) (w v : Nat → Nat) : Nat → Nat → Nat → Nat → Nat
  | 0, _, _, _ => 0
  | r + 1, c, free, left => sp_fm (sp_fp ch w c free left) (fun b => v c + sp_fb ch w v r (c + 1) (sp_sub free b) (left - w c)) (sp_fb ch w v r (c + 1) free left) 256
def sp_fc (ch : Nat → Nat → Bool) (w v : Nat → Nat) (r c free left : Nat) : Option Nat := (List.range 256).find? (fun b => sp_fp ch w c free left b && decide (v c + sp_fb ch w v r (c + 1) (sp_sub free b) (left - w c) = sp_fb ch w v (r + 1) c free left))
/-- and the first row of it -/
def sp_fr (ch : Nat → Nat → Bool) (w v : Nat → Nat) : Nat → Nat → Nat → Nat → List Nat
  | 0, _, _, _ => []
  | r + 1, c, free, left => match sp_fc ch w v r c free left with
    | some b => b :: sp_fr ch w v r (c + 1) (sp_sub free b) (left - w c)
    | none => 0 :: sp_fr ch w v r (c + 1) free left
def sp_flT (L : sp_N) (E : sp_E) (s : sp_N) (n : Nat) : Nat := sp_fb (sp_fch L E s n) (L 1) (L 3) (L 4 0) 0 (sp_sound s) (L 4 1)
def sp_flR (L : sp_N) (E : sp_E) (s : sp_N) (n : Nat) : List Nat := sp_fr (sp_fch L E s n) (L 1) (L 3) (L 4 0) 0 (sp_sound s) (L 4 1)
def sp_qfill (G : sp_G) (x y : Int32) : Int32 := match sp_ix 7 x with
  | none => -2
  | some n => if n = 0 then -2 else if y = -1 then nI (sp_flT G.L G.E G.s n) else match sp_ix (G.L 4 0) y with
    | none => -2
    | some c => nI ((sp_flR G.L G.E G.s n).getD c 0)
theorem sp_fm_z (P : Nat → Bool) (f : Nat → Nat) (z : Nat) : ∀ i, sp_fm P f z i = max z (sp_fm P f 0 i) := by
  intro i
  induction i with
  | zero => simp [sp_fm]
  | succ i ih => simp only [sp_fm]; rw [ih]; split <;> omega
theorem sp_fm_lb {P : Nat → Bool} {f : Nat → Nat} {z : Nat} : ∀ i b, b < i → P b = true → f b ≤ sp_fm P f z i := by
  intro i
  induction i with
  | zero => intro b hb; omega
  | succ i ih =>
    intro b hb hP
    simp only [sp_fm]
    by_cases e : b = i
    · subst e; rw [if_pos hP]; omega
    · have := ih b (by omega) hP
      split <;> omega
theorem sp_fm_at {P : Nat → Bool} {f : Nat → Nat} {z : Nat} : ∀ i, z < sp_fm P f z i → ∃ b, b < i ∧ P b = true ∧ f b = sp_fm P f z i := by
  intro i
  induction i with
  | zero => intro h; exact absurd h (Nat.lt_irrefl _)
  | succ i ih =>
    intro h
    simp only [sp_fm] at h ⊢
    by_cases e : P i = true
    · rw [if_pos e] at h ⊢
      by_cases q : sp_fm P f z i < f i
      · exact ⟨i, by omega, e, by omega⟩
      · obtain ⟨c, a, b, d⟩ := ih (by omega)
        exact ⟨c, by omega, b, by omega⟩
    · rw [if_neg e] at h ⊢
      obtain ⟨c, a, b, d⟩ := ih h
      exact ⟨c, by omega, b, d⟩
theorem sp_fm_zle {P : Nat → Bool} {f : Nat → Nat} {z : Nat} : ∀ i, z ≤ sp_fm P f z i := by
  intro i; rw [sp_fm_z]; omega
theorem sp_fm_add {P : Nat → Bool} {f : Nat → Nat} {z t : Nat} : ∀ i, sp_fm P (fun b => t + f b) (t + z) i = t + sp_fm P f z i := by
  intro i
  induction i with
  | zero => rfl
  | succ i ih => simp only [sp_fm]; rw [ih]; split <;> omega
theorem sp_fm_out {P : Nat → Bool} {f : Nat → Nat} {z a : Nat} : ∀ b, a ≤ b → (∀ j, a ≤ j → j < b → P j = false) → sp_fm P f z b = sp_fm P f z a := by
  intro b
  induction b with
  | zero => intro h _; rw [show a = 0 by omega]
  | succ b ih =>
    intro h hp
    by_cases e : a = b + 1
    · rw [e]
    · simp only [sp_fm]
      rw [hp b (by omega) (by omega)]
      exact ih (by omega) (fun j h1 h2 => hp j h1 (by omega))
theorem sp_sub_bit (a b i : Nat) : (sp_sub a b).testBit i = (a.testBit i && !b.testBit i) := by
  unfold sp_sub
  rw [Nat.testBit_xor, Nat.testBit_and]
  cases a.testBit i <;> cases b.testBit i <;> rfl
theorem sp_sub_0 {a b : Nat} : sp_sub a b = 0 ↔ ∀ i, a.testBit i = true → b.testBit i = true := by
  constructor
  · intro h i hi; exact sp_sub_bits h hi
  · intro h
    apply Nat.eq_of_testBit_eq
    intro i
    rw [sp_sub_bit, Nat.zero_testBit]
    cases q : a.testBit i with
    | false => rfl
    | true => rw [h i q]; rfl
theorem sp_sub_le (a b : Nat) : sp_sub a b ≤ a := by
  have e : sp_sub a b &&& a = sp_sub a b := by
    apply Nat.eq_of_testBit_eq
    intro i
    rw [Nat.testBit_and, sp_sub_bit]
    cases a.testBit i <;> cases b.testBit i <;> rfl
  rw [← e]; exact Nat.and_le_right
theorem sp_pc_sub {a b : Nat} (h : sp_sub a b = 0) : sp_pc a ≤ sp_pc b := fb_ct_sub (fun k _ q => sp_sub_0.mp h k q)
theorem sp_hard_le {L : sp_N} {E : sp_E} {s : sp_N} {c : Nat} : ∀ k, sp_hard L E s c k ≤ 198 := by
  intro k
  induction k with
  | zero => exact Nat.zero_le _
  | succ k ih => have := sp_pull_le (L := L) (E := E) (c := c) (wet := sp_wk L E s c k) (wind := sp_wind L (s 4 1 + k)); simp only [sp_hard]; omega
theorem sp_wk_le {L : sp_N} {E : sp_E} {s : sp_N} {c : Nat} (h : s 0 c ≤ 9) : ∀ k, sp_wk L E s c k ≤ 9 := by
  intro k
  induction k with
  | zero => exact h
  | succ k ih => exact Nat.le_trans sp_dry_le ih
theorem sp_fr_len {ch : Nat → Nat → Bool} {w v : Nat → Nat} : ∀ r c free left, (sp_fr ch w v r c free left).length = r := by
  intro r
  induction r with
  | zero => intro c free left; rfl
  | succ r ih =>
    intro c free left
    simp only [sp_fr]
    split <;> simp [ih]
theorem sp_fb_le {ch : Nat → Nat → Bool} {w v : Nat → Nat} (hv : ∀ c, v c ≤ 99) : ∀ r c free left, sp_fb ch w v r c free left ≤ 99 * r := by
  intro r
  induction r with
  | zero => intro c free left; exact Nat.zero_le _
  | succ r ih =>
    intro c free left
    simp only [sp_fb]
    by_cases h : sp_fb ch w v r (c + 1) free left < sp_fm (sp_fp ch w c free left) (fun b => v c + sp_fb ch w v r (c + 1) (sp_sub free b) (left - w c)) (sp_fb ch w v r (c + 1) free left) 256
    · obtain ⟨b, h1, h2, h3⟩ := sp_fm_at 256 h
      have a1 := ih (c + 1) (sp_sub free b) (left - w c)
      have a2 := hv c
      omega
    · have a1 := ih (c + 1) free left
      omega
/-- the first of those that have the most -/
def sp_fex (lim K : Nat) (P : Nat → Bool) (g : Nat → Nat) (Row : Nat → Prop) : Prop := ∃ b, b < lim ∧ P b = true ∧ g b = K ∧ (∀ j, j < b → P j = true → ¬ g j = K) ∧ Row b
/-- the most worth so far, none being less than all -/
def sp_k1 (k : Nat) : Int32 := if k = 0 then -1 else nI (k - 1)
theorem sp_k1_le {t k : Nat} (ht : t < 2 ^ 30) (hk : k < 2 ^ 30) : nI t ≤ sp_k1 k ↔ t + 1 ≤ k := by
  unfold sp_k1
  by_cases e : k = 0
  · rw [if_pos e]
    have : ¬ nI t ≤ (-1 : Int32) := fun z => by
      have h := nI_pos (n := t) (by omega)
      rw [fa_le] at z
      rw [fa_lt] at h
      have e0 : (0 : Int32).toInt = 0 := rfl
      have e1 : (-1 : Int32).toInt = -1 := rfl
      omega
    constructor
    · intro z; exact absurd z this
    · intro z; omega
  · rw [if_neg e, nI_leI (by omega) (by omega)]; omega
section PGR
variable {S : pg_S} {Λ : pg_L} {d h : Nat} {M : pg_M} {G : sp_G} {L s : sp_N} {E : sp_E}
/-- what a search for a row leaves as it was -/
def rm_ff (n : Nat) (M M' : pg_M) : Prop := pg_fr [207, 224, 225] M M' ∧ (∀ j, j ≠ 28 → M'.1 207 j = M.1 207 j) ∧ ∀ j, j < n → M'.1 224 j = M.1 224 j
theorem rm_ff.rfl' {n : Nat} {M : pg_M} : rm_ff n M M := ⟨pg_fr.rfl', fun _ _ => rfl, fun _ _ => rfl⟩
theorem rm_ff.trans {n : Nat} {M Mq1 Mq2 : pg_M} (h : rm_ff n M Mq1) (h2 : rm_ff n Mq1 Mq2) : rm_ff n M Mq2 := ⟨h.1.trans h2.1, fun j hj => (h2.2.1 j hj).trans (h.2.1 j hj), fun j hj => (h2.2.2 j hj).trans (h.2.2 j hj)⟩
theorem rm_ff.less {n n' : Nat} {M Mq1 : pg_M} (h : rm_ff n M Mq1) (hn : n' ≤ n) : rm_ff n' M Mq1 := ⟨h.1, h.2.1, fun j hj => h.2.2 j (by omega)⟩
def rm_row5 (M : pg_M) (n : Nat) (pre : Nat → Int32) (lst : List Nat) : Prop := (∀ j, j < n → M.1 225 j = pre j) ∧ ∀ k x, lst[k]? = some x → M.1 225 (n + k) = nI x
theorem rm_row5.cons {M : pg_M} {n x : Nat} {pre pre' : Nat → Int32} {lst : List Nat} (h : rm_row5 M (n + 1) pre' lst) (h1 : ∀ j, j < n → pre' j = pre j) (h2 : pre' n = nI x) : rm_row5 M n pre (x :: lst) := by
  refine ⟨fun j hj => by rw [h.1 j (by omega)]; exact h1 j hj, fun k y hy => ?_⟩
  cases k with
  | zero => simp at hy; rw [← hy, Nat.add_zero, h.1 n (by omega)]; exact h2
  | succ k => rw [show n + (k + 1) = (n + 1) + k by omega]; exact h.2 k y (by simpa using hy)
theorem rm_row5.of {M M' : pg_M} {n : Nat} {pre : Nat → Int32} {lst : List Nat} (h : rm_row5 M n pre lst) (e : M'.1 225 = M.1 225) : rm_row5 M' n pre lst := by unfold rm_row5; rw [e]; exact h
theorem rm_fills {hrs : Nat} (hR : pg_isX11 Λ) (hk : sp_okL L E) (ho : sp_okS L s h) : ∀ (r c free left t k : Nat) (M : pg_M), c + r = L 4 0 → sp_sub free (sp_sound s) = 0 → left ≤ 60 → t ≤ 99 * c → k ≤ 600 → rm_L M L E → rm_S M 0 s → M.1 207 28 = sp_k1 k → M.1 207 29 = nI (2 ^ s 4 0 - 1) → (∀ c, c < L 4 0 → M.1 223 c = nI (sp_hard L E s c hrs)) →
    pg_Ev S Λ YX11_fills (d + 3 + r) [.ref 207, .int (nI c), .int (nI free), .int (nI left), .int (nI t)] M (fun q M' => q = none ∧ (M'.1 207 28 = sp_k1 (max k (t + sp_fb (sp_fch L E s hrs) (L 1) (L 3) r c free left + 1)) ∧ (k < t + sp_fb (sp_fch L E s hrs) (L 1) (L 3) r c free left + 1 → rm_row5 M' c (M.1 224) (sp_fr (sp_fch L E s hrs) (L 1) (L 3) r c free left)) ∧ (¬ k < t + sp_fb (sp_fch L E s hrs) (L 1) (L 3) r c free left + 1 → M'.1 225 = M.1 225) ∧ rm_ff c M M')) := by
  have h6 := hk.1
  have h8 := ho.1
  have p8 : 2 ^ s 4 0 ≤ 2 ^ 8 := Nat.pow_le_pow_right (by decide) h8
  have p0 : 0 < 2 ^ s 4 0 := Nat.pow_pos (by decide)
  have v99 : ∀ c, L 3 c ≤ 99 := fun c => (hk.2.1 c).2.2.2
  have hsl : sp_sound s < 2 ^ s 4 0 := sp_mk_lt _ _
  intro r
  induction r with
  | zero =>
    intro c free left t k M hc hfs hl60 ht99 hk6 hl hs m28 m29 m223
    have hcN : c = L 4 0 := by omega
    subst hcN
    simp only [sp_fb, sp_fr, Nat.add_zero]
    refine oX11_fills (d := d + 2 + 1) (sX11_fills_0 (Q0 := fun v M' => v = nI (L 4 0) ∧ M' = M) (Q1 := fun _ _ => True) (Q2 := fun _ _ => True) (Q3 := fun _ _ => True) hR (pg_Ev.mono (by omega) (rm_cloths (d := 0) hR hl)) ?_ ?_ ?_ ?_ ?_ ?_ ?_ ?_ ?_ ?_)
    rotate_left 8
    · rintro v Mq1 ⟨rfl, rfl⟩ _ q
      rw [m28, sp_k1_le (by omega) (by omega)] at q
      exact ⟨rfl, by rw [m28, Nat.max_eq_left q], fun z => by omega, fun _ => rfl, rm_ff.rfl'⟩
    · rintro v Mq1 ⟨rfl, rfl⟩ _ q
      rw [m28, sp_k1_le (by omega) (by omega)] at q
      refine pg_loop (fun i (mq : pg_M) => pg_At S Λ YX11_fills (d + 2 + 1) 26 [(0, .ref 207), (1, .int (nI (L 4 0))), (5, .int (nI i))] [] mq _) (fun i mq => mq.1 207 28 = nI t ∧ (∀ j, j < i → mq.1 225 j = Mq1.1 224 j) ∧ mq.1 224 = Mq1.1 224 ∧ rm_ff (L 4 0) Mq1 mq) (L 4 0) ?_ ?_ 0 _ (Nat.zero_le _) ⟨by rw [pg_si_at, pk_us], fun j hj => by omega, pg_si_ne (by decide), pg_fr.si (by simp), fun j hj => by rw [pg_si_at, pk_un hj], fun j _ => by rw [pg_si_ne (by decide)]⟩
      · rintro mq ⟨a1, a2, a3, a4⟩
        have c9 : nI (L 4 0) ≤ nI (L 4 0) := nI_le (Nat.le_refl _) (by omega)
        refine sX11_fills_26 hR (fun _ => ⟨rfl, ?_, fun _ => ⟨a2, fun k x hx => by simp at hx⟩, fun z => by omega, a4⟩) (fun c => absurd c9 c) (fun c => absurd c9 c)
        rw [a1, Nat.max_eq_right (by omega)]
        unfold sp_k1
        rw [if_neg (by omega)]; rfl
      · rintro i mq hi ⟨a1, a2, a3, a4⟩ ih
        have c9 : ¬ nI (L 4 0) ≤ nI i := nI_ge hi (by omega)
        refine sX11_fills_26 hR (fun c => absurd c c9) (fun _ => vp_in_nI (by omega) (by decide)) (fun _ => ?_)
        rw [nI_1, nI_clamp (by omega), a3]
        refine ih _ ⟨by rw [pg_si_ne (by decide)]; exact a1, fun j hj => ?_, by rw [pg_si_ne (by decide)]; exact a3, a4.trans ⟨pg_fr.si (by simp), fun j _ => by rw [pg_si_ne (by decide)], fun j _ => by rw [pg_si_ne (by decide)]⟩⟩
        rw [pg_si_at]
        by_cases e : j = i
        · subst e; rw [pk_us]
        · rw [pk_un e]; exact a2 j (by omega)
    all_goals (rintro v Mq1 ⟨rfl, rfl⟩ c; exact absurd rfl c)
  | succ r ihr =>
    intro c free left t k M hc hfs hl60 ht99 hk6 hl hs m28 m29 m223
    have hcN : c < L 4 0 := by omega
    have hfl : free < 2 ^ s 4 0 := by
      apply Nat.lt_pow_two_of_testBit
      intro i hi
      cases q : free.testBit i with
      | false => rfl
      | true =>
        have := sp_sub_0.mp hfs i q
        have z := Nat.testBit_lt_two_pow (Nat.lt_of_lt_of_le hsl (Nat.pow_le_pow_right (n := 2) (by decide) hi))
        rw [z] at this; cases this
    have o1 := (ho.2.2.1 c).2.1
    have w20 := (hk.2.1 c).2.1
    have hcl : (nI c).toNatClampNeg = c := nI_clamp (by omega)
    have h8c : (8 : Int32) + nI c = nI (8 + c) := by rw [show (8 : Int32) = nI 8 from rfl, nI_add]
    have hst : ∀ {mq : pg_M}, rm_S mq 0 s → mq.1 221 ((8 : Int32) + nI c).toNatClampNeg = nI (s 1 c) := fun hm => by
      rw [h8c, nI_clamp (by omega)]
      have := (hm.2.2.1 c (by omega)).2.1
      rw [show 0 + 8 + c = 8 + c by omega] at this
      exact this
    have z3 : (3 : Int32) ≤ nI (s 1 c) ↔ 3 ≤ s 1 c := by rw [show (3 : Int32) = nI 3 from rfl, nI_leI (by omega) (by omega)]
    have ne1 : ¬ nI c = nI (L 4 0) := by rw [nI_eq (by omega) (by omega)]; omega
    have hpf := sp_pc_le free
    have hn4 : 2 ≤ sp_needs L c ∧ sp_needs L c ≤ 4 := by rcases sp_needs_or L c with h | h <;> omega
    -- names
    generalize hch : sp_fch L E s hrs = ch at ihr ⊢
    have hfb9 := sp_fb_le (ch := ch) (w := L 1) v99 r
    have fbu : sp_fb ch (L 1) (L 3) (r + 1) c free left = sp_fm (sp_fp ch (L 1) c free left) (fun b => L 3 c + sp_fb ch (L 1) (L 3) r (c + 1) (sp_sub free b) (left - L 1 c)) (sp_fb ch (L 1) (L 3) r (c + 1) free left) 256 := rfl
    have fru : sp_fr ch (L 1) (L 3) (r + 1) c free left = match sp_fc ch (L 1) (L 3) r c free left with
      | some b => b :: sp_fr ch (L 1) (L 3) r (c + 1) (sp_sub free b) (left - L 1 c)
      | none => 0 :: sp_fr ch (L 1) (L 3) r (c + 1) free left := rfl
    have pout : ∀ b, 2 ^ s 4 0 ≤ b → sp_fp ch (L 1) c free left b = false := fun b hb => by
      cases q : sp_fp ch (L 1) c free left b with
      | false => rfl
      | true =>
        unfold sp_fp at q
        simp only [Bool.and_eq_true, decide_eq_true_eq] at q
        have e : b &&& free = b := by
          apply Nat.eq_of_testBit_eq
          intro i
          rw [Nat.testBit_and]
          cases z : b.testBit i with
          | false => rfl
          | true => rw [sp_sub_0.mp q.2.1 i z]; rfl
        have : b ≤ free := by rw [← e]; exact Nat.and_le_right
        omega
    have pneed : ∀ b, sp_fp ch (L 1) c free left b = true → s 1 c < 3 ∧ sp_sub b free = 0 ∧ sp_pc b = sp_needs L c ∧ sp_hard L E s c hrs ≤ sp_grips s b 0 ∧ L 1 c ≤ left := fun b q => by
      unfold sp_fp at q
      rw [← hch] at q
      unfold sp_fch at q
      simp only [Bool.and_eq_true, decide_eq_true_eq] at q
      exact ⟨q.1.1, q.2.1, q.1.2.2.1, q.1.2.2.2, q.2.2⟩
    have pmk : ∀ b, s 1 c < 3 → sp_sub b free = 0 → sp_pc b = sp_needs L c → sp_hard L E s c hrs ≤ sp_grips s b 0 → L 1 c ≤ left → sp_fp ch (L 1) c free left b = true := fun b a1 a2 a3 a4 a5 => by
      unfold sp_fp
      rw [← hch]
      unfold sp_fch
      simp only [Bool.and_eq_true, decide_eq_true_eq]
      exact ⟨⟨a1, sp_sub_0.mpr (fun i hi => sp_sub_0.mp hfs i (sp_sub_0.mp a2 i hi)), a3, a4⟩, a2, a5⟩
    generalize hP : sp_fp ch (L 1) c free left = P at fbu pout pneed pmk
    generalize hf : (fun b => L 3 c + sp_fb ch (L 1) (L 3) r (c + 1) (sp_sub free b) (left - L 1 c)) = f at fbu
    have hf9 : ∀ b, t + f b + 1 ≤ 600 := fun b => by
      rw [← hf]
      have := hfb9 (c + 1) (sp_sub free b) (left - L 1 c)
      have := v99 c
      simp only
      omega
    have hz9 : t + sp_fb ch (L 1) (L 3) r (c + 1) free left + 1 ≤ 600 := by have := hfb9 (c + 1) free left; omega
    have hz10 := hfb9 (c + 1) free left
    generalize hz : sp_fb ch (L 1) (L 3) r (c + 1) free left = z at fbu hz9 hz10
    have fck : ∀ b, sp_fc ch (L 1) (L 3) r c free left = some b ↔ (b < 256 ∧ P b = true ∧ f b = sp_fm P f z 256) ∧ ∀ j, j < b → P j = true → ¬ f j = sp_fm P f z 256 := fun b => by
      unfold sp_fc
      rw [List.find?_range_eq_some, hP, fbu]
      have hff : ∀ j, L 3 c + sp_fb ch (L 1) (L 3) r (c + 1) (sp_sub free j) (left - L 1 c) = f j := fun j => by rw [← hf]
      simp only [hff, Bool.and_eq_true, decide_eq_true_eq, List.mem_range]
      constructor
      · rintro ⟨a, b', c'⟩
        refine ⟨⟨b', a⟩, fun j hj hA he => ?_⟩
        have := c' j hj
        simp [hA, he] at this
      · rintro ⟨⟨a, b'⟩, d'⟩
        refine ⟨b', a, fun j hj => ?_⟩
        cases q : P j with
        | false => simp
        | true => simpa using d' j hj q
    -- the rows without this cloth, behind those with it: K is the most so far
    have last : ∀ (mq : pg_M) (K : Nat), K = sp_fm P (fun b => t + f b + 1) 0 256 → mq.1 207 28 = sp_k1 (max k K) → (k < K → sp_fex 256 K P (fun b => t + f b + 1) (fun b => rm_row5 mq c (M.1 224) (b :: sp_fr ch (L 1) (L 3) r (c + 1) (sp_sub free b) (left - L 1 c)))) → (¬ k < K → mq.1 225 = M.1 225) → rm_ff c M mq → pg_Ev S Λ YX11_fills (d + 3 + r) [.ref 207, .int (nI c + 1), .int (nI free), .int (nI left), .int (nI t)] (pg_si mq 224 (nI c).toNatClampNeg 0) (fun q M' => q = none ∧ (M'.1 207 28 = sp_k1 (max k (t + sp_fb ch (L 1) (L 3) (r + 1) c free left + 1)) ∧ (k < t + sp_fb ch (L 1) (L 3) (r + 1) c free left + 1 → rm_row5 M' c (M.1 224) (sp_fr ch (L 1) (L 3) (r + 1) c free left)) ∧ (¬ k < t + sp_fb ch (L 1) (L 3) (r + 1) c free left + 1 → M'.1 225 = M.1 225) ∧ rm_ff c M M')) := by
      intro mq K hK b1 b2 b3 b4
      rw [nI_1, hcl]
      have hmax : sp_fm P f z 256 = max z (sp_fm P f 0 256) := sp_fm_z P f z 256
      have hK2 : t + sp_fm P f z 256 + 1 = max (t + z + 1) K := by
        have e1 := sp_fm_add (P := P) (f := f) (z := z) (t := t + 1) 256
        have e2 : (fun b => t + 1 + f b) = fun b => t + f b + 1 := by funext b; omega
        rw [e2] at e1
        have e3 := sp_fm_z P (fun b => t + f b + 1) (t + 1 + z) 256
        rw [← hK] at e3
        omega
      have K6 : K ≤ 600 := by
        by_cases q : 0 < K
        · rw [hK] at q
          obtain ⟨b, h1, h2, h3⟩ := sp_fm_at 256 q
          rw [← hK] at h3
          have h3 : t + f b + 1 = K := h3
          have := hf9 b
          omega
        · omega
      refine pg_Ev.imp ?_ (ihr (c + 1) free left t (max k K) (pg_si mq 224 c 0) (by omega) hfs hl60 (by omega) (by omega) (hl.keep (b4.1.trans (pg_fr.si (by simp))) (by simp) (by simp) (by simp)) (hs.keep (b4.1.trans (pg_fr.si (by simp))) (by simp)) (by rw [pg_si_ne (by decide)]; exact b1) (by rw [pg_si_ne (by decide), b4.2.1 29 (by decide)]; exact m29) (fun c' h1 => by rw [pg_si_ne (by decide), b4.1.1 223 (by simp)]; exact m223 c' h1))
      rintro q Mq2 ⟨e1, e2, e3, e4, e5⟩
      rw [hz] at e2 e3 e4
      have ff : rm_ff c M Mq2 := b4.trans ⟨(pg_fr.si (by simp)).trans e5.1, fun j hj => by rw [e5.2.1 j hj, pg_si_ne (by decide)], fun j hj => by rw [e5.2.2 j (by omega), pg_si_at, pk_un (by omega)]⟩
      rw [fbu]
      refine ⟨e1, by rw [e2]; congr 1; omega, fun q1 => ?_, fun q1 => ?_, ff⟩
      · rw [fru]
        by_cases lt2 : max k K < t + z + 1
        · have fn : sp_fc ch (L 1) (L 3) r c free left = none := by
            cases hq : sp_fc ch (L 1) (L 3) r c free left with
            | none => rfl
            | some b =>
              obtain ⟨⟨h1, h2, h3⟩, _⟩ := (fck b).mp hq
              have h9 : t + f b + 1 ≤ sp_fm P (fun b => t + f b + 1) 0 256 := sp_fm_lb (f := fun b => t + f b + 1) (z := 0) 256 b h1 h2
              rw [← hK] at h9
              omega
          rw [fn]
          exact rm_row5.cons (e3 lt2) (fun j hj => by rw [pg_si_at, pk_un (by omega)]; exact b4.2.2 j hj) (by rw [pg_si_at, pk_us]; rfl)
        · have e4' := e4 lt2
          rw [pg_si_ne (by decide)] at e4'
          obtain ⟨b, h1, h2, h3, h4, h5⟩ := b2 (by omega)
          have h3 : t + f b + 1 = K := h3
          have h4 : ∀ j, j < b → P j = true → ¬ t + f j + 1 = K := h4
          have fs : sp_fc ch (L 1) (L 3) r c free left = some b := (fck b).mpr ⟨⟨h1, h2, by omega⟩, fun j hj hA he => h4 j hj hA (by omega)⟩
          rw [fs]
          exact h5.of e4'
      · have e4' := e4 (by omega)
        rw [pg_si_ne (by decide)] at e4'
        rw [e4']
        exact b3 (by omega)
    -- none may
    have none9 : (∀ b, P b = false) → pg_At S Λ YX11_fills (d + 3 + r + 1) 98 [(0, .ref 207), (1, .int (nI c)), (2, .int (nI free)), (3, .int (nI left)), (4, .int (nI t)), (5, .int 0), (6, .int 1)] [] M (fun q M' => q = none ∧ (M'.1 207 28 = sp_k1 (max k (t + sp_fb ch (L 1) (L 3) (r + 1) c free left + 1)) ∧ (k < t + sp_fb ch (L 1) (L 3) (r + 1) c free left + 1 → rm_row5 M' c (M.1 224) (sp_fr ch (L 1) (L 3) (r + 1) c free left)) ∧ (¬ k < t + sp_fb ch (L 1) (L 3) (r + 1) c free left + 1 → M'.1 225 = M.1 225) ∧ rm_ff c M M')) := fun q => by
      have hK0 : sp_fm P (fun b => t + f b + 1) 0 256 = 0 := sp_fm_out (a := 0) 256 (by omega) (fun j _ _ => q j)
      have ll := last M 0 hK0.symm (by rw [Nat.max_zero]; exact m28) (fun z => by omega) (fun _ => rfl) rm_ff.rfl'
      refine sX11_fills_98 (Q0 := fun M' => (M'.1 207 28 = sp_k1 (max k (t + sp_fb ch (L 1) (L 3) (r + 1) c free left + 1)) ∧ (k < t + sp_fb ch (L 1) (L 3) (r + 1) c free left + 1 → rm_row5 M' c (M.1 224) (sp_fr ch (L 1) (L 3) (r + 1) c free left)) ∧ (¬ k < t + sp_fb ch (L 1) (L 3) (r + 1) c free left + 1 → M'.1 225 = M.1 225) ∧ rm_ff c M M')) (Q1 := fun M' => (M'.1 207 28 = sp_k1 (max k (t + sp_fb ch (L 1) (L 3) (r + 1) c free left + 1)) ∧ (k < t + sp_fb ch (L 1) (L 3) (r + 1) c free left + 1 → rm_row5 M' c (M.1 224) (sp_fr ch (L 1) (L 3) (r + 1) c free left)) ∧ (¬ k < t + sp_fb ch (L 1) (L 3) (r + 1) c free left + 1 → M'.1 225 = M.1 225) ∧ rm_ff c M M')) (Q2 := fun _ _ => True) (Q3 := fun _ _ => True) (Q4 := fun _ _ => True) (Q5 := fun _ _ => True) (Q6 := fun _ _ => True) (Q7 := fun _ => True) hR (fun _ => vp_in_nI (by omega) (by decide)) (fun _ => ll) (fun _ Mq1 q => ⟨rfl, q⟩) (fun _ _ => vp_in_nI (by omega) (by decide)) (fun _ _ => ll) (fun _ _ Mq1 q => ⟨rfl, q⟩) (fun _ c => absurd rfl c) (fun _ c => absurd rfl c) (fun _ c => absurd rfl c) (fun _ c => absurd rfl c) (fun _ c => absurd rfl c) (fun _ c => absurd rfl c) (fun _ c => absurd rfl c) (fun _ c => absurd rfl c) (fun _ c => absurd rfl c) (fun _ c => absurd rfl c) (fun _ c => absurd rfl c)
    refine oX11_fills (d := d + 3 + r + 1) (sX11_fills_0 (Q0 := fun v M' => v = nI (L 4 0) ∧ M' = M) (Q1 := fun v M' => v = nI (L 1 c) ∧ M' = M) (Q2 := fun v M' => v = nI (sp_pc free) ∧ M' = M) (Q3 := fun v M' => v = nI (sp_needs L c) ∧ M' = M) hR (pg_Ev.mono (by omega) (rm_cloths (d := 0) hR hl)) ?_ ?_ ?_ ?_ ?_ ?_ ?_ ?_ ?_ ?_)
    · rintro v Mq1 ⟨rfl, rfl⟩ _; rw [h8c]; exact vp_in_nI (by omega) (by decide)
    · rintro v Mq1 ⟨rfl, rfl⟩ _ q
      rw [hst hs, z3] at q
      exact none9 (fun b => ts_nt (fun y => by have := pneed b y; omega))
    · rintro v Mq1 ⟨rfl, rfl⟩ _ _; exact pg_Ev.mono (by omega) (rm_clothOf (d := 0) (k := 1) hcN (by omega) hR hl hk)
    · rintro v Mq1 ⟨rfl, rfl⟩ _ _ v2 Mq2 ⟨rfl, rfl⟩ q
      rw [nI_ltI (by omega) (by omega)] at q
      exact none9 (fun b => ts_nt (fun y => by have := pneed b y; omega))
    · rintro v Mq1 ⟨rfl, rfl⟩ _ _ v2 Mq2 ⟨rfl, rfl⟩ _; exact pg_Ev.mono (by omega) (rm_bits (d := 0) (by omega))
    · rintro v Mq1 ⟨rfl, rfl⟩ _ _ v2 Mq2 ⟨rfl, rfl⟩ _ v3 Mq3 ⟨rfl, rfl⟩; exact pg_Ev.mono (by omega) (rm_needs (d := 0) hcN hR hl hk)
    · rintro v Mq1 ⟨rfl, rfl⟩ _ _ v2 Mq2 ⟨rfl, rfl⟩ _ v3 Mq3 ⟨rfl, rfl⟩ v4 Mq4 ⟨rfl, rfl⟩ q
      rw [nI_ltI (by omega) (by omega)] at q
      exact none9 (fun b => ts_nt (fun y => by have h1 := pneed b y; have := sp_pc_sub h1.2.1; omega))
    · rintro v Mq1 ⟨rfl, rfl⟩ _ q1 v2 Mq2 ⟨rfl, rfl⟩ q2 v3 Mq3 ⟨rfl, rfl⟩ v4 Mq4 ⟨rfl, rfl⟩ q3
      rw [hst hs, z3] at q1
      rw [nI_ltI (by omega) (by omega)] at q2
      have P0 : P 0 = false := ts_nt (fun y => by have h1 := (pneed 0 y).2.2.1; have : sp_pc 0 = 0 := (by decide); omega)
      refine pg_loop (fun i (mq : pg_M) => pg_At S Λ YX11_fills (d + 3 + r + 1) 98 [(0, .ref 207), (1, .int (nI c)), (2, .int (nI free)), (3, .int (nI left)), (4, .int (nI t)), (5, .int 1), (6, .int (nI (i + 1)))] [] mq _) (fun i mq => mq.1 207 28 = sp_k1 (max k (sp_fm P (fun b => t + f b + 1) 0 (i + 1))) ∧ (k < sp_fm P (fun b => t + f b + 1) 0 (i + 1) → sp_fex (i + 1) (sp_fm P (fun b => t + f b + 1) 0 (i + 1)) P (fun b => t + f b + 1) (fun b => rm_row5 mq c (Mq4.1 224) (b :: sp_fr ch (L 1) (L 3) r (c + 1) (sp_sub free b) (left - L 1 c)))) ∧ (¬ k < sp_fm P (fun b => t + f b + 1) 0 (i + 1) → mq.1 225 = Mq4.1 225) ∧ rm_ff c Mq4 mq) (2 ^ s 4 0 - 1) ?_ ?_ 0 Mq4 (Nat.zero_le _) ⟨by simp only [sp_fm]; rw [P0]; simp; exact m28, fun y => by simp only [sp_fm] at y; rw [P0] at y; simp at y, fun _ => rfl, rm_ff.rfl'⟩
      · rintro mq ⟨b1, b2, b3, b4⟩
        rw [show 2 ^ s 4 0 - 1 + 1 = 2 ^ s 4 0 by omega] at b1 b2 b3 ⊢
        have hKo : sp_fm P (fun b => t + f b + 1) 0 256 = sp_fm P (fun b => t + f b + 1) 0 (2 ^ s 4 0) := sp_fm_out 256 (by omega) (fun j hj _ => pout j hj)
        have ll := last mq (sp_fm P (fun b => t + f b + 1) 0 (2 ^ s 4 0)) hKo.symm b1 (fun y => by obtain ⟨b, h1, h2⟩ := b2 y; exact ⟨b, by omega, h2⟩) b3 b4
        have w29 : mq.1 207 29 < nI (2 ^ s 4 0) := by rw [b4.2.1 29 (by decide), m29]; exact nI_lt (by omega) (by omega)
        exact sX11_fills_98 (Q0 := fun M' => (M'.1 207 28 = sp_k1 (max k (t + sp_fb ch (L 1) (L 3) (r + 1) c free left + 1)) ∧ (k < t + sp_fb ch (L 1) (L 3) (r + 1) c free left + 1 → rm_row5 M' c (Mq4.1 224) (sp_fr ch (L 1) (L 3) (r + 1) c free left)) ∧ (¬ k < t + sp_fb ch (L 1) (L 3) (r + 1) c free left + 1 → M'.1 225 = Mq4.1 225) ∧ rm_ff c Mq4 M')) (Q1 := fun _ => True) (Q2 := fun _ _ => True) (Q3 := fun _ _ => True) (Q4 := fun _ _ => True) (Q5 := fun _ _ => True) (Q6 := fun _ _ => True) (Q7 := fun _ => True) hR (fun _ => vp_in_nI (by omega) (by decide)) (fun _ => ll) (fun _ Mq1 q => ⟨rfl, q⟩) (fun c => absurd w29 c) (fun c => absurd w29 c) (fun c => absurd w29 c) (fun c => absurd w29 c) (fun c => absurd w29 c) (fun c => absurd w29 c) (fun c => absurd w29 c) (fun c => absurd w29 c) (fun c => absurd w29 c) (fun c => absurd w29 c) (fun c => absurd w29 c) (fun c => absurd w29 c) (fun c => absurd w29 c) (fun c => absurd w29 c)
      · rintro i mq hi ⟨b1, b2, b3, b4⟩ ih
        have w29 : ¬ mq.1 207 29 < nI (i + 1) := by rw [b4.2.1 29 (by decide), m29, nI_ltI (by omega) (by omega)]; omega
        have hlm : rm_L mq L E := hl.keep b4.1 (by simp) (by simp) (by simp)
        have hsm : rm_S mq 0 s := hs.keep b4.1 (by simp)
        have hsub : nI (i + 1) &&& (nI free ^^^ (-1)) = nI (sp_sub (i + 1) free) := nb_andn _ _
        have hsub2 : nI free &&& (nI (i + 1) ^^^ (-1)) = nI (sp_sub free (i + 1)) := nb_andn _ _
        have sl := sp_sub_le (i + 1) free
        have pcl := sp_pc_le (i + 1)
        have gl := sp_grips_le (bits := i + 1) (less := 0) ho
        have hl9 := sp_hard_le (L := L) (E := E) (s := s) (c := c) hrs
        have skip : P (i + 1) = false → pg_At S Λ YX11_fills (d + 3 + r + 1) 98 [(0, .ref 207), (1, .int (nI c)), (2, .int (nI free)), (3, .int (nI left)), (4, .int (nI t)), (5, .int 1), (6, .int (nI (i + 1) + 1))] [] mq (fun q M' => q = none ∧ (M'.1 207 28 = sp_k1 (max k (t + sp_fb ch (L 1) (L 3) (r + 1) c free left + 1)) ∧ (k < t + sp_fb ch (L 1) (L 3) (r + 1) c free left + 1 → rm_row5 M' c (Mq4.1 224) (sp_fr ch (L 1) (L 3) (r + 1) c free left)) ∧ (¬ k < t + sp_fb ch (L 1) (L 3) (r + 1) c free left + 1 → M'.1 225 = Mq4.1 225) ∧ rm_ff c Mq4 M')) := fun q => by
          rw [nI_1]
          have e : sp_fm P (fun b => t + f b + 1) 0 (i + 1 + 1) = sp_fm P (fun b => t + f b + 1) 0 (i + 1) := by rw [show i + 1 + 1 = (i + 1) + 1 from rfl]; show (if P (i + 1) then _ else _) = _; rw [q]; rfl
          refine ih mq ⟨by rw [e]; exact b1, fun y => ?_, by rw [e]; exact b3, b4⟩
          rw [e] at y ⊢
          obtain ⟨b, h1, h2⟩ := b2 y
          exact ⟨b, by omega, h2⟩
        have hgr : ∀ {mq' : pg_M}, rm_S mq' 0 s → pg_Ev S Λ YX11_gripsOf (d + 3 + r) [.ref 207, .int 0, .int (nI (i + 1))] mq' (fun r M' => ∃ v, r = some (.int v) ∧ (v = nI (sp_grips s (i + 1) 0) ∧ M' = mq')) := fun hm => rm_gripsOf (b := 0) (by omega) (by omega) hR hm ho
        have m223' : mq.1 223 (nI c).toNatClampNeg = nI (sp_hard L E s c hrs) := by rw [hcl, b4.1.1 223 (by simp)]; exact m223 c hcN
        have hset : pg_fr [224] mq (pg_si mq 224 c (nI (i + 1))) := pg_fr.si (by simp)
        refine sX11_fills_98 (Q0 := fun _ => True) (Q1 := fun _ => True) (Q2 := fun v M' => v = nI (sp_pc (i + 1)) ∧ M' = mq) (Q3 := fun v M' => v = nI (sp_needs L c) ∧ M' = mq) (Q4 := fun v M' => v = nI (sp_grips s (i + 1) 0) ∧ M' = mq) (Q5 := fun v M' => v = nI (L 1 c) ∧ M' = pg_si mq 224 c (nI (i + 1))) (Q6 := fun v M' => v = nI (L 3 c) ∧ M' = pg_si mq 224 c (nI (i + 1))) (Q7 := fun M' => M'.1 207 28 = sp_k1 (max k (sp_fm P (fun b => t + f b + 1) 0 (i + 1 + 1))) ∧ (k < sp_fm P (fun b => t + f b + 1) 0 (i + 1 + 1) → sp_fex (i + 1 + 1) (sp_fm P (fun b => t + f b + 1) 0 (i + 1 + 1)) P (fun b => t + f b + 1) (fun b => rm_row5 M' c (Mq4.1 224) (b :: sp_fr ch (L 1) (L 3) r (c + 1) (sp_sub free b) (left - L 1 c)))) ∧ (¬ k < sp_fm P (fun b => t + f b + 1) 0 (i + 1 + 1) → M'.1 225 = Mq4.1 225) ∧ rm_ff c Mq4 M') hR (fun c => absurd c w29) (fun c => absurd c w29) (fun c => absurd c w29) (fun _ c => absurd c (by decide)) (fun _ c => absurd c (by decide)) (fun _ c => absurd c (by decide)) ?_ ?_ ?_ ?_ ?_ ?_ ?_ ?_ ?_ ?_ ?_
        · intro _ _ q
          rw [hsub, ← nI_0, nI_eq (by omega) (by omega)] at q
          exact skip (ts_nt (fun y => q (pneed _ y).2.1))
        · intro _ _ _; exact pg_Ev.mono (by omega) (rm_bits (d := 0) (by omega))
        · rintro _ _ _ v Mq5 ⟨rfl, rfl⟩; exact pg_Ev.mono (by omega) (rm_needs (d := 0) hcN hR hlm hk)
        · rintro _ _ _ v Mq5 ⟨rfl, rfl⟩ v6 Mq6 ⟨rfl, rfl⟩ q
          rw [nI_eq (by omega) (by omega)] at q
          exact skip (ts_nt (fun y => q (pneed _ y).2.2.1))
        · rintro _ _ _ v Mq5 ⟨rfl, rfl⟩ v6 Mq6 ⟨rfl, rfl⟩ _; exact hgr hsm
        · rintro _ _ _ v Mq5 ⟨rfl, rfl⟩ v6 Mq6 ⟨rfl, rfl⟩ _ v7 Mq7 _; exact vp_in_nI (by omega) (by decide)
        · rintro _ _ _ v Mq5 ⟨rfl, rfl⟩ v6 Mq6 ⟨rfl, rfl⟩ _ v7 Mq7 ⟨rfl, rfl⟩ q
          rw [m223', nI_ltI (by omega) (by omega)] at q
          exact skip (ts_nt (fun y => by have := (pneed _ y).2.2.2.1; omega))
        · rintro _ _ _ v Mq5 ⟨rfl, rfl⟩ v6 Mq6 ⟨rfl, rfl⟩ _ v7 Mq7 ⟨rfl, rfl⟩ _
          rw [hcl]
          exact pg_Ev.mono (by omega) (rm_clothOf (d := 0) (k := 1) hcN (by omega) hR (hlm.keep hset (by simp) (by simp) (by simp)) hk)
        · rintro _ _ _ v Mq5 ⟨rfl, rfl⟩ v6 Mq6 ⟨rfl, rfl⟩ _ v7 Mq7 ⟨rfl, rfl⟩ _ v8 Mq8 ⟨rfl, rfl⟩
          exact pg_Ev.mono (by omega) (rm_clothOf (d := 0) (k := 3) hcN (by omega) hR (hlm.keep hset (by simp) (by simp) (by simp)) hk)
        · rintro _ _ q4 v Mq5 ⟨rfl, rfl⟩ v6 Mq6 ⟨rfl, rfl⟩ q5 v7 Mq7 ⟨rfl, rfl⟩ q6 v8 Mq8 ⟨rfl, rfl⟩ v9 Mq9 ⟨rfl, rfl⟩
          rw [hsub, ← nI_0, nI_eq (by omega) (by omega)] at q4
          rw [nI_eq (by omega) (by omega)] at q5
          rw [m223', nI_ltI (by omega) (by omega)] at q6
          have Pi : P (i + 1) = true := pmk _ (by omega) q4 q5 (by omega) (by omega)
          have sfl := sp_sub_le free (i + 1)
          have mle : sp_fm P (fun b => t + f b + 1) 0 (i + 1) ≤ 600 := by
            by_cases y : 0 < sp_fm P (fun b => t + f b + 1) 0 (i + 1)
            · obtain ⟨b, h1, h2, h3⟩ := sp_fm_at _ y
              have := hf9 b
              omega
            · omega
          have e9 : sp_fm P (fun b => t + f b + 1) 0 (i + 1 + 1) = max (sp_fm P (fun b => t + f b + 1) 0 (i + 1)) (t + f (i + 1) + 1) := by show (if P (i + 1) then _ else _) = _; rw [Pi]; rfl
          have fv : t + f (i + 1) + 1 = t + L 3 c + sp_fb ch (L 1) (L 3) r (c + 1) (sp_sub free (i + 1)) (left - L 1 c) + 1 := by rw [← hf]; simp only; omega
          rw [hsub2, pk_sub (by omega), nI_add, nI_1]
          have v9c := v99 c
          refine pg_Ev.imp ?_ (ihr (c + 1) (sp_sub free (i + 1)) (left - L 1 c) (t + L 3 c) (max k (sp_fm P (fun b => t + f b + 1) 0 (i + 1))) (pg_si Mq7 224 c (nI (i + 1))) (by omega) (sp_sub_0.mpr (fun j hj => by rw [sp_sub_bit, Bool.and_eq_true] at hj; exact sp_sub_0.mp hfs j hj.1)) (by omega) (by omega) (by omega) (hlm.keep hset (by simp) (by simp) (by simp)) (hsm.keep hset (by simp)) (by rw [pg_si_ne (by decide)]; exact b1) (by rw [pg_si_ne (by decide), b4.2.1 29 (by decide)]; exact m29) (fun c' h1 => by rw [pg_si_ne (by decide), b4.1.1 223 (by simp)]; exact m223 c' h1))
          rintro q Mq2 ⟨e1, e2, e3, e4, e5⟩
          rw [← fv] at e2 e3 e4
          have ff : rm_ff c Mq4 Mq2 := b4.trans ⟨(pg_fr.si (by simp)).trans e5.1, fun j hj => by rw [e5.2.1 j hj, pg_si_ne (by decide)], fun j hj => by rw [e5.2.2 j (by omega), pg_si_at, pk_un (by omega)]⟩
          rw [e9]
          refine ⟨e1, by rw [e2]; congr 1; omega, fun y => ?_, fun y => ?_, ff⟩
          · by_cases lt2 : max k (sp_fm P (fun b => t + f b + 1) 0 (i + 1)) < t + f (i + 1) + 1
            · refine ⟨i + 1, by omega, Pi, (show t + f (i + 1) + 1 = _ by omega), fun j hj hA he => ?_, rm_row5.cons (e3 lt2) (fun j hj => by rw [pg_si_at, pk_un (by omega)]; exact b4.2.2 j hj) (by rw [pg_si_at, pk_us])⟩
              have h9 : t + f j + 1 ≤ sp_fm P (fun b => t + f b + 1) 0 (i + 1) := sp_fm_lb (f := fun b => t + f b + 1) (z := 0) (i + 1) j hj hA
              have he : t + f j + 1 = max (sp_fm P (fun b => t + f b + 1) 0 (i + 1)) (t + f (i + 1) + 1) := he
              omega
            · have e4' := e4 lt2
              rw [pg_si_ne (by decide)] at e4'
              obtain ⟨b, h1, h2, h3, h4, h5⟩ := b2 (by omega)
              have h3 : t + f b + 1 = sp_fm P (fun b => t + f b + 1) 0 (i + 1) := h3
              have h4 : ∀ j, j < b → P j = true → ¬ t + f j + 1 = sp_fm P (fun b => t + f b + 1) 0 (i + 1) := h4
              refine ⟨b, by omega, h2, (show t + f b + 1 = _ by omega), fun j hj hA he => h4 j hj hA ?_, h5.of e4'⟩
              have he : t + f j + 1 = max (sp_fm P (fun b => t + f b + 1) 0 (i + 1)) (t + f (i + 1) + 1) := he
              omega
          · have e4' := e4 (by omega)
            rw [pg_si_ne (by decide)] at e4'
            rw [e4']
            exact b3 (by omega)
        · rintro _ _ _ v Mq5 _ v6 Mq6 _ _ v7 Mq7 _ _ v8 Mq8 _ v9 Mq9 _ Mqa q
          rw [nI_1]
          exact ih Mqa q
    · rintro v Mq1 ⟨rfl, rfl⟩ q; exact absurd q ne1
    · rintro v Mq1 ⟨rfl, rfl⟩ q; exact absurd q ne1
end PGR
