/-! fill: sets of cloths that can hang, by which pegs together -/
def sp_asg (ch : Nat → Nat → Bool) (A m9 : Nat) : Prop := ∃ g : Nat → Nat, (∀ c, A.testBit c = true → ch c (g c) = true) ∧ (∀ c e p, A.testBit c = true → A.testBit e = true → c ≠ e → (g c).testBit p = true → (g e).testBit p = false) ∧ ∀ p, m9.testBit p = true ↔ ∃ c, A.testBit c = true ∧ (g c).testBit p = true
theorem sp_asg_0 {ch : Nat → Nat → Bool} {u9 : Nat} : sp_asg ch 0 u9 ↔ u9 = 0 := by
  constructor
  · rintro ⟨g, _, _, h⟩
    apply Nat.eq_of_testBit_eq
    intro i
    rw [Nat.zero_testBit]
    refine ts_nt (fun q => ?_)
    obtain ⟨c, hc, _⟩ := (h i).mp q
    rw [Nat.zero_testBit] at hc; cases hc
  · rintro rfl
    refine ⟨fun _ => 0, fun c hc => ?_, fun c e p hc => ?_, fun p => ?_⟩
    · rw [Nat.zero_testBit] at hc; cases hc
    · rw [Nat.zero_testBit] at hc; cases hc
    · constructor
      · intro q; rw [Nat.zero_testBit] at q; cases q
      · rintro ⟨c, hc, _⟩; rw [Nat.zero_testBit] at hc; cases hc
theorem sp_asg_peel {ch : Nat → Nat → Bool} {A u9 c : Nat} (hA : A.testBit c = true) : sp_asg ch A u9 ↔ ∃ b, ch c b = true ∧ sp_sub b u9 = 0 ∧ sp_asg ch (sp_clr A c) (sp_sub u9 b) := by
  constructor
  · rintro ⟨g, g1, g2, g3⟩
    refine ⟨g c, g1 c hA, sp_sub_0.mpr (fun i hi => (g3 i).mpr ⟨c, hA, hi⟩), g, fun e he => ?_, fun e f p he hf => ?_, fun p => ?_⟩
    · rw [sp_clr_bit, Bool.and_eq_true] at he; exact g1 e he.1
    · rw [sp_clr_bit, Bool.and_eq_true] at he hf; exact g2 e f p he.1 hf.1
    · rw [sp_sub_bit, Bool.and_eq_true]
      constructor
      · rintro ⟨h1, h2⟩
        obtain ⟨e, he, hp⟩ := (g3 p).mp h1
        refine ⟨e, ?_, hp⟩
        rw [sp_clr_bit, he]
        have : e ≠ c := fun z => by subst z; rw [hp] at h2; cases h2
        simp [this]
      · rintro ⟨e, he, hp⟩
        rw [sp_clr_bit, Bool.and_eq_true, decide_eq_true_eq] at he
        refine ⟨(g3 p).mpr ⟨e, he.1, hp⟩, ?_⟩
        rw [g2 e c p he.1 hA he.2 hp]; rfl
  · rintro ⟨b, b1, b2, g, g1, g2, g3⟩
    have gm9 : ∀ e p, A.testBit e = true → e ≠ c → (g e).testBit p = true → u9.testBit p = true ∧ b.testBit p = false := fun e p he hec hp => by
      have := (g3 p).mpr ⟨e, by rw [sp_clr_bit, he]; simp [hec], hp⟩
      rw [sp_sub_bit, Bool.and_eq_true] at this
      exact ⟨this.1, by have h2 := this.2; cases hb : b.testBit p <;> rw [hb] at h2 <;> simp at h2 ⊢⟩
    refine ⟨fun e => if e = c then b else g e, fun e he => ?_, fun e f p he hf hef hp => ?_, fun p => ?_⟩
    · by_cases z : e = c
      · subst z; simp; exact b1
      · simp [z]; exact g1 e (by rw [sp_clr_bit, he]; simp [z])
    · by_cases z : e = c
      · subst z
        simp only [if_true] at hp
        have hfe : f ≠ e := fun y => hef y.symm
        show (if f = e then b else g f).testBit p = false
        rw [if_neg hfe]
        refine ts_nt (fun q => ?_)
        have := (gm9 f p hf hfe q).2
        rw [hp] at this; cases this
      · have hp2 : (if e = c then b else g e).testBit p = true := hp
        rw [if_neg z] at hp2
        show (if f = c then b else g f).testBit p = false
        by_cases y : f = c
        · subst y; rw [if_pos rfl]; exact (gm9 e p he z hp2).2
        · rw [if_neg y]
          exact g2 e f p (by rw [sp_clr_bit, he]; simp [z]) (by rw [sp_clr_bit, hf]; simp [y]) hef hp2
    · constructor
      · intro q
        cases hb : b.testBit p with
        | true => exact ⟨c, hA, by simp [hb]⟩
        | false =>
          obtain ⟨e, he, hp⟩ := (g3 p).mp (by rw [sp_sub_bit, q, hb]; rfl)
          rw [sp_clr_bit, Bool.and_eq_true, decide_eq_true_eq] at he
          exact ⟨e, he.1, by simp [he.2, hp]⟩
      · rintro ⟨e, he, hp⟩
        by_cases z : e = c
        · subst z; simp only [if_true] at hp; exact sp_sub_0.mp b2 p hp
        · have hp : (if e = c then b else g e).testBit p = true := hp
          rw [if_neg z] at hp; exact (gm9 e p he z hp).1
def sp_wS (v : Nat → Nat) (N A : Nat) : Nat := fb_sm (fun c => if A.testBit c then v c else 0) N
theorem sp_wS_0 (v : Nat → Nat) (N : Nat) : sp_wS v N 0 = 0 := fb_sm_eq0 (fun k _ => by simp)
theorem sp_wS_clr {v : Nat → Nat} {N A c : Nat} (hc : c < N) (hA : A.testBit c = true) : sp_wS v N A = sp_wS v N (sp_clr A c) + v c := by
  unfold sp_wS
  have h1 := fb_sm_upd (fun k => if A.testBit k then v k else 0) 0 (i := c) (n := N) hc
  simp only [hA, if_true] at h1
  have h2 : fb_sm (fun k => if (sp_clr A c).testBit k then v k else 0) N = fb_sm (fun k => if k = c then 0 else if A.testBit k then v k else 0) N := fb_sm_cong (fun k _ => by
    rw [sp_clr_bit]
    by_cases e : k = c
    · subst e; simp
    · simp [e])
  rw [h2]
  omega
theorem sp_wS_or {v : Nat → Nat} {N A B : Nat} (h : ∀ i, A.testBit i = true → B.testBit i = false) : sp_wS v N (A ||| B) = sp_wS v N A + sp_wS v N B := by
  unfold sp_wS
  rw [← fb_sm_add]
  refine fb_sm_cong (fun k _ => ?_)
  rw [Nat.testBit_or]
  cases q : A.testBit k with
  | false => simp
  | true => rw [h k q]; simp
theorem sp_wS_one {v : Nat → Nat} {N c : Nat} (hc : c < N) : sp_wS v N (2 ^ c) = v c := by
  have h1 : (2 ^ c).testBit c = true := by rw [Nat.testBit_two_pow]; simp
  rw [sp_wS_clr hc h1]
  have : sp_clr (2 ^ c) c = 0 := by
    apply Nat.eq_of_testBit_eq
    intro i
    rw [sp_clr_bit, Nat.testBit_two_pow, Nat.zero_testBit]
    by_cases e : i = c
    · subst e; simp
    · rw [decide_eq_false (show ¬ c = i from fun z => e z.symm)]; rfl
  rw [this, sp_wS_0, Nat.zero_add]
theorem sp_fb_ub {ch : Nat → Nat → Bool} {w v : Nat → Nat} {N : Nat} (h256 : ∀ c b, ch c b = true → b < 256) : ∀ r c free left A u9, c + r = N → (∀ i, A.testBit i = true → c ≤ i ∧ i < N) → sp_wS w N A ≤ left → sp_asg ch A u9 → sp_sub u9 free = 0 → sp_wS v N A ≤ sp_fb ch w v r c free left := by
  intro r
  induction r with
  | zero =>
    intro c free left A u9 hc hA _ _ _
    have : A = 0 := by
      apply Nat.eq_of_testBit_eq
      intro i
      rw [Nat.zero_testBit]
      exact ts_nt (fun q => by have := hA i q; omega)
    rw [this, sp_wS_0]; exact Nat.zero_le _
  | succ r ih =>
    intro c free left A u9 hc hA hw hm9 hf
    simp only [sp_fb]
    by_cases hAc : A.testBit c = true
    · obtain ⟨b, b1, b2, b3⟩ := (sp_asg_peel hAc).mp hm9
      have e1 := sp_wS_clr (v := w) (show c < N by omega) hAc
      have e2 := sp_wS_clr (v := v) (show c < N by omega) hAc
      have P : sp_fp ch w c free left b = true := by
        unfold sp_fp
        rw [b1, decide_eq_true (sp_sub_0.mpr (fun i hi => sp_sub_0.mp hf i (sp_sub_0.mp b2 i hi))), decide_eq_true (by omega)]; rfl
      have := ih (c + 1) (sp_sub free b) (left - w c) (sp_clr A c) (sp_sub u9 b) (by omega) (fun i hi => by rw [sp_clr_bit, Bool.and_eq_true, decide_eq_true_eq] at hi; have := hA i hi.1; omega) (by omega) b3 (sp_sub_0.mpr (fun i hi => by
        rw [sp_sub_bit, Bool.and_eq_true] at hi ⊢
        exact ⟨sp_sub_0.mp hf i hi.1, hi.2⟩))
      have lb := sp_fm_lb (f := fun b => v c + sp_fb ch w v r (c + 1) (sp_sub free b) (left - w c)) (z := sp_fb ch w v r (c + 1) free left) 256 b (h256 c b b1) P
      omega
    · have := ih (c + 1) free left A u9 (by omega) (fun i hi => by
        have := hA i hi
        have : i ≠ c := fun z => by subst z; exact hAc hi
        omega) hw hm9 hf
      have lb := sp_fm_zle (P := sp_fp ch w c free left) (f := fun b => v c + sp_fb ch w v r (c + 1) (sp_sub free b) (left - w c)) (z := sp_fb ch w v r (c + 1) free left) 256
      omega
theorem sp_fb_ex {ch : Nat → Nat → Bool} {w v : Nat → Nat} {N : Nat} : ∀ r c free left, c + r = N → ∃ A u9, (∀ i, A.testBit i = true → c ≤ i ∧ i < N) ∧ sp_wS w N A ≤ left ∧ sp_asg ch A u9 ∧ sp_sub u9 free = 0 ∧ sp_wS v N A = sp_fb ch w v r c free left := by
  intro r
  induction r with
  | zero =>
    intro c free left hc
    exact ⟨0, 0, fun i hi => (by rw [Nat.zero_testBit] at hi; cases hi), by rw [sp_wS_0]; exact Nat.zero_le _, sp_asg_0.mpr rfl, sp_sub_0.mpr (fun i hi => (by rw [Nat.zero_testBit] at hi; cases hi)), sp_wS_0 _ _⟩
  | succ r ih =>
    intro c free left hc
    by_cases h : sp_fb ch w v r (c + 1) free left < sp_fm (sp_fp ch w c free left) (fun b => v c + sp_fb ch w v r (c + 1) (sp_sub free b) (left - w c)) (sp_fb ch w v r (c + 1) free left) 256
    · obtain ⟨b, b1, b2, b3⟩ := sp_fm_at 256 h
      unfold sp_fp at b2
      simp only [Bool.and_eq_true, decide_eq_true_eq] at b2
      obtain ⟨A, u9, a1, a2, a3, a4, a5⟩ := ih (c + 1) (sp_sub free b) (left - w c) (by omega)
      have hAc : A.testBit c = false := ts_nt (fun q => by have := a1 c q; omega)
      have hbit : (A ||| 2 ^ c).testBit c = true := by rw [fb_bit_set]; simp
      have hclr : sp_clr (A ||| 2 ^ c) c = A := by
        apply Nat.eq_of_testBit_eq
        intro i
        rw [sp_clr_bit, fb_bit_set]
        by_cases e : i = c
        · subst e; rw [hAc]; simp
        · simp [e]
      have hdis : ∀ i, u9.testBit i = true → b.testBit i = false := fun i hi => by
        have := sp_sub_0.mp a4 i hi
        rw [sp_sub_bit, Bool.and_eq_true] at this
        cases hb : b.testBit i with
        | false => rfl
        | true => rw [hb] at this; exact absurd this.2 (by decide)
      have hsub : sp_sub (u9 ||| b) b = u9 := by
        apply Nat.eq_of_testBit_eq
        intro i
        rw [sp_sub_bit, Nat.testBit_or]
        cases q : u9.testBit i with
        | false => cases b.testBit i <;> rfl
        | true => rw [hdis i q]; rfl
      refine ⟨A ||| 2 ^ c, u9 ||| b, fun i hi => ?_, ?_, (sp_asg_peel hbit).mpr ⟨b, b2.1, sp_sub_0.mpr (fun i hi => by rw [Nat.testBit_or, hi, Bool.or_true]), by rw [hclr, hsub]; exact a3⟩, sp_sub_0.mpr (fun i hi => ?_), ?_⟩
      · rw [fb_bit_set, Bool.or_eq_true, decide_eq_true_eq] at hi
        rcases hi with hi | hi
        · have := a1 i hi; omega
        · omega
      · rw [sp_wS_clr (by omega) hbit, hclr]; omega
      · rw [Nat.testBit_or, Bool.or_eq_true] at hi
        rcases hi with hi | hi
        · have := sp_sub_0.mp a4 i hi
          rw [sp_sub_bit, Bool.and_eq_true] at this
          exact this.1
        · exact sp_sub_0.mp b2.2.1 i hi
      · rw [sp_wS_clr (by omega) hbit, hclr, a5]
        show _ = sp_fm _ _ _ 256
        rw [← b3]
        omega
    · obtain ⟨A, u9, a1, a2, a3, a4, a5⟩ := ih (c + 1) free left (by omega)
      have lb := sp_fm_zle (P := sp_fp ch w c free left) (f := fun b => v c + sp_fb ch w v r (c + 1) (sp_sub free b) (left - w c)) (z := sp_fb ch w v r (c + 1) free left) 256
      refine ⟨A, u9, fun i hi => by have := a1 i hi; omega, a2, a3, a4, ?_⟩
      rw [a5]
      show _ = sp_fm _ _ _ 256
      omega
/-- a set of cloths, told ahead, can be made one of the most worth -/
theorem sp_end_iff {ch : Nat → Nat → Bool} {w v : Nat → Nat} {N snd9 Y T r c U u : Nat} (h256 : ∀ c b, ch c b = true → b < 256) (hsn : ∀ c b, ch c b = true → sp_sub b snd9 = 0) (hs256 : snd9 < 256) (hc : c + r = N) (hU : ∀ i, U.testBit i = true → i < c) (hub : sp_wS w N U ≤ Y → sp_wS v N U + sp_fb ch w v r c (sp_sub snd9 u) (Y - sp_wS w N U) ≤ T) :
    (∃ A, (∀ i, A.testBit i = true → c ≤ i ∧ i < N) ∧ sp_wS v N (U ||| A) = T ∧ sp_wS w N (U ||| A) ≤ Y ∧ ∃ k9, k9 < 256 ∧ k9 &&& u = 0 ∧ sp_asg ch A k9) ↔ (sp_wS w N U ≤ Y ∧ sp_wS v N U + sp_fb ch w v r c (sp_sub snd9 u) (Y - sp_wS w N U) = T) := by
  have dj : ∀ A : Nat, (∀ i, A.testBit i = true → c ≤ i ∧ i < N) → ∀ i, U.testBit i = true → A.testBit i = false := fun A hA i hi => ts_nt (fun q => by have := hA i q; have := hU i hi; omega)
  constructor
  · rintro ⟨A, a1, a2, a3, k9, k1, k2, k3⟩
    rw [sp_wS_or (dj A a1)] at a2 a3
    have hks : sp_sub k9 (sp_sub snd9 u) = 0 := sp_sub_0.mpr (fun i hi => by
      obtain ⟨g, g1, _, g3⟩ := k3
      obtain ⟨e, he, hp⟩ := (g3 i).mp hi
      have h1 := sp_sub_0.mp (hsn e _ (g1 e he)) i hp
      rw [sp_sub_bit, h1]
      have h2 := congrArg (fun z => Nat.testBit z i) k2
      simp only [Nat.testBit_and, hi, Nat.zero_testBit, Bool.true_and] at h2
      rw [h2]; rfl)
    have := sp_fb_ub (w := w) (v := v) h256 r c (sp_sub snd9 u) (Y - sp_wS w N U) A k9 hc a1 (by omega) k3 hks
    have := hub (by omega)
    exact ⟨by omega, by omega⟩
  · rintro ⟨h1, h2⟩
    obtain ⟨A, k9, a1, a2, a3, a4, a5⟩ := sp_fb_ex (ch := ch) (w := w) (v := v) r c (sp_sub snd9 u) (Y - sp_wS w N U) hc
    refine ⟨A, a1, by rw [sp_wS_or (dj A a1), a5]; exact h2, by rw [sp_wS_or (dj A a1)]; omega, k9, ?_, ?_, a3⟩
    · have : k9 ≤ snd9 := by
        have e : k9 &&& snd9 = k9 := by
          apply Nat.eq_of_testBit_eq
          intro i
          rw [Nat.testBit_and]
          cases q : k9.testBit i with
          | false => rfl
          | true =>
            have := sp_sub_0.mp a4 i q
            rw [sp_sub_bit, Bool.and_eq_true] at this
            rw [this.1]; rfl
        rw [← e]; exact Nat.and_le_right
      omega
    · apply Nat.eq_of_testBit_eq
      intro i
      rw [Nat.testBit_and, Nat.zero_testBit]
      cases q : k9.testBit i with
      | false => rfl
      | true =>
        have := sp_sub_0.mp a4 i q
        rw [sp_sub_bit, Bool.and_eq_true] at this
        have h3 := this.2
        cases hu : u.testBit i with
        | false => rfl
        | true => rw [hu] at h3; exact absurd h3 (by decide)
