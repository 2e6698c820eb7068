/-! LINES: what holds of what is read -/
theorem rd_X0_ok : rd_ok rd_X0 := by
  refine ⟨⟨by decide, fun c9 => ?_, by decide, by decide, ⟨by decide, by decide⟩, by decide, fun j9 => ?_, fun p9 => ?_, sp_def_ok0, sp_def_ok1⟩, ⟨fun c9 hc => absurd hc (by show ¬ c9 < 0; omega), fun c9 e9 hc => absurd hc (by show ¬ c9 < 0; omega)⟩, ⟨fun a9 b9 _ _ => ?_, fun a9 _ => ?_, ?_, fun k9 => ?_⟩, by decide⟩
  · show rd_X0.1 0 c9 ≤ 3 ∧ rd_X0.1 1 c9 ≤ 20 ∧ rd_X0.1 2 c9 ≤ 20 ∧ rd_X0.1 3 c9 ≤ 99
    simp [rd_X0]
  · show rd_X0.1 5 j9 ≤ 9
    simp only [rd_X0]
    repeat' split
    all_goals omega
  · show rd_X0.1 7 p9 ≤ 9
    simp [rd_X0]
  · simp [rd_X0]
  · simp [rd_X0]
  · decide
  · simp [rd_X0]
theorem rd_row_ok {tp : List Nat} {w9 most lo : Nat} : ∀ f9 k9 n9 L9 r9, rd_row tp w9 most lo f9 k9 n9 L9 = .ok r9 → n9 ≤ most → most + 1 < f9 + n9 → k9 ≤ tp.length → 1 ≤ r9.2.1 ∧ r9.2.1 ≤ most ∧ n9 ≤ r9.2.1 ∧ k9 ≤ r9.1 ∧ r9.1 ≤ tp.length ∧ r9.1 + n9 = k9 + r9.2.1 ∧ (∀ a9 b9, a9 ≠ w9 → r9.2.2 a9 b9 = L9 a9 b9) ∧ ∀ b9, r9.2.2 w9 b9 = L9 w9 b9 ∨ r9.2.2 w9 b9 ≤ 9 := by
  intro f9
  induction f9 with
  | zero => intro k9 n9 L9 r9 _ h1 h2; omega
  | succ f9 ih9 =>
    intro k9 n9 L9 r9 hh h1 h2 h3
    simp only [rd_row] at hh
    split at hh
    · obtain ⟨v9, hv, hh⟩ := rd_b_inv hh
      have nv := rd_num_ok hv
      split at hh
      · cases hh
      · rename_i c9
        obtain ⟨a1, a2, a3, a4, a5, a6, a7, a8⟩ := ih9 _ _ _ _ hh (by omega) (by omega) (by omega)
        refine ⟨a1, a2, by omega, by omega, a5, by omega, fun a9 b9 z9 => ?_, fun b9 => ?_⟩
        · rw [a7 a9 b9 z9]
          exact sp_up_ne (fun y9 => z9 y9.1)
        · rcases a8 b9 with y9 | y9
          · by_cases z9 : b9 = n9
            · right; rw [y9, z9, sp_up_at]; omega
            · left; rw [y9]; exact sp_up_ne (fun x9 => z9 x9.2)
          · exact Or.inr y9
    · rename_i c9
      injection hh with hh
      subst hh
      have : n9 ≠ 0 := fun z9 => c9 (Or.inl z9)
      exact ⟨by show 1 ≤ n9; omega, h1, Nat.le_refl _, Nat.le_refl _, h3, rfl, fun _ _ _ => rfl, fun _ => Or.inl rfl⟩
theorem rd_cloth_ok {tp : List Nat} {k9 : Nat} {X9 : rd_X} {r9 : Nat × rd_X} (ho : rd_ok X9) (hh : rd_cloth tp k9 X9 = .ok r9) : rd_ok r9.2 ∧ k9 < r9.1 ∧ r9.1 ≤ tp.length := by
  unfold rd_cloth at hh
  split at hh
  · cases hh
  rename_i n6
  split at hh
  · cases hh
  rename_i hnm
  rw [Bool.not_eq_false] at hnm
  split at hh
  · cases hh
  rename_i hfi
  rw [Bool.not_eq_true, Option.isSome_eq_false_iff, Option.isNone_iff_eq_none] at hfi
  cases hw : tk_wd (tk_tok tp (k9 + 2)) with
  | none => rw [hw] at hh; cases hh
  | some j9 =>
    rw [hw] at hh
    simp only at hh
    split at hh
    · rename_i hj
      obtain ⟨a9, ha, hh⟩ := rd_b_inv hh
      obtain ⟨b9, hb, hh⟩ := rd_b_inv hh
      obtain ⟨c9, hc, hh⟩ := rd_b_inv hh
      injection hh with hh
      subst hh
      have na := rd_meas_ok ha
      have nb := rd_meas_ok hb
      have nc := rd_meas_ok hc
      obtain ⟨⟨o1, o2, o3, o4, o5, o6, o7, o8, o9, o10⟩, ⟨p1, p2⟩, ⟨q1, q2, q3, q4⟩, o64⟩ := ho
      have hgood : tk_good (tk_tok tp (k9 + 1)).2 := tk_t_good (rd_nm_2 hnm)
      have l6 : ∀ p9, (rd_addc X9 (tk_tok tp (k9 + 1)).2 (j9 - 16) a9 b9 c9).1 6 p9 = X9.1 6 p9 := fun p9 => by simp [rd_addc, sp_up]
      have l40 : (rd_addc X9 (tk_tok tp (k9 + 1)).2 (j9 - 16) a9 b9 c9).1 4 0 = X9.1 4 0 + 1 := by simp [rd_addc, sp_up]
      have l4 : ∀ i9, i9 ≠ 0 → (rd_addc X9 (tk_tok tp (k9 + 1)).2 (j9 - 16) a9 b9 c9).1 4 i9 = X9.1 4 i9 := fun i9 z9 => by simp [rd_addc, sp_up, z9]
      have l5 : ∀ i9, (rd_addc X9 (tk_tok tp (k9 + 1)).2 (j9 - 16) a9 b9 c9).1 5 i9 = X9.1 5 i9 := fun i9 => by simp [rd_addc, sp_up]
      have l7 : ∀ i9, (rd_addc X9 (tk_tok tp (k9 + 1)).2 (j9 - 16) a9 b9 c9).1 7 i9 = X9.1 7 i9 := fun i9 => by simp [rd_addc, sp_up]
      have nmq : ∀ i9, (rd_addc X9 (tk_tok tp (k9 + 1)).2 (j9 - 16) a9 b9 c9).2.2.1 i9 = if i9 = X9.1 4 0 then (tk_tok tp (k9 + 1)).2 else X9.2.2.1 i9 := fun _ => rfl
      have wlen : 0 < (tk_tok tp (k9 + 1)).2.length := by
        have h2 := rd_nm_2 hnm
        unfold tk_tok tk_t at h2 ⊢
        cases hc : tp[tk_p tp (tk_i tp (k9 + 1))]? with
        | none => rw [hc] at h2; exact absurd h2 (by simp)
        | some c9 =>
          rw [hc] at h2
          simp only at h2 ⊢
          split at h2
          · rename_i y1
            rw [if_pos y1]
            split at h2
            · rename_i y2
              rw [if_pos y2]
              have := (tk_run_pos (p := tk_L) hc).mpr y1
              simpa [tk_ls] using this
            · exact absurd h2 (by simp)
          · split at h2
            · split at h2 <;> exact absurd h2 (by simp)
            · split at h2 <;> exact absurd h2 (by simp)
      refine ⟨⟨⟨?_, fun i9 => ?_, ?_, ?_, ?_, ?_, fun i9 => ?_, fun i9 => ?_, o9, o10⟩, ⟨fun i9 hi => ?_, fun i9 e9 hi he hq => ?_⟩, ⟨fun x9 y9 hx hy => ?_, fun x9 hx => ?_, ?_, fun x9 => ?_⟩, o64⟩, by show k9 < k9 + 9; omega, by show k9 + 9 ≤ tp.length; omega⟩
      · show (rd_addc X9 (tk_tok tp (k9 + 1)).2 (j9 - 16) a9 b9 c9).1 4 0 ≤ 6
        rw [l40]; omega
      · have := o2 i9
        simp only [rd_addc, sp_up]
        refine ⟨?_, ?_, ?_, ?_⟩ <;> (repeat' split) <;> omega
      · show (rd_addc X9 (tk_tok tp (k9 + 1)).2 (j9 - 16) a9 b9 c9).1 4 1 ≤ 60
        rw [l4 1 (by decide)]; exact o3
      · show (rd_addc X9 (tk_tok tp (k9 + 1)).2 (j9 - 16) a9 b9 c9).1 4 2 ≤ 10
        rw [l4 2 (by decide)]; exact o4
      · show 1 ≤ (rd_addc X9 (tk_tok tp (k9 + 1)).2 (j9 - 16) a9 b9 c9).1 4 3 ∧ (rd_addc X9 (tk_tok tp (k9 + 1)).2 (j9 - 16) a9 b9 c9).1 4 3 ≤ 12
        rw [l4 3 (by decide)]; exact o5
      · show (rd_addc X9 (tk_tok tp (k9 + 1)).2 (j9 - 16) a9 b9 c9).1 4 4 ≤ 8
        rw [l4 4 (by decide)]; exact o6
      · show (rd_addc X9 (tk_tok tp (k9 + 1)).2 (j9 - 16) a9 b9 c9).1 5 i9 ≤ 9
        rw [l5]; exact o7 i9
      · show (rd_addc X9 (tk_tok tp (k9 + 1)).2 (j9 - 16) a9 b9 c9).1 7 i9 ≤ 9
        rw [l7]; exact o8 i9
      · have hi : i9 < (rd_addc X9 (tk_tok tp (k9 + 1)).2 (j9 - 16) a9 b9 c9).1 4 0 := hi
        show 0 < ((rd_addc X9 (tk_tok tp (k9 + 1)).2 (j9 - 16) a9 b9 c9).2.2.1 i9).length ∧ tk_good ((rd_addc X9 (tk_tok tp (k9 + 1)).2 (j9 - 16) a9 b9 c9).2.2.1 i9)
        rw [l40] at hi
        rw [nmq]
        split
        · exact ⟨wlen, hgood⟩
        · exact p1 i9 (by omega)
      · have hi : i9 < (rd_addc X9 (tk_tok tp (k9 + 1)).2 (j9 - 16) a9 b9 c9).1 4 0 := hi
        have he : e9 < (rd_addc X9 (tk_tok tp (k9 + 1)).2 (j9 - 16) a9 b9 c9).1 4 0 := he
        have hq : (rd_addc X9 (tk_tok tp (k9 + 1)).2 (j9 - 16) a9 b9 c9).2.2.1 i9 = (rd_addc X9 (tk_tok tp (k9 + 1)).2 (j9 - 16) a9 b9 c9).2.2.1 e9 := hq
        rw [l40] at hi he
        rw [nmq, nmq] at hq
        split at hq
        · rename_i z9
          split at hq
          · omega
          · exact absurd hq.symm (rd_find_no hfi e9 (by omega))
        · rename_i z9
          split at hq
          · exact absurd hq (rd_find_no hfi i9 (by omega))
          · exact p2 i9 e9 (by omega) (by omega) hq
      · show (rd_addc X9 (tk_tok tp (k9 + 1)).2 (j9 - 16) a9 b9 c9).1 6 (6 * x9 + y9) = (rd_addc X9 (tk_tok tp (k9 + 1)).2 (j9 - 16) a9 b9 c9).1 6 (6 * y9 + x9)
        rw [l6, l6]; exact q1 x9 y9 hx hy
      · show (rd_addc X9 (tk_tok tp (k9 + 1)).2 (j9 - 16) a9 b9 c9).1 6 (6 * x9 + x9) ≠ 1
        rw [l6]; exact q2 x9 hx
      · show (rd_addc X9 (tk_tok tp (k9 + 1)).2 (j9 - 16) a9 b9 c9).1 4 5 = rd_cnt (rd_addc X9 (tk_tok tp (k9 + 1)).2 (j9 - 16) a9 b9 c9).1
        rw [l4 5 (by decide), rd_cnt_cong l6]; exact q3
      · show (rd_addc X9 (tk_tok tp (k9 + 1)).2 (j9 - 16) a9 b9 c9).1 6 x9 ≤ 1
        rw [l6]; exact q4 x9
    · cases hh
theorem rd_clash_ok {tp : List Nat} {k9 : Nat} {X9 : rd_X} {r9 : Nat × rd_X} (ho : rd_ok X9) (hh : rd_clash tp k9 X9 = .ok r9) : rd_ok r9.2 ∧ k9 < r9.1 ∧ r9.1 ≤ tp.length := by
  unfold rd_clash at hh
  obtain ⟨a9, ha, hh⟩ := rd_b_inv hh
  obtain ⟨b9, hb, hh⟩ := rd_b_inv hh
  split at hh
  · cases hh
  rename_i hab
  injection hh with hh
  subst hh
  have na := rd_told_ok ha
  have nb := rd_told_ok hb
  obtain ⟨⟨o1, o2, o3, o4, o5, o6, o7, o8, o9, o10⟩, ⟨p1, p2⟩, ⟨q1, q2, q3, q4⟩, o64⟩ := ho
  have ne : a9 ≠ b9 := fun z9 => hab (Or.inl z9)
  have n1 : X9.1 6 (6 * a9 + b9) ≠ 1 := fun z9 => hab (Or.inr z9)
  have n2 : X9.1 6 (6 * b9 + a9) ≠ 1 := by rw [q1 b9 a9 (by omega) (by omega)]; exact n1
  have lo : ∀ x9 y9, x9 ≠ 6 → (x9 = 4 → y9 ≠ 5) → (rd_addx X9 a9 b9).1 x9 y9 = X9.1 x9 y9 := fun x9 y9 z1 z2 => by
    simp only [rd_addx, sp_up]
    rw [if_neg (fun c => z2 c.1 c.2), if_neg (fun c => z1 c.1), if_neg (fun c => z1 c.1)]
  have l6 : ∀ p9, (rd_addx X9 a9 b9).1 6 p9 = if p9 = 6 * b9 + a9 then 1 else if p9 = 6 * a9 + b9 then 1 else X9.1 6 p9 := fun p9 => by
    simp [rd_addx, sp_up]
  have l45 : (rd_addx X9 a9 b9).1 4 5 = X9.1 4 5 + 1 := by simp [rd_addx, sp_up]
  refine ⟨⟨⟨?_, fun i9 => ?_, ?_, ?_, ?_, ?_, fun i9 => ?_, fun i9 => ?_, o9, o10⟩, ⟨fun i9 hi => ?_, fun i9 e9 hi he hq => ?_⟩, ⟨fun x9 y9 hx hy => ?_, fun x9 hx => ?_, ?_, fun x9 => ?_⟩, o64⟩, by show k9 < k9 + 3; omega, by show k9 + 3 ≤ tp.length; omega⟩
  · show (rd_addx X9 a9 b9).1 4 0 ≤ 6
    rw [lo 4 0 (by decide) (by decide)]; exact o1
  · show (rd_addx X9 a9 b9).1 0 i9 ≤ 3 ∧ (rd_addx X9 a9 b9).1 1 i9 ≤ 20 ∧ (rd_addx X9 a9 b9).1 2 i9 ≤ 20 ∧ (rd_addx X9 a9 b9).1 3 i9 ≤ 99
    rw [lo 0 i9 (by decide) (by intro c; cases c), lo 1 i9 (by decide) (by intro c; cases c), lo 2 i9 (by decide) (by intro c; cases c), lo 3 i9 (by decide) (by intro c; cases c)]
    exact o2 i9
  · show (rd_addx X9 a9 b9).1 4 1 ≤ 60
    rw [lo 4 1 (by decide) (by decide)]; exact o3
  · show (rd_addx X9 a9 b9).1 4 2 ≤ 10
    rw [lo 4 2 (by decide) (by decide)]; exact o4
  · show 1 ≤ (rd_addx X9 a9 b9).1 4 3 ∧ (rd_addx X9 a9 b9).1 4 3 ≤ 12
    rw [lo 4 3 (by decide) (by decide)]; exact o5
  · show (rd_addx X9 a9 b9).1 4 4 ≤ 8
    rw [lo 4 4 (by decide) (by decide)]; exact o6
  · show (rd_addx X9 a9 b9).1 5 i9 ≤ 9
    rw [lo 5 i9 (by decide) (by intro c; cases c)]; exact o7 i9
  · show (rd_addx X9 a9 b9).1 7 i9 ≤ 9
    rw [lo 7 i9 (by decide) (by intro c; cases c)]; exact o8 i9
  · have hi : i9 < (rd_addx X9 a9 b9).1 4 0 := hi
    rw [lo 4 0 (by decide) (by decide)] at hi
    exact p1 i9 hi
  · have hi : i9 < (rd_addx X9 a9 b9).1 4 0 := hi
    have he : e9 < (rd_addx X9 a9 b9).1 4 0 := he
    rw [lo 4 0 (by decide) (by decide)] at hi he
    exact p2 i9 e9 hi he hq
  · show (rd_addx X9 a9 b9).1 6 (6 * x9 + y9) = (rd_addx X9 a9 b9).1 6 (6 * y9 + x9)
    have := q1 x9 y9 hx hy
    rw [l6, l6]
    repeat' split
    all_goals omega
  · show (rd_addx X9 a9 b9).1 6 (6 * x9 + x9) ≠ 1
    have := q2 x9 hx
    rw [l6]
    repeat' split
    all_goals omega
  · show (rd_addx X9 a9 b9).1 4 5 = rd_cnt (rd_addx X9 a9 b9).1
    rw [l45, q3]
    unfold rd_cnt
    have hp0 : 6 * min a9 b9 + max a9 b9 < 36 := by omega
    have hd1 : (6 * min a9 b9 + max a9 b9) / 6 = min a9 b9 := by omega
    have hd2 : (6 * min a9 b9 + max a9 b9) % 6 = max a9 b9 := by omega
    have hp1 : 6 * min a9 b9 + max a9 b9 = 6 * a9 + b9 ∨ 6 * min a9 b9 + max a9 b9 = 6 * b9 + a9 := by omega
    have := rd_cnt_up (f9 := fun p9 => decide (p9 / 6 < p9 % 6) && decide (X9.1 6 p9 = 1)) (g9 := fun p9 => decide (p9 / 6 < p9 % 6) && decide ((rd_addx X9 a9 b9).1 6 p9 = 1)) (p0 := 6 * min a9 b9 + max a9 b9) (by
        show (_ && decide (X9.1 6 (6 * min a9 b9 + max a9 b9) = 1)) = false
        rw [decide_eq_false (show ¬ X9.1 6 (6 * min a9 b9 + max a9 b9) = 1 by rcases hp1 with z9 | z9 <;> rw [z9] <;> assumption), Bool.and_false]) (by
        show (decide ((6 * min a9 b9 + max a9 b9) / 6 < (6 * min a9 b9 + max a9 b9) % 6) && decide ((rd_addx X9 a9 b9).1 6 (6 * min a9 b9 + max a9 b9) = 1)) = true
        rw [hd1, hd2, decide_eq_true (show min a9 b9 < max a9 b9 by omega), l6, decide_eq_true]
        · rfl
        · rcases hp1 with z9 | z9
          · rw [z9]
            split
            · rfl
            · rw [if_pos rfl]
          · rw [if_pos z9]) (fun p9 hp => by
        show (decide (p9 / 6 < p9 % 6) && decide ((rd_addx X9 a9 b9).1 6 p9 = 1)) = (decide (p9 / 6 < p9 % 6) && decide (X9.1 6 p9 = 1))
        rw [l6]
        by_cases z1 : p9 = 6 * b9 + a9
        · rw [decide_eq_false (show ¬ p9 / 6 < p9 % 6 by omega), Bool.false_and, Bool.false_and]
        · by_cases z2 : p9 = 6 * a9 + b9
          · rw [decide_eq_false (show ¬ p9 / 6 < p9 % 6 by omega), Bool.false_and, Bool.false_and]
          · rw [if_neg z1, if_neg z2]) 36
    rw [if_pos hp0] at this
    exact this.symm
  · show (rd_addx X9 a9 b9).1 6 x9 ≤ 1
    have := q4 x9
    rw [l6]
    repeat' split
    all_goals omega
theorem rd_or_lt {o9 q9 : Nat} (ho : o9 < 64) (hq : q9 < 6) : o9 ||| 2 ^ q9 < 64 := by
  have : 2 ^ q9 < 2 ^ 6 := Nat.pow_lt_pow_right (by decide) hq
  exact Nat.or_lt_two_pow (n := 6) ho this
/-- one number of the line changes -/
theorem rd_set_ok {X9 : rd_X} {i9 v9 o8 : Nat} (ho : rd_ok X9) (hi : i9 = 1 ∧ v9 ≤ 60 ∨ i9 = 2 ∧ v9 ≤ 10) (h8 : o8 < 64) : rd_ok (sp_up X9.1 4 i9 v9, X9.2.1, X9.2.2.1, o8) := by
  obtain ⟨⟨o1, o2, o3, o4, o5, o6, o7, o8', o9, o10⟩, ⟨p1, p2⟩, ⟨q1, q2, q3, q4⟩, o64⟩ := ho
  have lo : ∀ x9 y9, ¬ (x9 = 4 ∧ y9 = i9) → (sp_up X9.1 4 i9 v9) x9 y9 = X9.1 x9 y9 := fun x9 y9 z9 => sp_up_ne z9
  have l6 : ∀ y9, (sp_up X9.1 4 i9 v9) 6 y9 = X9.1 6 y9 := fun y9 => lo 6 y9 (by omega)
  have l40 : (sp_up X9.1 4 i9 v9) 4 0 = X9.1 4 0 := lo 4 0 (by omega)
  refine ⟨⟨?_, fun j9 => ?_, ?_, ?_, ?_, ?_, fun j9 => ?_, fun j9 => ?_, o9, o10⟩, ⟨fun j9 hj => ?_, fun j9 e9 hj he hq => ?_⟩, ⟨fun x9 y9 hx hy => ?_, fun x9 hx => ?_, ?_, fun x9 => ?_⟩, h8⟩
  · show (sp_up X9.1 4 i9 v9) 4 0 ≤ 6; rw [l40]; exact o1
  · show (sp_up X9.1 4 i9 v9) 0 j9 ≤ 3 ∧ (sp_up X9.1 4 i9 v9) 1 j9 ≤ 20 ∧ (sp_up X9.1 4 i9 v9) 2 j9 ≤ 20 ∧ (sp_up X9.1 4 i9 v9) 3 j9 ≤ 99
    rw [lo 0 j9 (by omega), lo 1 j9 (by omega), lo 2 j9 (by omega), lo 3 j9 (by omega)]; exact o2 j9
  · show (sp_up X9.1 4 i9 v9) 4 1 ≤ 60
    simp only [sp_up]; split <;> omega
  · show (sp_up X9.1 4 i9 v9) 4 2 ≤ 10
    simp only [sp_up]; split <;> omega
  · show 1 ≤ (sp_up X9.1 4 i9 v9) 4 3 ∧ (sp_up X9.1 4 i9 v9) 4 3 ≤ 12
    rw [lo 4 3 (by omega)]; exact o5
  · show (sp_up X9.1 4 i9 v9) 4 4 ≤ 8
    rw [lo 4 4 (by omega)]; exact o6
  · show (sp_up X9.1 4 i9 v9) 5 j9 ≤ 9; rw [lo 5 j9 (by omega)]; exact o7 j9
  · show (sp_up X9.1 4 i9 v9) 7 j9 ≤ 9; rw [lo 7 j9 (by omega)]; exact o8' j9
  · have hj : j9 < (sp_up X9.1 4 i9 v9) 4 0 := hj
    rw [l40] at hj; exact p1 j9 hj
  · have hj : j9 < (sp_up X9.1 4 i9 v9) 4 0 := hj
    have he : e9 < (sp_up X9.1 4 i9 v9) 4 0 := he
    rw [l40] at hj he; exact p2 j9 e9 hj he hq
  · show (sp_up X9.1 4 i9 v9) 6 (6 * x9 + y9) = (sp_up X9.1 4 i9 v9) 6 (6 * y9 + x9)
    rw [l6, l6]; exact q1 x9 y9 hx hy
  · show (sp_up X9.1 4 i9 v9) 6 (6 * x9 + x9) ≠ 1
    rw [l6]; exact q2 x9 hx
  · show (sp_up X9.1 4 i9 v9) 4 5 = rd_cnt (sp_up X9.1 4 i9 v9)
    rw [lo 4 5 (by omega), rd_cnt_cong l6]; exact q3
  · show (sp_up X9.1 4 i9 v9) 6 x9 ≤ 1
    rw [l6]; exact q4 x9
/-- a row of numbers changes, and how many they are -/
theorem rd_rowset_ok {X9 : rd_X} {L8 : sp_N} {w9 i9 n9 o8 : Nat} (ho : rd_ok X9) (hi : w9 = 7 ∧ i9 = 4 ∧ n9 ≤ 8 ∨ w9 = 5 ∧ i9 = 3 ∧ 1 ≤ n9 ∧ n9 ≤ 12) (hL : ∀ a9 b9, a9 ≠ w9 → L8 a9 b9 = X9.1 a9 b9) (hw : ∀ b9, L8 w9 b9 = X9.1 w9 b9 ∨ L8 w9 b9 ≤ 9) (h8 : o8 < 64) : rd_ok (sp_up L8 4 i9 n9, X9.2.1, X9.2.2.1, o8) := by
  obtain ⟨⟨o1, o2, o3, o4, o5, o6, o7, o8', o9, o10⟩, ⟨p1, p2⟩, ⟨q1, q2, q3, q4⟩, o64⟩ := ho
  have lo : ∀ x9 y9, ¬ (x9 = 4 ∧ y9 = i9) → x9 ≠ w9 → (sp_up L8 4 i9 n9) x9 y9 = X9.1 x9 y9 := fun x9 y9 z9 z8 => (sp_up_ne z9).trans (hL x9 y9 z8)
  have l6 : ∀ y9, (sp_up L8 4 i9 n9) 6 y9 = X9.1 6 y9 := fun y9 => lo 6 y9 (by omega) (by omega)
  have l40 : (sp_up L8 4 i9 n9) 4 0 = X9.1 4 0 := lo 4 0 (by omega) (by omega)
  refine ⟨⟨?_, fun j9 => ?_, ?_, ?_, ?_, ?_, fun j9 => ?_, fun j9 => ?_, o9, o10⟩, ⟨fun j9 hj => ?_, fun j9 e9 hj he hq => ?_⟩, ⟨fun x9 y9 hx hy => ?_, fun x9 hx => ?_, ?_, fun x9 => ?_⟩, h8⟩
  · show (sp_up L8 4 i9 n9) 4 0 ≤ 6; rw [l40]; exact o1
  · show (sp_up L8 4 i9 n9) 0 j9 ≤ 3 ∧ (sp_up L8 4 i9 n9) 1 j9 ≤ 20 ∧ (sp_up L8 4 i9 n9) 2 j9 ≤ 20 ∧ (sp_up L8 4 i9 n9) 3 j9 ≤ 99
    rw [lo 0 j9 (by omega) (by omega), lo 1 j9 (by omega) (by omega), lo 2 j9 (by omega) (by omega), lo 3 j9 (by omega) (by omega)]; exact o2 j9
  · show (sp_up L8 4 i9 n9) 4 1 ≤ 60
    rw [lo 4 1 (by omega) (by omega)]; exact o3
  · show (sp_up L8 4 i9 n9) 4 2 ≤ 10
    rw [lo 4 2 (by omega) (by omega)]; exact o4
  · show 1 ≤ (sp_up L8 4 i9 n9) 4 3 ∧ (sp_up L8 4 i9 n9) 4 3 ≤ 12
    have h43 := hL 4 3 (by omega)
    simp only [sp_up]; split <;> omega
  · show (sp_up L8 4 i9 n9) 4 4 ≤ 8
    have h44 := hL 4 4 (by omega)
    simp only [sp_up]; split <;> omega
  · show (sp_up L8 4 i9 n9) 5 j9 ≤ 9
    rw [sp_up_ne (by omega)]
    have h5 := o7 j9
    rcases hi with ⟨z9, _⟩ | ⟨z9, _⟩
    · rw [hL 5 j9 (by omega)]; exact h5
    · rcases hw j9 with y9 | y9 <;> rw [z9] at y9 <;> omega
  · show (sp_up L8 4 i9 n9) 7 j9 ≤ 9
    rw [sp_up_ne (by omega)]
    have h5 := o8' j9
    rcases hi with ⟨z9, _⟩ | ⟨z9, _⟩
    · rcases hw j9 with y9 | y9 <;> rw [z9] at y9 <;> omega
    · rw [hL 7 j9 (by omega)]; exact h5
  · have hj : j9 < (sp_up L8 4 i9 n9) 4 0 := hj
    rw [l40] at hj; exact p1 j9 hj
  · have hj : j9 < (sp_up L8 4 i9 n9) 4 0 := hj
    have he : e9 < (sp_up L8 4 i9 n9) 4 0 := he
    rw [l40] at hj he; exact p2 j9 e9 hj he hq
  · show (sp_up L8 4 i9 n9) 6 (6 * x9 + y9) = (sp_up L8 4 i9 n9) 6 (6 * y9 + x9)
    rw [l6, l6]; exact q1 x9 y9 hx hy
  · show (sp_up L8 4 i9 n9) 6 (6 * x9 + x9) ≠ 1
    rw [l6]; exact q2 x9 hx
  · show (sp_up L8 4 i9 n9) 4 5 = rd_cnt (sp_up L8 4 i9 n9)
    rw [lo 4 5 (by omega) (by omega), rd_cnt_cong l6]; exact q3
  · show (sp_up L8 4 i9 n9) 6 x9 ≤ 1
    rw [l6]; exact q4 x9
theorem rd_once_ok {tp : List Nat} {k9 q9 : Nat} {X9 : rd_X} {r9 : Nat × rd_X} (hq : q9 < 6) (kl : k9 + 1 ≤ tp.length) (ho : rd_ok X9) (hh : rd_once tp k9 q9 X9 = .ok r9) : rd_ok r9.2 ∧ k9 < r9.1 ∧ r9.1 ≤ tp.length := by
  have h8 := rd_or_lt ho.2.2.2 hq
  unfold rd_once at hh
  split at hh
  · cases hh
  split at hh
  · obtain ⟨a9, ha, hh⟩ := rd_b_inv hh
    injection hh with hh
    subst hh
    obtain ⟨a1, a2, a3, a4, a5, a6, a7, a8⟩ := rd_row_ok _ _ _ _ _ ha (by omega) (by omega) kl
    exact ⟨rd_rowset_ok (w9 := 7) ho (Or.inl ⟨rfl, rfl, a2⟩) a7 a8 h8, by show k9 < a9.1; omega, a5⟩
  split at hh
  · obtain ⟨a9, ha, hh⟩ := rd_b_inv hh
    injection hh with hh
    subst hh
    obtain ⟨a1, a2, a3, a4, a5, a6, a7, a8⟩ := rd_row_ok _ _ _ _ _ ha (by omega) (by omega) kl
    exact ⟨rd_rowset_ok (w9 := 5) ho (Or.inr ⟨rfl, rfl, a1, a2⟩) a7 a8 h8, by show k9 < a9.1; omega, a5⟩
  split at hh
  · obtain ⟨a9, ha, hh⟩ := rd_b_inv hh
    injection hh with hh
    subst hh
    have := rd_num_ok ha
    exact ⟨rd_set_ok ho (Or.inl ⟨rfl, this.2.1⟩) h8, by show k9 < k9 + 2; omega, by show k9 + 2 ≤ tp.length; omega⟩
  split at hh
  · obtain ⟨a9, ha, hh⟩ := rd_b_inv hh
    injection hh with hh
    subst hh
    have := rd_num_ok ha
    exact ⟨rd_set_ok ho (Or.inr ⟨rfl, this.2.1⟩) h8, by show k9 < k9 + 2; omega, by show k9 + 2 ≤ tp.length; omega⟩
  · obtain ⟨⟨k1, c1⟩, ha, hh⟩ := rd_b_inv hh
    injection hh with hh
    subst hh
    have g1 := gr_law_ok kl ha
    have g2 := gr_law_eq kl
    rw [ha] at g2
    obtain ⟨b1, b2, b3⟩ := gr_len _ _ _ _ _ _ _ g2 kl
    obtain ⟨⟨o1, o2, o3, o4, o5, o6, o7, o8', o9, o10⟩, pp, qq, o64⟩ := ho
    refine ⟨⟨⟨o1, o2, o3, o4, o5, o6, o7, o8', ?_, ?_⟩, pp, qq, h8⟩, by show k9 < k1; omega, b2⟩
    · show sp_ok (if 0 = q9 - 4 then c1 else X9.2.1 0)
      split
      · exact g1
      · exact o9
    · show sp_ok (if 1 = q9 - 4 then c1 else X9.2.1 1)
      split
      · exact g1
      · exact o10
theorem rd_stmt_ok {tp : List Nat} {k9 : Nat} {X9 : rd_X} {r9 : Nat × rd_X} (ho : rd_ok X9) (hh : rd_semi tp (rd_stmt tp k9 X9) = .ok r9) : rd_ok r9.2 ∧ k9 < r9.1 ∧ r9.1 ≤ tp.length := by
  unfold rd_semi at hh
  obtain ⟨y9, hy, hh⟩ := rd_b_inv hh
  split at hh
  · rename_i c9
    injection hh with hh
    subst hh
    have kl2 : y9.1 + 1 ≤ tp.length := tk_in (by rw [c9]; simp)
    have : rd_ok y9.2 ∧ k9 < y9.1 ∧ y9.1 ≤ tp.length := by
      unfold rd_stmt at hy
      cases hw : tk_wd (tk_tok tp k9) with
      | none => rw [hw] at hy; cases hy
      | some j9 =>
        have kl : k9 + 1 ≤ tp.length := tk_in (by rw [tk_wd_2 hw]; decide)
        rw [hw] at hy
        simp only at hy
        split at hy
        · exact rd_cloth_ok ho hy
        · split at hy
          · exact rd_clash_ok ho hy
          · split at hy
            · exact rd_once_ok (by split <;> omega) kl ho hy
            · cases hy
    exact ⟨this.1, by show k9 < y9.1 + 1; omega, kl2⟩
  · cases hh
theorem rd_lines_ok {tp : List Nat} : ∀ f9 k9 X9 Y9, rd_ok X9 → rd_lines tp f9 k9 X9 = .ok Y9 → rd_ok Y9 := by
  intro f9
  induction f9 with
  | zero => intro k9 X9 Y9 ho hh; injection hh with hh; subst hh; exact ho
  | succ f9 ih9 =>
    intro k9 X9 Y9 ho hh
    simp only [rd_lines] at hh
    split at hh
    · injection hh with hh; subst hh; exact ho
    · obtain ⟨r9, hr, hh⟩ := rd_b_inv hh
      exact ih9 _ _ _ (rd_stmt_ok ho hr).1 hh
theorem rd_line_ok {tp : List Nat} {X9 : rd_X} (hh : rd_line tp = .ok X9) : rd_ok X9 := rd_lines_ok _ _ _ _ rd_X0_ok hh
