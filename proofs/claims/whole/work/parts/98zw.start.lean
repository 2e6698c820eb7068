/-! where both begin -/
def sp_G0 : sp_G := (rd_X0.1, rd_X0.2.1, rd_X0.2.2.1, sp_start rd_X0.1, [], fun _ => none, [], [], [])
theorem sp_G0_s : ∀ k i, sp_start rd_X0.1 k i = 0 := by
  intro k i
  have h4 : rd_X0.1 4 4 = 0 := rfl
  unfold sp_start
  rw [h4]
  simp
theorem sp_G0_ok : sp_okG sp_G0 0 := by
  refine ⟨rd_X0_ok.1, ⟨sp_okS.start rd_X0_ok.1, fun c p h => ?_⟩, fun t h => (by cases h), fun m t f h => (by cases h), ⟨Nat.zero_le _, fun j e h => (by cases h)⟩, ⟨Nat.zero_le _, fun j e h => (by cases h)⟩, ⟨Nat.zero_le _, fun c h => (by cases h)⟩, ⟨fun c h => absurd h (by show ¬ c < 0; omega), fun c e h => absurd h (by show ¬ c < 0; omega)⟩, ⟨fun a b _ _ => rfl, fun a _ => by show (0 : Nat) ≠ 1; omega, by show (0 : Nat) ≤ 15; omega, fun k => by show (0 : Nat) ≤ 1; omega⟩⟩
  have h2 : sp_G0.s 2 c = 0 := sp_G0_s 2 c
  rw [h2] at h
  simp at h
theorem rc_first {M : pg_M} (h : pn_new10 M) : rc_G M sp_G0 := by
  obtain ⟨h1, h2, ⟨r1, r2, r3, r4⟩, hz⟩ := h
  have z : ∀ b j, b < 207 → ¬ (169 ≤ b ∧ b < 199) → M.1 b j = 0 := fun b j h1 h2 => by rw [(hz b h1 h2).1]
  refine ⟨⟨Or.inl ⟨r1, r2⟩, Or.inl ⟨r3, r4⟩⟩, by rw [r1]; exact h1, fun c hc => absurd hc (by show ¬ c < 0; omega), ⟨?_, ?_, fun c hc => ⟨?_, ?_, ?_⟩, fun p hp => ?_⟩, ⟨z 13 5 (by omega) (by omega), Nat.zero_le _, fun j e h => (by cases h)⟩, ⟨0, by omega, z 19 4 (by omega) (by omega), z 19 5 (by omega) (by omega), Nat.zero_le _, fun j s h => (by cases h)⟩, fun m hm => ⟨z 23 m (by omega) (by omega), fun t f h => (by cases h)⟩, ⟨by rw [r3]; exact z 199 3 (by omega) (by omega), fun j e h => (by cases h)⟩, ⟨z 1 1 (by omega) (by omega), fun j c h => (by cases h)⟩, ⟨z 156 0 (by omega) (by omega), z 157 0 (by omega) (by omega)⟩⟩
  · rw [z 3 4 (by omega) (by omega)]; show (0 : Int32) = nI (sp_start rd_X0.1 4 0); rw [sp_G0_s]; rfl
  · rw [z 3 5 (by omega) (by omega)]; show (0 : Int32) = nI (sp_start rd_X0.1 4 1); rw [sp_G0_s]; rfl
  · rw [z 4 c (by omega) (by omega)]; show (0 : Int32) = nI (sp_start rd_X0.1 0 c); rw [sp_G0_s]; rfl
  · rw [z 5 c (by omega) (by omega)]; show (0 : Int32) = nI (sp_start rd_X0.1 1 c); rw [sp_G0_s]; rfl
  · rw [z 6 c (by omega) (by omega)]; show (0 : Int32) = nI (sp_start rd_X0.1 2 c); rw [sp_G0_s]; rfl
  · have h9 : p < sp_start rd_X0.1 4 0 := hp
    rw [sp_G0_s] at h9
    omega
theorem pn_wl_ok : ∀ k, k < 26 → pn_wl.getD k 0 = lN (sp_w 37 (sp_words.getD k [])) := by decide +kernel
theorem rm_first {M M' : pg_M} (h : pn_new11 M M') : rm_G M' sp_G0 := by
  obtain ⟨h1, h2, h3, h4, h5, h6, h7, h8, h9⟩ := h
  have z : ∀ j, M'.1 207 j = 0 := fun j => by rw [h6]
  refine ⟨h1, ⟨z 16, fun c hc => absurd hc (by show ¬ c < 0; omega)⟩, h2, ⟨h3, Nat.zero_le _, fun j e h => (by cases h)⟩, ⟨z 23, Nat.zero_le _, fun j t h => (by cases h)⟩, fun m hm => ⟨h5 m hm, fun t f h => (by cases h)⟩, ⟨h4, fun j e h => (by cases h)⟩, ⟨z 2, fun j c h => (by cases h)⟩, fun k w hw => ?_⟩
  have hk : k < 26 := by
    have := (List.getElem?_eq_some_iff.mp hw).1
    exact this
  rw [h8 k hk, pn_wl_ok k hk]
  congr 2
  rw [List.getD_eq_getElem?_getD, hw]
  rfl
/-- the reference's making leaves the class as it was -/
theorem rc_G0_kept {M M' : pg_M} (h : pn_new10 M) (h11 : pn_new11 M M') : pn_new10 M' := by
  obtain ⟨h1, h2, hr, hz⟩ := h
  have hf := h11.2.2.2.2.2.2.2.2
  have e : ∀ b, b < 207 → M'.1 b = M.1 b := fun b hb => hf.1 b (by simp; omega)
  refine ⟨?_, ?_, by rw [hf.2.2]; exact hr, fun b hb hn => ⟨(e b hb).trans (hz b hb hn).1, (hf.2.1 b (by simp; omega)).trans (hz b hb hn).2⟩⟩
  · unfold rc_L rc_U at h1 ⊢
    rw [e 169 (by omega), e (169 + 2) (by omega), e (169 + 3) (by omega), e (169 + 4) (by omega), e (169 + 5) (by omega), e (169 + 6) (by omega), e (169 + 7) (by omega), e (169 + 8) (by omega), e (169 + 9) (by omega), e (169 + 12) (by omega), e (169 + 9 + 1) (by omega), e (169 + 12 + 1) (by omega)]
    exact h1
  · unfold rc_L rc_U at h2 ⊢
    rw [e 184 (by omega), e (184 + 2) (by omega), e (184 + 3) (by omega), e (184 + 4) (by omega), e (184 + 5) (by omega), e (184 + 6) (by omega), e (184 + 7) (by omega), e (184 + 8) (by omega), e (184 + 9) (by omega), e (184 + 12) (by omega), e (184 + 9 + 1) (by omega), e (184 + 12 + 1) (by omega)]
    exact h2
