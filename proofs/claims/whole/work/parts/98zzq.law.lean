section LQR
variable {S : pg_S} {Λ : pg_L} {Y : pg_Y} {d pc : Nat} {ls : List (Nat × Value)} {st : List Value} {M : pg_M} {b L : Nat} {xs : Nat → Int32} {k sl k' sl' : Nat}
theorem lq_more (h1 : k ≤ k') (h2 : sl ≤ sl') (kk : lq_At S Λ Y d pc ls st M (b, L, xs, k', sl')) : lq_At S Λ Y d pc ls st M (b, L, xs, k, sl) :=
  fun p e s m args below meth c H locs R lj C9 hR hM hL hl => lw_more h1 h2 (kk p e s m args below meth c H locs R lj C9 hR hM hL hl)
/-- the law's end with true -/
theorem lq_ret (hc : Y.2.1 = code) (hr : Y.2.2.2 = ret) (hk : k ≤ 601024 ∧ sl ≤ 7293033) (hdg : decode code pc = .ok (.ireturn, 1)) : lq_At S Λ Y d pc ls [.int 1] M (b, L, xs, k, sl) := by
  intro p e s m args below meth c H locs R lj C9 hR hM hL hl
  obtain ⟨rfl, rfl, r3, r4, r5, r6, r7, r8⟩ := hR
  refine lw_more hk.1 hk.2 (va_forget (fun q hq => ?_) (lw_ret C9.1 (C9.2.1.trans hc) (C9.2.2.2.2.2.2.1.trans hr) C9.2.2.2.2.2.2.2 hdg))
  have := hL q hq
  omega
end LQR
