/-! THE WHOLE THAT BOTH HOLD, and how the reference holds it -/
def sp_words : List (List Nat) := [[3, 12, 15, 20, 8], [23, 9, 4, 5], [23, 5, 9, 7, 8, 20], [23, 15, 18, 20, 8], [16, 5, 7, 19], [23, 9, 14, 4, 19], [25, 1, 18, 4, 19], [7, 21, 19, 20, 19], [3, 12, 1, 19, 8], [16, 21, 12, 12, 19], [4, 18, 9, 5, 19], [8, 1, 14, 7], [20, 1, 11, 5], [23, 1, 19, 8], [2, 21, 25], [8, 15, 21, 18], [16, 12, 1, 9, 14], [19, 8, 5, 5, 20], [6, 12, 1, 7], [23, 15, 15, 12], [14, 15, 20], [1, 14, 4], [15, 18], [23, 9, 14, 4], [13, 1, 19, 19], [19, 9, 26, 5]]
def sp_w (b : Nat) (w : List Nat) : Nat := w.foldl (fun a x => b * a + x) 0
/-- line, its laws, its names; the state now; what can be undone, the oldest first; the marks; what is felt; the day's plan; the tape -/
def sp_G : Type := sp_N × sp_E × (Nat → List Nat) × sp_N × List sp_N × (Nat → Option (sp_N × List (Nat × Nat × Nat))) × List (Nat × Nat × Nat) × List (Nat × Nat × Nat) × List Nat
def sp_G.L (G : sp_G) : sp_N := G.1
def sp_G.E (G : sp_G) : sp_E := G.2.1
def sp_G.nm (G : sp_G) : Nat → List Nat := G.2.2.1
def sp_G.s (G : sp_G) : sp_N := G.2.2.2.1
def sp_G.us (G : sp_G) : List sp_N := G.2.2.2.2.1
def sp_G.mk (G : sp_G) : Nat → Option (sp_N × List (Nat × Nat × Nat)) := G.2.2.2.2.2.1
def sp_G.fl (G : sp_G) : List (Nat × Nat × Nat) := G.2.2.2.2.2.2.1
def sp_G.pl (G : sp_G) : List (Nat × Nat × Nat) := G.2.2.2.2.2.2.2.1
def sp_G.tp (G : sp_G) : List Nat := G.2.2.2.2.2.2.2.2
def sp_G.now (G : sp_G) (xs : sp_N) : sp_G := (G.L, G.E, G.nm, xs, G.us, G.mk, G.fl, G.pl, G.tp)
theorem sp_G.now_L {G : sp_G} (xs : sp_N) : (G.now xs).L = G.L := rfl
theorem sp_G.now_E {G : sp_G} (xs : sp_N) : (G.now xs).E = G.E := rfl
theorem sp_G.now_nm {G : sp_G} (xs : sp_N) : (G.now xs).nm = G.nm := rfl
theorem sp_G.now_s {G : sp_G} (xs : sp_N) : (G.now xs).s = xs := rfl
theorem sp_G.now_us {G : sp_G} (xs : sp_N) : (G.now xs).us = G.us := rfl
theorem sp_G.now_mk {G : sp_G} (xs : sp_N) : (G.now xs).mk = G.mk := rfl
theorem sp_G.now_fl {G : sp_G} (xs : sp_N) : (G.now xs).fl = G.fl := rfl
theorem sp_G.now_pl {G : sp_G} (xs : sp_N) : (G.now xs).pl = G.pl := rfl
theorem sp_G.now_tp {G : sp_G} (xs : sp_N) : (G.now xs).tp = G.tp := rfl
def sp_G.did (G : sp_G) (xs : sp_N) (xus : List sp_N) : sp_G := (G.L, G.E, G.nm, xs, xus, G.mk, G.fl, G.pl, G.tp)
theorem sp_G.did_L {G : sp_G} (xs : sp_N) (xus : List sp_N) : (G.did xs xus).L = G.L := rfl
theorem sp_G.did_E {G : sp_G} (xs : sp_N) (xus : List sp_N) : (G.did xs xus).E = G.E := rfl
theorem sp_G.did_nm {G : sp_G} (xs : sp_N) (xus : List sp_N) : (G.did xs xus).nm = G.nm := rfl
theorem sp_G.did_s {G : sp_G} (xs : sp_N) (xus : List sp_N) : (G.did xs xus).s = xs := rfl
theorem sp_G.did_us {G : sp_G} (xs : sp_N) (xus : List sp_N) : (G.did xs xus).us = xus := rfl
theorem sp_G.did_mk {G : sp_G} (xs : sp_N) (xus : List sp_N) : (G.did xs xus).mk = G.mk := rfl
theorem sp_G.did_fl {G : sp_G} (xs : sp_N) (xus : List sp_N) : (G.did xs xus).fl = G.fl := rfl
theorem sp_G.did_pl {G : sp_G} (xs : sp_N) (xus : List sp_N) : (G.did xs xus).pl = G.pl := rfl
theorem sp_G.did_tp {G : sp_G} (xs : sp_N) (xus : List sp_N) : (G.did xs xus).tp = G.tp := rfl
def sp_G.felt (G : sp_G) (xfl : List (Nat × Nat × Nat)) : sp_G := (G.L, G.E, G.nm, G.s, G.us, G.mk, xfl, G.pl, G.tp)
theorem sp_G.felt_L {G : sp_G} (xfl : List (Nat × Nat × Nat)) : (G.felt xfl).L = G.L := rfl
theorem sp_G.felt_E {G : sp_G} (xfl : List (Nat × Nat × Nat)) : (G.felt xfl).E = G.E := rfl
theorem sp_G.felt_nm {G : sp_G} (xfl : List (Nat × Nat × Nat)) : (G.felt xfl).nm = G.nm := rfl
theorem sp_G.felt_s {G : sp_G} (xfl : List (Nat × Nat × Nat)) : (G.felt xfl).s = G.s := rfl
theorem sp_G.felt_us {G : sp_G} (xfl : List (Nat × Nat × Nat)) : (G.felt xfl).us = G.us := rfl
theorem sp_G.felt_mk {G : sp_G} (xfl : List (Nat × Nat × Nat)) : (G.felt xfl).mk = G.mk := rfl
theorem sp_G.felt_fl {G : sp_G} (xfl : List (Nat × Nat × Nat)) : (G.felt xfl).fl = xfl := rfl
theorem sp_G.felt_pl {G : sp_G} (xfl : List (Nat × Nat × Nat)) : (G.felt xfl).pl = G.pl := rfl
theorem sp_G.felt_tp {G : sp_G} (xfl : List (Nat × Nat × Nat)) : (G.felt xfl).tp = G.tp := rfl
def sp_G.marked (G : sp_G) (xmk : Nat → Option (sp_N × List (Nat × Nat × Nat))) : sp_G := (G.L, G.E, G.nm, G.s, G.us, xmk, G.fl, G.pl, G.tp)
theorem sp_G.marked_L {G : sp_G} (xmk : Nat → Option (sp_N × List (Nat × Nat × Nat))) : (G.marked xmk).L = G.L := rfl
theorem sp_G.marked_E {G : sp_G} (xmk : Nat → Option (sp_N × List (Nat × Nat × Nat))) : (G.marked xmk).E = G.E := rfl
theorem sp_G.marked_nm {G : sp_G} (xmk : Nat → Option (sp_N × List (Nat × Nat × Nat))) : (G.marked xmk).nm = G.nm := rfl
theorem sp_G.marked_s {G : sp_G} (xmk : Nat → Option (sp_N × List (Nat × Nat × Nat))) : (G.marked xmk).s = G.s := rfl
theorem sp_G.marked_us {G : sp_G} (xmk : Nat → Option (sp_N × List (Nat × Nat × Nat))) : (G.marked xmk).us = G.us := rfl
theorem sp_G.marked_mk {G : sp_G} (xmk : Nat → Option (sp_N × List (Nat × Nat × Nat))) : (G.marked xmk).mk = xmk := rfl
theorem sp_G.marked_fl {G : sp_G} (xmk : Nat → Option (sp_N × List (Nat × Nat × Nat))) : (G.marked xmk).fl = G.fl := rfl
theorem sp_G.marked_pl {G : sp_G} (xmk : Nat → Option (sp_N × List (Nat × Nat × Nat))) : (G.marked xmk).pl = G.pl := rfl
theorem sp_G.marked_tp {G : sp_G} (xmk : Nat → Option (sp_N × List (Nat × Nat × Nat))) : (G.marked xmk).tp = G.tp := rfl
def sp_G.back (G : sp_G) (xs : sp_N) (xus : List sp_N) (xfl : List (Nat × Nat × Nat)) : sp_G := (G.L, G.E, G.nm, xs, xus, G.mk, xfl, G.pl, G.tp)
theorem sp_G.back_L {G : sp_G} (xs : sp_N) (xus : List sp_N) (xfl : List (Nat × Nat × Nat)) : (G.back xs xus xfl).L = G.L := rfl
theorem sp_G.back_E {G : sp_G} (xs : sp_N) (xus : List sp_N) (xfl : List (Nat × Nat × Nat)) : (G.back xs xus xfl).E = G.E := rfl
theorem sp_G.back_nm {G : sp_G} (xs : sp_N) (xus : List sp_N) (xfl : List (Nat × Nat × Nat)) : (G.back xs xus xfl).nm = G.nm := rfl
theorem sp_G.back_s {G : sp_G} (xs : sp_N) (xus : List sp_N) (xfl : List (Nat × Nat × Nat)) : (G.back xs xus xfl).s = xs := rfl
theorem sp_G.back_us {G : sp_G} (xs : sp_N) (xus : List sp_N) (xfl : List (Nat × Nat × Nat)) : (G.back xs xus xfl).us = xus := rfl
theorem sp_G.back_mk {G : sp_G} (xs : sp_N) (xus : List sp_N) (xfl : List (Nat × Nat × Nat)) : (G.back xs xus xfl).mk = G.mk := rfl
theorem sp_G.back_fl {G : sp_G} (xs : sp_N) (xus : List sp_N) (xfl : List (Nat × Nat × Nat)) : (G.back xs xus xfl).fl = xfl := rfl
theorem sp_G.back_pl {G : sp_G} (xs : sp_N) (xus : List sp_N) (xfl : List (Nat × Nat × Nat)) : (G.back xs xus xfl).pl = G.pl := rfl
theorem sp_G.back_tp {G : sp_G} (xs : sp_N) (xus : List sp_N) (xfl : List (Nat × Nat × Nat)) : (G.back xs xus xfl).tp = G.tp := rfl
def sp_G.plan (G : sp_G) (xpl : List (Nat × Nat × Nat)) (xtp : List Nat) : sp_G := (G.L, G.E, G.nm, G.s, G.us, G.mk, G.fl, xpl, xtp)
theorem sp_G.plan_L {G : sp_G} (xpl : List (Nat × Nat × Nat)) (xtp : List Nat) : (G.plan xpl xtp).L = G.L := rfl
theorem sp_G.plan_E {G : sp_G} (xpl : List (Nat × Nat × Nat)) (xtp : List Nat) : (G.plan xpl xtp).E = G.E := rfl
theorem sp_G.plan_nm {G : sp_G} (xpl : List (Nat × Nat × Nat)) (xtp : List Nat) : (G.plan xpl xtp).nm = G.nm := rfl
theorem sp_G.plan_s {G : sp_G} (xpl : List (Nat × Nat × Nat)) (xtp : List Nat) : (G.plan xpl xtp).s = G.s := rfl
theorem sp_G.plan_us {G : sp_G} (xpl : List (Nat × Nat × Nat)) (xtp : List Nat) : (G.plan xpl xtp).us = G.us := rfl
theorem sp_G.plan_mk {G : sp_G} (xpl : List (Nat × Nat × Nat)) (xtp : List Nat) : (G.plan xpl xtp).mk = G.mk := rfl
theorem sp_G.plan_fl {G : sp_G} (xpl : List (Nat × Nat × Nat)) (xtp : List Nat) : (G.plan xpl xtp).fl = G.fl := rfl
theorem sp_G.plan_pl {G : sp_G} (xpl : List (Nat × Nat × Nat)) (xtp : List Nat) : (G.plan xpl xtp).pl = xpl := rfl
theorem sp_G.plan_tp {G : sp_G} (xpl : List (Nat × Nat × Nat)) (xtp : List Nat) : (G.plan xpl xtp).tp = xtp := rfl
def sp_G.tape (G : sp_G) (xtp : List Nat) : sp_G := (G.L, G.E, G.nm, G.s, G.us, G.mk, G.fl, G.pl, xtp)
theorem sp_G.tape_L {G : sp_G} (xtp : List Nat) : (G.tape xtp).L = G.L := rfl
theorem sp_G.tape_E {G : sp_G} (xtp : List Nat) : (G.tape xtp).E = G.E := rfl
theorem sp_G.tape_nm {G : sp_G} (xtp : List Nat) : (G.tape xtp).nm = G.nm := rfl
theorem sp_G.tape_s {G : sp_G} (xtp : List Nat) : (G.tape xtp).s = G.s := rfl
theorem sp_G.tape_us {G : sp_G} (xtp : List Nat) : (G.tape xtp).us = G.us := rfl
theorem sp_G.tape_mk {G : sp_G} (xtp : List Nat) : (G.tape xtp).mk = G.mk := rfl
theorem sp_G.tape_fl {G : sp_G} (xtp : List Nat) : (G.tape xtp).fl = G.fl := rfl
theorem sp_G.tape_pl {G : sp_G} (xtp : List Nat) : (G.tape xtp).pl = G.pl := rfl
theorem sp_G.tape_tp {G : sp_G} (xtp : List Nat) : (G.tape xtp).tp = xtp := rfl
/-- a state, no peg of which holds without a grip -/
def sp_okT (L s : sp_N) (h : Nat) : Prop := sp_okS L s h ∧ ∀ c p, (s 2 c).testBit p = true → 0 < s 3 p
def sp_okF (L : sp_N) (f : List (Nat × Nat × Nat)) : Prop := f.length ≤ 8 ∧ ∀ (j : Nat) (e : Nat × Nat × Nat), f[j]? = some e → e.1 < L 4 0 ∧ e.2.1 ≤ 12 ∧ e.2.2 ≤ 9
def sp_okP (L : sp_N) (e : Nat × Nat × Nat) : Prop := e.1 < 5 ∧ (e.1 = 0 → 0 < e.2.2 ∧ e.2.2 < 256) ∧ (e.1 < 3 → e.2.1 < L 4 0) ∧ (e.1 = 3 → 1 ≤ e.2.1 ∧ e.2.1 ≤ 9)
def sp_okG (G : sp_G) (h : Nat) : Prop := (sp_okL G.L G.E) ∧ (sp_okT G.L G.s h) ∧ (∀ t, t ∈ G.us → sp_okT G.L t h) ∧ (∀ m t f, G.mk m = some (t, f) → sp_okT G.L t h ∧ sp_okF G.L f) ∧ (sp_okF G.L G.fl) ∧ (G.pl.length ≤ 30 ∧ ∀ (j : Nat) (e : Nat × Nat × Nat), G.pl[j]? = some e → sp_okP G.L e) ∧ (G.tp.length ≤ 1000 ∧ ∀ c, c ∈ G.tp → c = 10 ∨ (32 ≤ c ∧ c ≤ 126)) ∧ ((∀ c, c < G.L 4 0 → 0 < (G.nm c).length ∧ (G.nm c).length ≤ 8 ∧ ∀ x, x ∈ G.nm c → 1 ≤ x ∧ x ≤ 26) ∧ ∀ c e, c < G.L 4 0 → e < G.L 4 0 → G.nm c = G.nm e → c = e) ∧ ((∀ a b, a < 6 → b < 6 → G.L 6 (6 * a + b) = G.L 6 (6 * b + a)) ∧ (∀ a, a < 6 → G.L 6 (6 * a + a) ≠ 1) ∧ G.L 4 5 ≤ 15 ∧ ∀ k, G.L 6 k ≤ 1)
theorem sp_okG.l {G : sp_G} {h : Nat} (h1 : sp_okG G h) : sp_okL G.L G.E := h1.1
theorem sp_okG.s {G : sp_G} {h : Nat} (h1 : sp_okG G h) : sp_okT G.L G.s h := h1.2.1
theorem sp_okG.u {G : sp_G} {h : Nat} (h1 : sp_okG G h) : ∀ t, t ∈ G.us → sp_okT G.L t h := h1.2.2.1
theorem sp_okG.m {G : sp_G} {h : Nat} (h1 : sp_okG G h) : ∀ m t f, G.mk m = some (t, f) → sp_okT G.L t h ∧ sp_okF G.L f := h1.2.2.2.1
theorem sp_okG.f {G : sp_G} {h : Nat} (h1 : sp_okG G h) : sp_okF G.L G.fl := h1.2.2.2.2.1
theorem sp_okG.p {G : sp_G} {h : Nat} (h1 : sp_okG G h) : G.pl.length ≤ 30 ∧ ∀ (j : Nat) (e : Nat × Nat × Nat), G.pl[j]? = some e → sp_okP G.L e := h1.2.2.2.2.2.1
theorem sp_okG.t {G : sp_G} {h : Nat} (h1 : sp_okG G h) : G.tp.length ≤ 1000 ∧ ∀ c, c ∈ G.tp → c = 10 ∨ (32 ≤ c ∧ c ≤ 126) := h1.2.2.2.2.2.2.1
theorem sp_okG.n {G : sp_G} {h : Nat} (h1 : sp_okG G h) : (∀ c, c < G.L 4 0 → 0 < (G.nm c).length ∧ (G.nm c).length ≤ 8 ∧ ∀ x, x ∈ G.nm c → 1 ≤ x ∧ x ≤ 26) ∧ ∀ c e, c < G.L 4 0 → e < G.L 4 0 → G.nm c = G.nm e → c = e := h1.2.2.2.2.2.2.2.1
theorem sp_okG.c {G : sp_G} {h : Nat} (h1 : sp_okG G h) : (∀ a b, a < 6 → b < 6 → G.L 6 (6 * a + b) = G.L 6 (6 * b + a)) ∧ (∀ a, a < 6 → G.L 6 (6 * a + a) ≠ 1) ∧ G.L 4 5 ≤ 15 ∧ ∀ k, G.L 6 k ≤ 1 := h1.2.2.2.2.2.2.2.2
def rm_F (M : pg_M) (b : Nat) (f : List (Nat × Nat × Nat)) : Prop := M.1 221 (b + 28) = nI f.length ∧ f.length ≤ 8 ∧ ∀ (j : Nat) (e : Nat × Nat × Nat), f[j]? = some e → M.1 221 (b + 29 + 3 * j) = nI e.1 ∧ M.1 221 (b + 30 + 3 * j) = nI e.2.1 ∧ M.1 221 (b + 31 + 3 * j) = nI e.2.2
def rm_P (M : pg_M) (pl : List (Nat × Nat × Nat)) : Prop := M.1 218 0 = nI pl.length ∧ ∀ (j : Nat) (e : Nat × Nat × Nat), pl[j]? = some e → M.1 218 (1 + 3 * j) = nI e.1 ∧ M.1 218 (2 + 3 * j) = nI e.2.1 ∧ M.1 218 (3 + 3 * j) = nI e.2.2
def rm_G (M : pg_M) (G : sp_G) : Prop := (rm_L M G.L G.E) ∧ (M.1 207 16 = nI (G.L 4 0) ∧ ∀ c, c < G.L 4 0 → M.2.1 216 c = lN (sp_w 37 (G.nm c))) ∧ (rm_S M 0 G.s) ∧ (rm_F M 0 G.fl) ∧ (rm_us M G.us) ∧ (∀ m, m < 4 → M.1 222 m = b2i (G.mk m).isSome ∧ ∀ t f, G.mk m = some (t, f) → rm_S M (54 * (1 + m)) t ∧ rm_F M (54 * (1 + m)) f) ∧ (rm_P M G.pl) ∧ (M.1 207 2 = nI G.tp.length ∧ ∀ (j c : Nat), G.tp[j]? = some c → M.1 208 j = nI c) ∧ (∀ (k : Nat) (w : List Nat), sp_words[k]? = some w → M.2.1 212 k = lN (sp_w 37 w))
theorem rm_G.l {M : pg_M} {G : sp_G} (h1 : rm_G M G) : rm_L M G.L G.E := h1.1
theorem rm_G.n {M : pg_M} {G : sp_G} (h1 : rm_G M G) : M.1 207 16 = nI (G.L 4 0) ∧ ∀ c, c < G.L 4 0 → M.2.1 216 c = lN (sp_w 37 (G.nm c)) := h1.2.1
theorem rm_G.s {M : pg_M} {G : sp_G} (h1 : rm_G M G) : rm_S M 0 G.s := h1.2.2.1
theorem rm_G.f {M : pg_M} {G : sp_G} (h1 : rm_G M G) : rm_F M 0 G.fl := h1.2.2.2.1
theorem rm_G.u {M : pg_M} {G : sp_G} (h1 : rm_G M G) : rm_us M G.us := h1.2.2.2.2.1
theorem rm_G.m {M : pg_M} {G : sp_G} (h1 : rm_G M G) : ∀ m, m < 4 → M.1 222 m = b2i (G.mk m).isSome ∧ ∀ t f, G.mk m = some (t, f) → rm_S M (54 * (1 + m)) t ∧ rm_F M (54 * (1 + m)) f := h1.2.2.2.2.2.1
theorem rm_G.p {M : pg_M} {G : sp_G} (h1 : rm_G M G) : rm_P M G.pl := h1.2.2.2.2.2.2.1
theorem rm_G.t {M : pg_M} {G : sp_G} (h1 : rm_G M G) : M.1 207 2 = nI G.tp.length ∧ ∀ (j c : Nat), G.tp[j]? = some c → M.1 208 j = nI c := h1.2.2.2.2.2.2.2.1
theorem rm_G.w {M : pg_M} {G : sp_G} (h1 : rm_G M G) : ∀ (k : Nat) (w : List Nat), sp_words[k]? = some w → M.2.1 212 k = lN (sp_w 37 w) := h1.2.2.2.2.2.2.2.2
theorem rm_F.off {M M' : pg_M} {b : Nat} {f : List (Nat × Nat × Nat)} (h : rm_F M b f) (h1 : ∀ j, b + 28 ≤ j → j < b + 54 → M'.1 221 j = M.1 221 j) : rm_F M' b f := by
  obtain ⟨f1, f2, f3⟩ := h
  refine ⟨by rw [h1 _ (by omega) (by omega)]; exact f1, f2, fun j e hj => ?_⟩
  have : j < f.length := (List.getElem?_eq_some_iff.mp hj).1
  rw [h1 _ (by omega) (by omega), h1 _ (by omega) (by omega), h1 _ (by omega) (by omega)]
  exact f3 j e hj
/-- what the reference holds between calls is as it was -/
def rm_same (M M' : pg_M) : Prop := (∀ b, b ∈ [208, 213, 214, 215, 218, 222] → M'.1 b = M.1 b) ∧ (∀ b, b ∈ [212, 216] → M'.2.1 b = M.2.1 b) ∧ (∀ j, j ∈ [2, 16, 23] → M'.1 207 j = M.1 207 j) ∧ ∀ j, j < 1134 → M'.1 221 j = M.1 221 j
theorem rm_same.rfl' {M : pg_M} : rm_same M M := ⟨fun _ _ => rfl, fun _ _ => rfl, fun _ _ => rfl, fun _ _ => rfl⟩
theorem rm_same.trans {M M1 M2 : pg_M} (h : rm_same M M1) (h2 : rm_same M1 M2) : rm_same M M2 := ⟨fun b q => (h2.1 b q).trans (h.1 b q), fun b q => (h2.2.1 b q).trans (h.2.1 b q), fun b q => (h2.2.2.1 b q).trans (h.2.2.1 b q), fun b q => (h2.2.2.2 b q).trans (h.2.2.2 b q)⟩
theorem rm_same.f {M : pg_M} {k : Nat} {v : Int32} (h : k ∉ [2, 16, 23]) : rm_same M (pg_si M 207 k v) := by
  refine ⟨fun b q => pg_si_ne (fun e => by subst e; simp at q), fun _ _ => rfl, fun j q => ?_, fun _ _ => by rw [pg_si_ne (by decide)]⟩
  have hjk : j ≠ k := fun e => h (e ▸ q)
  rw [pg_si_at, pk_un hjk]
theorem rm_same.a {M : pg_M} {a k : Nat} {v : Int32} (h : a ∉ [207, 208, 213, 214, 215, 218, 221, 222]) : rm_same M (pg_si M a k v) := by
  have g : ∀ b, b ∈ [207, 208, 213, 214, 215, 218, 221, 222] → (pg_si M a k v).1 b = M.1 b := fun b q => pg_si_ne (fun e => by subst e; exact h q)
  refine ⟨fun b q => g b (by simp at q ⊢; omega), fun _ _ => rfl, fun j _ => ?_, fun j _ => ?_⟩
  · rw [g 207 (by simp)]
  · rw [g 221 (by simp)]
theorem rm_same.fr {X : List Nat} {M M' : pg_M} (h : pg_fr X M M') (hX : ∀ b, b ∈ [207, 208, 212, 213, 214, 215, 216, 218, 221, 222] → b ∉ X) : rm_same M M' := by
  refine ⟨fun b q => h.1 b (hX b (by simp at q ⊢; omega)), fun b q => h.2.1 b (hX b (by simp at q ⊢; omega)), fun j _ => ?_, fun j _ => ?_⟩
  · rw [h.1 207 (hX _ (by simp))]
  · rw [h.1 221 (hX _ (by simp))]
theorem rm_same.st {M M' : pg_M} (h : pg_fr [219, 220, 221] M M') (h2 : ∀ j, j < 1134 → M'.1 221 j = M.1 221 j) : rm_same M M' := by
  refine ⟨fun b q => h.1 b (by simp at q ⊢; omega), fun b q => h.2.1 b (by simp at q ⊢; omega), fun j _ => ?_, h2⟩
  rw [h.1 207 (by simp)]
theorem rm_same.tr {M M' : pg_M} (h : rm_fr 1134 M M') : rm_same M M' := rm_same.st h.1 (fun j hj => h.2 j (by omega))
theorem rm_G.same {M M' : pg_M} {G : sp_G} (hg : rm_G M G) (h : rm_same M M') : rm_G M' G := by
  obtain ⟨h1, h2, h3, h4⟩ := h
  obtain ⟨gl, gn, gs, gf, gu, gm, gp, gt, gw⟩ := hg
  refine ⟨?_, ⟨by rw [h3 16 (by simp)]; exact gn.1, fun c hc => by rw [h2 216 (by simp)]; exact gn.2 c hc⟩, gs.off (fun j a b => h4 j (by omega)), gf.off (fun j a b => h4 j (by omega)), gu.fr (h3 23 (by simp)) (fun j a b => h4 j (by omega)), fun m hm => ⟨by rw [h1 222 (by simp)]; exact (gm m hm).1, fun t f q => ⟨((gm m hm).2 t f q).1.off (fun j a b => h4 j (by omega)), ((gm m hm).2 t f q).2.off (fun j a b => h4 j (by omega))⟩⟩, ?_, ⟨by rw [h3 2 (by simp)]; exact gt.1, fun j c q => by rw [h1 208 (by simp)]; exact gt.2 j c q⟩, fun k w q => by rw [h2 212 (by simp)]; exact gw k w q⟩
  · unfold rm_L rm_E rm_U at *
    rw [h1 213 (by simp), h1 214 (by simp), h1 215 (by simp)]
    exact gl
  · unfold rm_P at *
    rw [h1 218 (by simp)]
    exact gp
/-- nothing outside the reference is changed -/
def rm_X : List Nat := [207, 208, 209, 210, 211, 212, 213, 214, 215, 216, 217, 218, 219, 220, 221, 222, 223, 224, 225, 226, 227, 228, 229, 230]
theorem rm_X.st {M M' : pg_M} {b : Nat} (h : rm_fr b M M') : pg_fr rm_X M M' := h.1.mono (fun x hx => by simp at hx; simp [rm_X]; omega)
theorem rm_X.of {X : List Nat} {M M' : pg_M} (h : pg_fr X M M') (hX : ∀ x, x ∈ X → 207 ≤ x ∧ x ≤ 230) : pg_fr rm_X M M' := h.mono (fun x hx => by have := hX x hx; simp [rm_X]; omega)
