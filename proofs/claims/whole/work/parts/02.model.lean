/-! the pure machine: a row of ten cells (variables 0 1, registers 2 3 4, positions 5 6 7, holders 8 9) -/
def rr_b (b : Bool) : Int32 := if b then 1 else 0
theorem rr_b1 : rr_b true = 1 := rfl
theorem rr_b0 : rr_b false = 0 := rfl
theorem rr_bne {b : Bool} : rr_b b = 0 ↔ b = false := by cases b <;> decide
theorem rr_bd {b : Bool} {A B : Prop} (f : b = false → A) (g : b = true → B) : (rr_b b = 0 → A) ∧ (¬ rr_b b = 0 → B) := by
  cases b
  · exact br_t rfl (f rfl)
  · exact br_f (by decide) (g rfl)
theorem rr_bf {b : Bool} {A B : Prop} (h : b = false) (f : A) : (rr_b b = 0 → A) ∧ (¬ rr_b b = 0 → B) := rr_bd (fun _ => f) (fun g => by rw [h] at g; cases g)
theorem rr_bt {b : Bool} {A B : Prop} (h : b = true) (f : B) : (rr_b b = 0 → A) ∧ (¬ rr_b b = 0 → B) := rr_bd (fun g => by rw [h] at g; cases g) (fun _ => f)
def rr_op (t : Nat) (r : Nat → Int32) : Nat := 4 * t + (r (5 + t)).toNatClampNeg
def rr_ox (os : Nat → Int32) (t : Nat) (r : Nat → Int32) : Nat := (os (rr_op t r)).toNatClampNeg
def rr_en (sz ks os : Nat → Int32) (t : Nat) (r : Nat → Int32) : Bool :=
  decide (r (5 + t) < sz t) && (if ks (rr_op t r) = 3 then decide (r (8 + rr_ox os t r) = -1000000004) else (if ks (rr_op t r) = 4 then decide (r (8 + rr_ox os t r) = nI t) else true))
def rr_st (ks os : Nat → Int32) (t : Nat) (r : Nat → Int32) : Nat → Int32 :=
  if ks (rr_op t r) = 0 then upd (upd r (5 + t) (r (5 + t) + 1)) (2 + t) (r (rr_ox os t r))
  else if ks (rr_op t r) = 1 then upd (upd r (5 + t) (r (5 + t) + 1)) (rr_ox os t r) (r (2 + t))
  else if ks (rr_op t r) = 2 then upd (upd r (5 + t) (r (5 + t) + 1)) (2 + t) (r (2 + t) + os (rr_op t r))
  else if ks (rr_op t r) = 3 then upd (upd r (5 + t) (r (5 + t) + 1)) (8 + rr_ox os t r) (nI t)
  else upd (upd r (5 + t) (r (5 + t) + 1)) (8 + rr_ox os t r) (-1000000004)
def rr_Pg (sz ks os : Nat → Int32) (S : Nat → Nat) : Prop :=
  (∀ t, t < 3 → sz t = nI (S t) ∧ S t ≤ 4) ∧ S 0 + S 1 + S 2 ≤ 8 ∧
  ∀ j, j < 12 → ∃ k, k ≤ 4 ∧ ks j = nI k ∧ (k ≠ 2 → ∃ x, x < 2 ∧ os j = nI x)
def rr_Rk (S : Nat → Nat) (r : Nat → Int32) (p : Nat → Nat) : Prop :=
  (∀ t, t < 3 → r (5 + t) = nI (p t) ∧ p t ≤ S t) ∧ ∀ m, m < 2 → r (8 + m) = -1000000004 ∨ ∃ t, t < 3 ∧ r (8 + m) = nI t
def rr_inc (t : Nat) (p : Nat → Nat) : Nat → Nat := fun s => if s = t then p s + 1 else p s
section
variable {sz ks os : Nat → Int32} {S p : Nat → Nat} {r : Nat → Int32} {t : Nat}
theorem rr_en_no (h : ¬ r (5 + t) < sz t) : rr_en sz ks os t r = false := by
  unfold rr_en; rw [decide_eq_false h]; rfl
theorem rr_en_l (h : r (5 + t) < sz t) (hk : ks (rr_op t r) = 3) : rr_en sz ks os t r = decide (r (8 + rr_ox os t r) = -1000000004) := by
  unfold rr_en; rw [decide_eq_true h, if_pos hk]; rfl
theorem rr_en_u (h : r (5 + t) < sz t) (hk : ks (rr_op t r) = 4) : rr_en sz ks os t r = decide (r (8 + rr_ox os t r) = nI t) := by
  unfold rr_en; rw [decide_eq_true h, if_neg (by rw [hk]; decide), if_pos hk]; rfl
theorem rr_en_o (h : r (5 + t) < sz t) (h3 : ¬ ks (rr_op t r) = 3) (h4 : ¬ ks (rr_op t r) = 4) : rr_en sz ks os t r = true := by
  unfold rr_en; rw [decide_eq_true h, if_neg h3, if_neg h4]; rfl
theorem rr_en_lt (h : rr_en sz ks os t r = true) : r (5 + t) < sz t := by
  rcases Classical.em (r (5 + t) < sz t) with z | z
  · exact z
  · rw [rr_en_no z] at h; cases h
theorem rr_en_3 (h : rr_en sz ks os t r = true) (hk : ks (rr_op t r) = 3) : r (8 + rr_ox os t r) = -1000000004 := by
  rw [rr_en_l (rr_en_lt h) hk] at h; exact of_decide_eq_true h
theorem rr_en_4 (h : rr_en sz ks os t r = true) (hk : ks (rr_op t r) = 4) : r (8 + rr_ox os t r) = nI t := by
  rw [rr_en_u (rr_en_lt h) hk] at h; exact of_decide_eq_true h
theorem rr_st0 (hk : ks (rr_op t r) = 0) : rr_st ks os t r = upd (upd r (5 + t) (r (5 + t) + 1)) (2 + t) (r (rr_ox os t r)) := by
  unfold rr_st; rw [if_pos hk]
theorem rr_st1 (hk : ks (rr_op t r) = 1) : rr_st ks os t r = upd (upd r (5 + t) (r (5 + t) + 1)) (rr_ox os t r) (r (2 + t)) := by
  unfold rr_st; rw [if_neg (by rw [hk]; decide), if_pos hk]
theorem rr_st2 (hk : ks (rr_op t r) = 2) : rr_st ks os t r = upd (upd r (5 + t) (r (5 + t) + 1)) (2 + t) (r (2 + t) + os (rr_op t r)) := by
  unfold rr_st; rw [if_neg (by rw [hk]; decide), if_neg (by rw [hk]; decide), if_pos hk]
theorem rr_st3 (hk : ks (rr_op t r) = 3) : rr_st ks os t r = upd (upd r (5 + t) (r (5 + t) + 1)) (8 + rr_ox os t r) (nI t) := by
  unfold rr_st; rw [if_neg (by rw [hk]; decide), if_neg (by rw [hk]; decide), if_neg (by rw [hk]; decide), if_pos hk]
theorem rr_st4 (hk : ks (rr_op t r) = 4) : rr_st ks os t r = upd (upd r (5 + t) (r (5 + t) + 1)) (8 + rr_ox os t r) (-1000000004) := by
  unfold rr_st; rw [if_neg (by rw [hk]; decide), if_neg (by rw [hk]; decide), if_neg (by rw [hk]; decide), if_neg (by rw [hk]; decide)]
theorem rr_kinds (hP : rr_Pg sz ks os S) {j : Nat} (hj : j < 12) : (ks j = 0 ∧ ∃ x, x < 2 ∧ os j = nI x) ∨ (ks j = 1 ∧ ∃ x, x < 2 ∧ os j = nI x) ∨ ks j = 2 ∨ (ks j = 3 ∧ ∃ x, x < 2 ∧ os j = nI x) ∨ (ks j = 4 ∧ ∃ x, x < 2 ∧ os j = nI x) := by
  obtain ⟨k, hk, e, hx⟩ := hP.2.2 j hj
  rcases (show k = 0 ∨ k = 1 ∨ k = 2 ∨ k = 3 ∨ k = 4 by omega) with rfl | rfl | rfl | rfl | rfl
  · exact Or.inl ⟨e, hx (by omega)⟩
  · exact Or.inr (Or.inl ⟨e, hx (by omega)⟩)
  · exact Or.inr (Or.inr (Or.inl e))
  · exact Or.inr (Or.inr (Or.inr (Or.inl ⟨e, hx (by omega)⟩)))
  · exact Or.inr (Or.inr (Or.inr (Or.inr ⟨e, hx (by omega)⟩)))
theorem rr_S4 (hP : rr_Pg sz ks os S) (ht : t < 3) : S t ≤ 4 := (hP.1 t ht).2
theorem rr_p4 (hP : rr_Pg sz ks os S) (hR : rr_Rk S r p) (ht : t < 3) : p t ≤ 4 := Nat.le_trans (hR.1 t ht).2 (hP.1 t ht).2
theorem rr_lt (hP : rr_Pg sz ks os S) (hR : rr_Rk S r p) (ht : t < 3) : r (5 + t) < sz t ↔ p t < S t := by
  have a := rr_S4 hP ht
  have b := rr_p4 hP hR ht
  rw [(hP.1 t ht).1, (hR.1 t ht).1, nI_ltI (by omega) (by omega)]
theorem rr_opN (hP : rr_Pg sz ks os S) (hR : rr_Rk S r p) (ht : t < 3) : rr_op t r = 4 * t + p t := by
  have b := rr_p4 hP hR ht
  unfold rr_op; rw [(hR.1 t ht).1, nI_clamp (by omega)]
theorem rr_op12 (hP : rr_Pg sz ks os S) (hR : rr_Rk S r p) (ht : t < 3) (hl : r (5 + t) < sz t) : rr_op t r < 12 := by
  have a := rr_S4 hP ht
  have b := (rr_lt hP hR ht).mp hl
  rw [rr_opN hP hR ht]; omega
theorem rr_oxN {x : Nat} (hx : x < 2) (h : os (rr_op t r) = nI x) : rr_ox os t r = x := by
  unfold rr_ox; rw [h, nI_clamp (by omega)]
theorem rr_views (hP : rr_Pg sz ks os S) (hR : rr_Rk S r p) (ht : t < 3) (hl : r (5 + t) < sz t) :
    (ks (rr_op t r) = 0 ∧ rr_ox os t r < 2 ∧ os (rr_op t r) = nI (rr_ox os t r)) ∨ (ks (rr_op t r) = 1 ∧ rr_ox os t r < 2 ∧ os (rr_op t r) = nI (rr_ox os t r)) ∨ ks (rr_op t r) = 2 ∨ (ks (rr_op t r) = 3 ∧ rr_ox os t r < 2 ∧ os (rr_op t r) = nI (rr_ox os t r)) ∨ (ks (rr_op t r) = 4 ∧ rr_ox os t r < 2 ∧ os (rr_op t r) = nI (rr_ox os t r)) := by
  rcases rr_kinds hP (rr_op12 hP hR ht hl) with ⟨h, x, hx, e⟩ | ⟨h, x, hx, e⟩ | h | ⟨h, x, hx, e⟩ | ⟨h, x, hx, e⟩
  · rw [rr_oxN hx e]; exact Or.inl ⟨h, hx, e⟩
  · rw [rr_oxN hx e]; exact Or.inr (Or.inl ⟨h, hx, e⟩)
  · exact Or.inr (Or.inr (Or.inl h))
  · rw [rr_oxN hx e]; exact Or.inr (Or.inr (Or.inr (Or.inl ⟨h, hx, e⟩)))
  · rw [rr_oxN hx e]; exact Or.inr (Or.inr (Or.inr (Or.inr ⟨h, hx, e⟩)))
theorem rr_st_pos (hP : rr_Pg sz ks os S) (hR : rr_Rk S r p) (ht : t < 3) (hl : r (5 + t) < sz t) {s : Nat} (hs : s < 3) : rr_st ks os t r (5 + s) = if s = t then r (5 + t) + 1 else r (5 + s) := by
  have key : upd r (5 + t) (r (5 + t) + 1) (5 + s) = if s = t then r (5 + t) + 1 else r (5 + s) := by
    rcases Nat.decEq s t with h | h
    · rw [if_neg h, pk_un (by omega)]
    · rw [h, if_pos rfl, pk_us]
  rcases rr_views hP hR ht hl with ⟨h, hx, e⟩ | ⟨h, hx, e⟩ | h | ⟨h, hx, e⟩ | ⟨h, hx, e⟩
  · rw [rr_st0 h, pk_un (by omega), key]
  · rw [rr_st1 h, pk_un (by omega), key]
  · rw [rr_st2 h, pk_un (by omega), key]
  · rw [rr_st3 h, pk_un (by omega), key]
  · rw [rr_st4 h, pk_un (by omega), key]
theorem rr_st_hold (hP : rr_Pg sz ks os S) (hR : rr_Rk S r p) (ht : t < 3) (hl : r (5 + t) < sz t) {m : Nat} (hm : m < 2) : rr_st ks os t r (8 + m) = if ks (rr_op t r) = 3 ∧ rr_ox os t r = m then nI t else if ks (rr_op t r) = 4 ∧ rr_ox os t r = m then -1000000004 else r (8 + m) := by
  have key : upd r (5 + t) (r (5 + t) + 1) (8 + m) = r (8 + m) := pk_un (by omega)
  rcases rr_views hP hR ht hl with ⟨h, hx, e⟩ | ⟨h, hx, e⟩ | h | ⟨h, hx, e⟩ | ⟨h, hx, e⟩
  · rw [rr_st0 h, pk_un (by omega), key, if_neg (by rw [h]; intro z; exact absurd z.1 (by decide)), if_neg (by rw [h]; intro z; exact absurd z.1 (by decide))]
  · rw [rr_st1 h, pk_un (by omega), key, if_neg (by rw [h]; intro z; exact absurd z.1 (by decide)), if_neg (by rw [h]; intro z; exact absurd z.1 (by decide))]
  · rw [rr_st2 h, pk_un (by omega), key, if_neg (by rw [h]; intro z; exact absurd z.1 (by decide)), if_neg (by rw [h]; intro z; exact absurd z.1 (by decide))]
  · rw [rr_st3 h]
    rcases Nat.decEq (rr_ox os t r) m with q | q
    · rw [pk_un (by omega), key, if_neg (fun z => q z.2), if_neg (fun z => q z.2)]
    · rw [if_pos ⟨h, q⟩, q, pk_us]
  · rw [rr_st4 h, if_neg (by rw [h]; intro z; exact absurd z.1 (by decide))]
    rcases Nat.decEq (rr_ox os t r) m with q | q
    · rw [pk_un (by omega), key, if_neg (fun z => q z.2)]
    · rw [if_pos ⟨h, q⟩, q, pk_us]
theorem rr_st_Rk (hP : rr_Pg sz ks os S) (hR : rr_Rk S r p) (ht : t < 3) (he : rr_en sz ks os t r = true) : rr_Rk S (rr_st ks os t r) (rr_inc t p) := by
  have hl := rr_en_lt he
  have hp := (rr_lt hP hR ht).mp hl
  refine ⟨fun s hs => ?_, fun m hm => ?_⟩
  · rw [rr_st_pos hP hR ht hl hs]
    unfold rr_inc
    rcases Nat.decEq s t with h | h
    · rw [if_neg h, if_neg h]; exact hR.1 s hs
    · rw [h, if_pos rfl, if_pos rfl, (hR.1 t ht).1, nI_1]; exact ⟨rfl, by omega⟩
  · rw [rr_st_hold hP hR ht hl hm]
    by_cases h3 : ks (rr_op t r) = 3 ∧ rr_ox os t r = m
    · rw [if_pos h3]; exact Or.inr ⟨t, ht, rfl⟩
    · rw [if_neg h3]
      by_cases h4 : ks (rr_op t r) = 4 ∧ rr_ox os t r = m
      · rw [if_pos h4]; exact Or.inl rfl
      · rw [if_neg h4]; exact hR.2 m hm
theorem rr_inc_sum (ht : t < 3) : rr_inc t p 0 + rr_inc t p 1 + rr_inc t p 2 = p 0 + p 1 + p 2 + 1 := by
  unfold rr_inc
  rcases (show t = 0 ∨ t = 1 ∨ t = 2 by omega) with rfl | rfl | rfl <;> simp <;> omega
end
/-- the row after e events -/
def rr_run (ks os : Nat → Int32) (B : Nat → Int32) (T : Nat → Nat) : Nat → (Nat → Int32)
  | 0 => B
  | e + 1 => rr_st ks os (T e) (rr_run ks os B T e)
/-- the positions after e events -/
def rr_ps (T : Nat → Nat) : Nat → (Nat → Nat)
  | 0 => fun _ => 0
  | e + 1 => rr_inc (T e) (rr_ps T e)
def rr_Bg (B : Nat → Int32) : Prop := (∀ t, t < 3 → B (2 + t) = 0 ∧ B (5 + t) = 0) ∧ ∀ m, m < 2 → B (8 + m) = -1000000004
def rr_Go (sz ks os : Nat → Int32) (S : Nat → Nat) (B : Nat → Int32) (T : Nat → Nat) (n : Nat) : Prop :=
  rr_Pg sz ks os S ∧ rr_Bg B ∧ ∀ i, i < n → T i < 3 ∧ rr_en sz ks os (T i) (rr_run ks os B T i) = true
section
variable {sz ks os B : Nat → Int32} {S T : Nat → Nat} {n : Nat}
theorem rr_Go_Rk (hG : rr_Go sz ks os S B T n) : ∀ e, e ≤ n → rr_Rk S (rr_run ks os B T e) (rr_ps T e) ∧ rr_ps T e 0 + rr_ps T e 1 + rr_ps T e 2 = e := by
  intro e
  induction e with
  | zero =>
    intro _
    refine ⟨⟨fun t ht => ⟨(hG.2.1.1 t ht).2, Nat.zero_le _⟩, fun m hm => Or.inl (hG.2.1.2 m hm)⟩, rfl⟩
  | succ e ih =>
    intro h
    obtain ⟨a, b⟩ := ih (by omega)
    obtain ⟨c, d⟩ := hG.2.2 e (by omega)
    refine ⟨rr_st_Rk hG.1 a c d, ?_⟩
    show rr_inc _ _ 0 + rr_inc _ _ 1 + rr_inc _ _ 2 = e + 1
    rw [rr_inc_sum c, b]
theorem rr_Go_8 (hG : rr_Go sz ks os S B T n) {e : Nat} (he : e ≤ n) : e ≤ 8 := by
  obtain ⟨a, b⟩ := rr_Go_Rk hG e he
  have h0 := (a.1 0 (by omega)).2
  have h1 := (a.1 1 (by omega)).2
  have h2 := (a.1 2 (by omega)).2
  have := hG.1.2.1
  omega
theorem rr_Go_lt (hG : rr_Go sz ks os S B T n) {t : Nat} (ht : t < 3) (h : rr_en sz ks os t (rr_run ks os B T n) = true) : n < 8 := by
  obtain ⟨a, b⟩ := rr_Go_Rk hG n (Nat.le_refl _)
  have h0 := (a.1 0 (by omega)).2
  have h1 := (a.1 1 (by omega)).2
  have h2 := (a.1 2 (by omega)).2
  have hl := (rr_lt hG.1 a ht).mp (rr_en_lt h)
  have := hG.1.2.1
  rcases (show t = 0 ∨ t = 1 ∨ t = 2 by omega) with rfl | rfl | rfl <;> omega
theorem rr_Go_mono (hG : rr_Go sz ks os S B T n) {e : Nat} (he : e ≤ n) : rr_Go sz ks os S B T e := ⟨hG.1, hG.2.1, fun i hi => hG.2.2 i (by omega)⟩
theorem rr_run_congr {T' : Nat → Nat} : ∀ e, (∀ i, i < e → T' i = T i) → rr_run ks os B T' e = rr_run ks os B T e := by
  intro e
  induction e with
  | zero => intro _; rfl
  | succ e ih =>
    intro h
    show rr_st ks os (T' e) _ = rr_st ks os (T e) _
    rw [ih (fun i hi => h i (by omega)), h e (by omega)]
end
