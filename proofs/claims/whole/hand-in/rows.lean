section
theorem pk_us {f : Nat → Int32} {k : Nat} {x : Int32} : upd f k x k = x := if_pos rfl
theorem pk_un {f : Nat → Int32} {k j : Nat} {x : Int32} (h : j ≠ k) : upd f k x j = f j := if_neg h
theorem pk_sub {a b : Nat} (h : b ≤ a) : nI a - nI b = nI (a - b) := by
  obtain ⟨c, rfl⟩ : ∃ c, a = c + b := ⟨a - b, by omega⟩
  rw [← nI_add, Int32.add_sub_cancel, Nat.add_sub_cancel]
theorem pk_m1 (n : Nat) : nI (n + 1) + (-1) = nI n := by
  rw [← nI_1, Int32.add_assoc, show (1 : Int32) + (-1) = 0 from rfl, Int32.add_zero]
theorem pk_mul (a b : Nat) : nI a * nI b = nI (a * b) := (Int32.ofNat_mul a b).symm
theorem pk_div {a d : Nat} (ha : a < 2 ^ 31) (h0 : 0 < d) (hd : d < 2 ^ 31) : nI a / nI d = nI (a / d) := by
  apply Int32.toInt_inj.mp
  rw [lg_idiv_nonneg (by rw [nI_toInt ha]; omega) (by rw [nI_toInt hd]; omega), nI_toInt ha, nI_toInt hd, nI_toInt (Nat.lt_of_le_of_lt (Nat.div_le_self a d) ha)]
  first | rfl | exact (Int.natCast_ediv _ _).symm
theorem pk_rem {a d : Nat} (ha : a < 2 ^ 31) (h0 : 0 < d) (hd : d < 2 ^ 31) : nI a - nI a / nI d * nI d = nI (a % d) := by
  rw [pk_div ha h0 hd, pk_mul, pk_sub (Nat.div_mul_le_self a d)]
  exact congrArg nI (by have := Nat.div_add_mod' a d; omega)
theorem pk_ix (x : Int32) {n : Nat} (hn : n < 2 ^ 31) : x < 0 ∨ nI n ≤ x ∨ ∃ j : Nat, j < n ∧ x = nI j := by
  by_cases h : x < 0
  · exact Or.inl h
  · obtain ⟨j, hj, rfl⟩ := nI_of h
    by_cases h2 : j < n
    · exact Or.inr (Or.inr ⟨j, h2, rfl⟩)
    · exact Or.inr (Or.inl (nI_le (by omega) hj))
theorem pk_le {x y : Int32} {A B : Prop} (a b : Nat) (f : a ≤ b → A) (g : b < a → B) (hx : x = nI a := by rfl) (hy : y = nI b := by rfl) (ha : a < 2 ^ 31 := by omega) (hb : b < 2 ^ 31 := by omega) : (x ≤ y → A) ∧ (¬ x ≤ y → B) := by
  subst hx hy
  rw [nI_leI ha hb]
  exact ⟨f, fun z => g (by omega)⟩
theorem pk_lt {x y : Int32} {A B : Prop} (a b : Nat) (f : a < b → A) (g : b ≤ a → B) (hx : x = nI a := by rfl) (hy : y = nI b := by rfl) (ha : a < 2 ^ 31 := by omega) (hb : b < 2 ^ 31 := by omega) : (x < y → A) ∧ (¬ x < y → B) := by
  subst hx hy
  rw [nI_ltI ha hb]
  exact ⟨f, fun z => g (by omega)⟩
theorem pk_eq {x y : Int32} {A B : Prop} (a b : Nat) (f : a = b → A) (g : a ≠ b → B) (hx : x = nI a := by rfl) (hy : y = nI b := by rfl) (ha : a < 2 ^ 31 := by omega) (hb : b < 2 ^ 31 := by omega) : (x = y → A) ∧ (¬ x = y → B) := by
  subst hx hy
  rw [nI_eq ha hb]
  exact ⟨f, g⟩
theorem pk_in {x : Int32} (n N : Nat) (h : n < N) (hx : x = nI n := by rfl) (hN : N < 2 ^ 31 := by omega) : vp_in x N := by
  subst hx
  exact vp_in_nI h hN
theorem pk_cl {x : Int32} (n : Nat) (hx : x = nI n := by rfl) (h : n < 2 ^ 31 := by omega) : x.toNatClampNeg = n := by
  subst hx
  exact nI_clamp h
theorem pk_tn {n : Nat} (h : n < 2 ^ 32) : (nI n).toBitVec.toNat = n := Nat.mod_eq_of_lt h
theorem pk_and (x : Int32) {m : Int32} (k : Nat) (hm : m.toBitVec.toNat = 2 ^ k - 1) : x &&& m = nI (x.toBitVec.toNat % 2 ^ k) := by
  apply Int32.toBitVec_inj.mp
  apply BitVec.eq_of_toNat_eq
  rw [Int32.toBitVec_and, BitVec.toNat_and, hm, Nat.and_two_pow_sub_one_eq_mod]
  show _ = (BitVec.ofNat 32 _).toNat
  rw [BitVec.toNat_ofNat]
  exact (Nat.mod_eq_of_lt (Nat.lt_of_le_of_lt (Nat.mod_le _ _) x.toBitVec.isLt)).symm
theorem pk_andN {n : Nat} (h : n < 2 ^ 32) {m : Int32} (k : Nat) (hm : m.toBitVec.toNat = 2 ^ k - 1) : nI n &&& m = nI (n % 2 ^ k) := by
  rw [pk_and _ k hm, pk_tn h]
theorem pk_shl (a s : Int32) (k : Nat) (hs : (s.toBitVec.smod 32).toNat = k) : (a <<< s).toBitVec.toNat = a.toBitVec.toNat * 2 ^ k % 2 ^ 32 := by
  show (a.toBitVec <<< (s.toBitVec.smod 32).toNat).toNat = _
  rw [hs, BitVec.toNat_shiftLeft, Nat.shiftLeft_eq]
theorem pk_shlN {n : Nat} (s : Int32) (k : Nat) (hs : (s.toBitVec.smod 32).toNat = k) (h : n * 2 ^ k < 2 ^ 32) : nI n <<< s = nI (n * 2 ^ k) := by
  apply Int32.toBitVec_inj.mp
  apply BitVec.eq_of_toNat_eq
  have hn : n < 2 ^ 32 := Nat.lt_of_le_of_lt (Nat.le_mul_of_pos_right n (Nat.two_pow_pos k)) h
  rw [pk_shl _ _ k hs, pk_tn hn, pk_tn h, Nat.mod_eq_of_lt h]
theorem pk_shr (a s : Int32) (k : Nat) (hs : (s.toBitVec.smod 32).toNat = k) : (a >>> s).toInt = a.toInt >>> k := by
  show (a.toBitVec.sshiftRight (s.toBitVec.smod 32).toNat).toInt = _
  rw [hs, BitVec.toInt_sshiftRight]
  rfl
theorem pk_shrN {n : Nat} (h : n < 2 ^ 31) (s : Int32) (k : Nat) (hs : (s.toBitVec.smod 32).toNat = k) : nI n >>> s = nI (n / 2 ^ k) := by
  apply Int32.toInt_inj.mp
  have h2 : n / 2 ^ k ≤ n := Nat.div_le_self _ _
  rw [pk_shr _ _ k hs, nI_toInt h, nI_toInt (by omega), Int.shiftRight_eq_div_pow]
  rfl
theorem pk_loop {σ : Type} (W : Nat → Nat → σ → Prop) (I : Nat → σ → Prop) (e i0 : Nat) (s : σ) (hi : i0 ≤ e) (h0 : I i0 s) (hx : ∀ n s, I e s → W (n + 1) e s)
    (hs : ∀ n i s, i < e → I i s → (∀ s', I (i + 1) s' → W n (i + 1) s') → W (n + 1) i s) : ∃ n, W n i0 s :=
  ⟨e + 1, loop_i W I e hx hs (e + 1) i0 s hi (by omega) h0⟩
def bt (x : Int32) (i : Nat) : Bool := x.toBitVec.getLsbD i
theorem b_ext {x y : Int32} (h : ∀ i, i < 32 → bt x i = bt y i) : x = y := Int32.toBitVec_inj.mp (BitVec.eq_of_getLsbD_eq (fun i hi => h i hi))
theorem b_or (x y : Int32) (i : Nat) : bt (x ||| y) i = (bt x i || bt y i) := by unfold bt; rw [Int32.toBitVec_or, BitVec.getLsbD_or]
theorem b_and (x y : Int32) (i : Nat) : bt (x &&& y) i = (bt x i && bt y i) := by unfold bt; rw [Int32.toBitVec_and, BitVec.getLsbD_and]
theorem b_xor (x y : Int32) (i : Nat) : bt (x ^^^ y) i = (bt x i ^^ bt y i) := by unfold bt; rw [Int32.toBitVec_xor, BitVec.getLsbD_xor]
theorem b_big {x : Int32} {i : Nat} (h : 32 ≤ i) : bt x i = false := BitVec.getLsbD_of_ge _ _ h
theorem b_m1 : ∀ i, i < 32 → bt (-1) i = true := by decide +kernel
theorem b_0 (i : Nat) : bt 0 i = false := BitVec.getLsbD_zero
theorem s_l : ∀ n, n < 32 → ((nI n &&& 31).toBitVec.smod 32).toNat = n := by decide +kernel
theorem b_shl (n : Nat) (hn : n < 32) (x : Int32) {i : Nat} (hi : i < 32) : bt (x <<< (nI n &&& 31)) i = (decide (n ≤ i) && bt x (i - n)) := by
  unfold bt
  rw [Int32.toBitVec_shiftLeft]
  show (x.toBitVec <<< ((nI n &&& 31).toBitVec.smod 32).toNat).getLsbD i = _
  rw [s_l n hn, BitVec.getLsbD_shiftLeft]
  rcases Nat.lt_or_ge i n with h | h
  · simp [h, Nat.not_le.mpr h]
  · simp [hi, h, Nat.not_lt.mpr h]
theorem b_sshr (n : Nat) (hn : n < 32) (x : Int32) {i : Nat} (hi : i < 32) : bt (x >>> (nI n &&& 31)) i = if n + i < 32 then bt x (n + i) else bt x 31 := by
  unfold bt
  rw [Int32.toBitVec_shiftRight]
  show (x.toBitVec.sshiftRight ((nI n &&& 31).toBitVec.smod 32).toNat).getLsbD i = _
  rw [s_l n hn, BitVec.getLsbD_sshiftRight, BitVec.msb_eq_getLsbD_last]
  simp [hi]
end
section
/-! the pure machine: a row of ten cells (variables 0 1, registers 2 3 4, positions 5 6 7, holders 8 9) -/
def rr_b (b : Bool) : Int32 := if b then 1 else 0
theorem rr_b1 : rr_b true = 1 := rfl
theorem rr_b0 : rr_b false = 0 := rfl
theorem rr_bne {b : Bool} : rr_b b = 0 ↔ b = false := by cases b <;> decide
theorem rr_bd {b : Bool} {A B : Prop} (f : b = false → A) (g : b = true → B) : (rr_b b = 0 → A) ∧ (¬ rr_b b = 0 → B) := by
  cases b
  · exact br_t rfl (f rfl)
  · exact br_f (by decide) (g rfl)
theorem rr_bf {b : Bool} {A B : Prop} (h : b = false) (f : A) : (rr_b b = 0 → A) ∧ (¬ rr_b b = 0 → B) := rr_bd (fun _ => f) (fun g => by rw [h] at g; cases g)
theorem rr_bt {b : Bool} {A B : Prop} (h : b = true) (f : B) : (rr_b b = 0 → A) ∧ (¬ rr_b b = 0 → B) := rr_bd (fun g => by rw [h] at g; cases g) (fun _ => f)
def rr_op (t : Nat) (r : Nat → Int32) : Nat := 4 * t + (r (5 + t)).toNatClampNeg
def rr_ox (os : Nat → Int32) (t : Nat) (r : Nat → Int32) : Nat := (os (rr_op t r)).toNatClampNeg
def rr_en (sz ks os : Nat → Int32) (t : Nat) (r : Nat → Int32) : Bool :=
  decide (r (5 + t) < sz t) && (if ks (rr_op t r) = 3 then decide (r (8 + rr_ox os t r) = -1000000004) else (if ks (rr_op t r) = 4 then decide (r (8 + rr_ox os t r) = nI t) else true))
def rr_st (ks os : Nat → Int32) (t : Nat) (r : Nat → Int32) : Nat → Int32 :=
  if ks (rr_op t r) = 0 then upd (upd r (5 + t) (r (5 + t) + 1)) (2 + t) (r (rr_ox os t r))
  else if ks (rr_op t r) = 1 then upd (upd r (5 + t) (r (5 + t) + 1)) (rr_ox os t r) (r (2 + t))
  else if ks (rr_op t r) = 2 then upd (upd r (5 + t) (r (5 + t) + 1)) (2 + t) (r (2 + t) + os (rr_op t r))
  else if ks (rr_op t r) = 3 then upd (upd r (5 + t) (r (5 + t) + 1)) (8 + rr_ox os t r) (nI t)
  else upd (upd r (5 + t) (r (5 + t) + 1)) (8 + rr_ox os t r) (-1000000004)
def rr_Pg (sz ks os : Nat → Int32) (S : Nat → Nat) : Prop :=
  (∀ t, t < 3 → sz t = nI (S t) ∧ S t ≤ 4) ∧ S 0 + S 1 + S 2 ≤ 8 ∧
  ∀ j, j < 12 → ∃ k, k ≤ 4 ∧ ks j = nI k ∧ (k ≠ 2 → ∃ x, x < 2 ∧ os j = nI x)
def rr_Rk (S : Nat → Nat) (r : Nat → Int32) (p : Nat → Nat) : Prop :=
  (∀ t, t < 3 → r (5 + t) = nI (p t) ∧ p t ≤ S t) ∧ ∀ m, m < 2 → r (8 + m) = -1000000004 ∨ ∃ t, t < 3 ∧ r (8 + m) = nI t
def rr_inc (t : Nat) (p : Nat → Nat) : Nat → Nat := fun s => if s = t then p s + 1 else p s
section
variable {sz ks os : Nat → Int32} {S p : Nat → Nat} {r : Nat → Int32} {t : Nat}
theorem rr_en_no (h : ¬ r (5 + t) < sz t) : rr_en sz ks os t r = false := by
  unfold rr_en; rw [decide_eq_false h]; rfl
theorem rr_en_l (h : r (5 + t) < sz t) (hk : ks (rr_op t r) = 3) : rr_en sz ks os t r = decide (r (8 + rr_ox os t r) = -1000000004) := by
  unfold rr_en; rw [decide_eq_true h, if_pos hk]; rfl
theorem rr_en_u (h : r (5 + t) < sz t) (hk : ks (rr_op t r) = 4) : rr_en sz ks os t r = decide (r (8 + rr_ox os t r) = nI t) := by
  unfold rr_en; rw [decide_eq_true h, if_neg (by rw [hk]; decide), if_pos hk]; rfl
theorem rr_en_o (h : r (5 + t) < sz t) (h3 : ¬ ks (rr_op t r) = 3) (h4 : ¬ ks (rr_op t r) = 4) : rr_en sz ks os t r = true := by
  unfold rr_en; rw [decide_eq_true h, if_neg h3, if_neg h4]; rfl
theorem rr_en_lt (h : rr_en sz ks os t r = true) : r (5 + t) < sz t := by
  rcases Classical.em (r (5 + t) < sz t) with z | z
  · exact z
  · rw [rr_en_no z] at h; cases h
theorem rr_en_3 (h : rr_en sz ks os t r = true) (hk : ks (rr_op t r) = 3) : r (8 + rr_ox os t r) = -1000000004 := by
  rw [rr_en_l (rr_en_lt h) hk] at h; exact of_decide_eq_true h
theorem rr_en_4 (h : rr_en sz ks os t r = true) (hk : ks (rr_op t r) = 4) : r (8 + rr_ox os t r) = nI t := by
  rw [rr_en_u (rr_en_lt h) hk] at h; exact of_decide_eq_true h
theorem rr_st0 (hk : ks (rr_op t r) = 0) : rr_st ks os t r = upd (upd r (5 + t) (r (5 + t) + 1)) (2 + t) (r (rr_ox os t r)) := by
  unfold rr_st; rw [if_pos hk]
theorem rr_st1 (hk : ks (rr_op t r) = 1) : rr_st ks os t r = upd (upd r (5 + t) (r (5 + t) + 1)) (rr_ox os t r) (r (2 + t)) := by
  unfold rr_st; rw [if_neg (by rw [hk]; decide), if_pos hk]
theorem rr_st2 (hk : ks (rr_op t r) = 2) : rr_st ks os t r = upd (upd r (5 + t) (r (5 + t) + 1)) (2 + t) (r (2 + t) + os (rr_op t r)) := by
  unfold rr_st; rw [if_neg (by rw [hk]; decide), if_neg (by rw [hk]; decide), if_pos hk]
theorem rr_st3 (hk : ks (rr_op t r) = 3) : rr_st ks os t r = upd (upd r (5 + t) (r (5 + t) + 1)) (8 + rr_ox os t r) (nI t) := by
  unfold rr_st; rw [if_neg (by rw [hk]; decide), if_neg (by rw [hk]; decide), if_neg (by rw [hk]; decide), if_pos hk]
theorem rr_st4 (hk : ks (rr_op t r) = 4) : rr_st ks os t r = upd (upd r (5 + t) (r (5 + t) + 1)) (8 + rr_ox os t r) (-1000000004) := by
  unfold rr_st; rw [if_neg (by rw [hk]; decide), if_neg (by rw [hk]; decide), if_neg (by rw [hk]; decide), if_neg (by rw [hk]; decide)]
theorem rr_kinds (hP : rr_Pg sz ks os S) {j : Nat} (hj : j < 12) : (ks j = 0 ∧ ∃ x, x < 2 ∧ os j = nI x) ∨ (ks j = 1 ∧ ∃ x, x < 2 ∧ os j = nI x) ∨ ks j = 2 ∨ (ks j = 3 ∧ ∃ x, x < 2 ∧ os j = nI x) ∨ (ks j = 4 ∧ ∃ x, x < 2 ∧ os j = nI x) := by
  obtain ⟨k, hk, e, hx⟩ := hP.2.2 j hj
  rcases (show k = 0 ∨ k = 1 ∨ k = 2 ∨ k = 3 ∨ k = 4 by omega) with rfl | rfl | rfl | rfl | rfl
  · exact Or.inl ⟨e, hx (by omega)⟩
  · exact Or.inr (Or.inl ⟨e, hx (by omega)⟩)
  · exact Or.inr (Or.inr (Or.inl e))
  · exact Or.inr (Or.inr (Or.inr (Or.inl ⟨e, hx (by omega)⟩)))
  · exact Or.inr (Or.inr (Or.inr (Or.inr ⟨e, hx (by omega)⟩)))
theorem rr_S4 (hP : rr_Pg sz ks os S) (ht : t < 3) : S t ≤ 4 := (hP.1 t ht).2
theorem rr_p4 (hP : rr_Pg sz ks os S) (hR : rr_Rk S r p) (ht : t < 3) : p t ≤ 4 := Nat.le_trans (hR.1 t ht).2 (hP.1 t ht).2
theorem rr_lt (hP : rr_Pg sz ks os S) (hR : rr_Rk S r p) (ht : t < 3) : r (5 + t) < sz t ↔ p t < S t := by
  have a := rr_S4 hP ht
  have b := rr_p4 hP hR ht
  rw [(hP.1 t ht).1, (hR.1 t ht).1, nI_ltI (by omega) (by omega)]
theorem rr_opN (hP : rr_Pg sz ks os S) (hR : rr_Rk S r p) (ht : t < 3) : rr_op t r = 4 * t + p t := by
  have b := rr_p4 hP hR ht
  unfold rr_op; rw [(hR.1 t ht).1, nI_clamp (by omega)]
theorem rr_op12 (hP : rr_Pg sz ks os S) (hR : rr_Rk S r p) (ht : t < 3) (hl : r (5 + t) < sz t) : rr_op t r < 12 := by
  have a := rr_S4 hP ht
  have b := (rr_lt hP hR ht).mp hl
  rw [rr_opN hP hR ht]; omega
theorem rr_oxN {x : Nat} (hx : x < 2) (h : os (rr_op t r) = nI x) : rr_ox os t r = x := by
  unfold rr_ox; rw [h, nI_clamp (by omega)]
theorem rr_views (hP : rr_Pg sz ks os S) (hR : rr_Rk S r p) (ht : t < 3) (hl : r (5 + t) < sz t) :
    (ks (rr_op t r) = 0 ∧ rr_ox os t r < 2 ∧ os (rr_op t r) = nI (rr_ox os t r)) ∨ (ks (rr_op t r) = 1 ∧ rr_ox os t r < 2 ∧ os (rr_op t r) = nI (rr_ox os t r)) ∨ ks (rr_op t r) = 2 ∨ (ks (rr_op t r) = 3 ∧ rr_ox os t r < 2 ∧ os (rr_op t r) = nI (rr_ox os t r)) ∨ (ks (rr_op t r) = 4 ∧ rr_ox os t r < 2 ∧ os (rr_op t r) = nI (rr_ox os t r)) := by
  rcases rr_kinds hP (rr_op12 hP hR ht hl) with ⟨h, x, hx, e⟩ | ⟨h, x, hx, e⟩ | h | ⟨h, x, hx, e⟩ | ⟨h, x, hx, e⟩
  · rw [rr_oxN hx e]; exact Or.inl ⟨h, hx, e⟩
  · rw [rr_oxN hx e]; exact Or.inr (Or.inl ⟨h, hx, e⟩)
  · exact Or.inr (Or.inr (Or.inl h))
  · rw [rr_oxN hx e]; exact Or.inr (Or.inr (Or.inr (Or.inl ⟨h, hx, e⟩)))
  · rw [rr_oxN hx e]; exact Or.inr (Or.inr (Or.inr (Or.inr ⟨h, hx, e⟩)))
theorem rr_st_pos (hP : rr_Pg sz ks os S) (hR : rr_Rk S r p) (ht : t < 3) (hl : r (5 + t) < sz t) {s : Nat} (hs : s < 3) : rr_st ks os t r (5 + s) = if s = t then r (5 + t) + 1 else r (5 + s) := by
  have key : upd r (5 + t) (r (5 + t) + 1) (5 + s) = if s = t then r (5 + t) + 1 else r (5 + s) := by
    rcases Nat.decEq s t with h | h
    · rw [if_neg h, pk_un (by omega)]
    · rw [h, if_pos rfl, pk_us]
  rcases rr_views hP hR ht hl with ⟨h, hx, e⟩ | ⟨h, hx, e⟩ | h | ⟨h, hx, e⟩ | ⟨h, hx, e⟩
  · rw [rr_st0 h, pk_un (by omega), key]
  · rw [rr_st1 h, pk_un (by omega), key]
  · rw [rr_st2 h, pk_un (by omega), key]
  · rw [rr_st3 h, pk_un (by omega), key]
  · rw [rr_st4 h, pk_un (by omega), key]
theorem rr_st_hold (hP : rr_Pg sz ks os S) (hR : rr_Rk S r p) (ht : t < 3) (hl : r (5 + t) < sz t) {m : Nat} (hm : m < 2) : rr_st ks os t r (8 + m) = if ks (rr_op t r) = 3 ∧ rr_ox os t r = m then nI t else if ks (rr_op t r) = 4 ∧ rr_ox os t r = m then -1000000004 else r (8 + m) := by
  have key : upd r (5 + t) (r (5 + t) + 1) (8 + m) = r (8 + m) := pk_un (by omega)
  rcases rr_views hP hR ht hl with ⟨h, hx, e⟩ | ⟨h, hx, e⟩ | h | ⟨h, hx, e⟩ | ⟨h, hx, e⟩
  · rw [rr_st0 h, pk_un (by omega), key, if_neg (by rw [h]; intro z; exact absurd z.1 (by decide)), if_neg (by rw [h]; intro z; exact absurd z.1 (by decide))]
  · rw [rr_st1 h, pk_un (by omega), key, if_neg (by rw [h]; intro z; exact absurd z.1 (by decide)), if_neg (by rw [h]; intro z; exact absurd z.1 (by decide))]
  · rw [rr_st2 h, pk_un (by omega), key, if_neg (by rw [h]; intro z; exact absurd z.1 (by decide)), if_neg (by rw [h]; intro z; exact absurd z.1 (by decide))]
  · rw [rr_st3 h]
    rcases Nat.decEq (rr_ox os t r) m with q | q
    · rw [pk_un (by omega), key, if_neg (fun z => q z.2), if_neg (fun z => q z.2)]
    · rw [if_pos ⟨h, q⟩, q, pk_us]
  · rw [rr_st4 h, if_neg (by rw [h]; intro z; exact absurd z.1 (by decide))]
    rcases Nat.decEq (rr_ox os t r) m with q | q
    · rw [pk_un (by omega), key, if_neg (fun z => q z.2)]
    · rw [if_pos ⟨h, q⟩, q, pk_us]
theorem rr_st_Rk (hP : rr_Pg sz ks os S) (hR : rr_Rk S r p) (ht : t < 3) (he : rr_en sz ks os t r = true) : rr_Rk S (rr_st ks os t r) (rr_inc t p) := by
  have hl := rr_en_lt he
  have hp := (rr_lt hP hR ht).mp hl
  refine ⟨fun s hs => ?_, fun m hm => ?_⟩
  · rw [rr_st_pos hP hR ht hl hs]
    unfold rr_inc
    rcases Nat.decEq s t with h | h
    · rw [if_neg h, if_neg h]; exact hR.1 s hs
    · rw [h, if_pos rfl, if_pos rfl, (hR.1 t ht).1, nI_1]; exact ⟨rfl, by omega⟩
  · rw [rr_st_hold hP hR ht hl hm]
    by_cases h3 : ks (rr_op t r) = 3 ∧ rr_ox os t r = m
    · rw [if_pos h3]; exact Or.inr ⟨t, ht, rfl⟩
    · rw [if_neg h3]
      by_cases h4 : ks (rr_op t r) = 4 ∧ rr_ox os t r = m
      · rw [if_pos h4]; exact Or.inl rfl
      · rw [if_neg h4]; exact hR.2 m hm
theorem rr_inc_sum (ht : t < 3) : rr_inc t p 0 + rr_inc t p 1 + rr_inc t p 2 = p 0 + p 1 + p 2 + 1 := by
  unfold rr_inc
  rcases (show t = 0 ∨ t = 1 ∨ t = 2 by omega) with rfl | rfl | rfl <;> simp <;> omega
end
/-- the row after e events -/
def rr_run (ks os : Nat → Int32) (B : Nat → Int32) (T : Nat → Nat) : Nat → (Nat → Int32)
  | 0 => B
  | e + 1 => rr_st ks os (T e) (rr_run ks os B T e)
/-- the positions after e events -/
def rr_ps (T : Nat → Nat) : Nat → (Nat → Nat)
  | 0 => fun _ => 0
  | e + 1 => rr_inc (T e) (rr_ps T e)
def rr_Bg (B : Nat → Int32) : Prop := (∀ t, t < 3 → B (2 + t) = 0 ∧ B (5 + t) = 0) ∧ ∀ m, m < 2 → B (8 + m) = -1000000004
def rr_Go (sz ks os : Nat → Int32) (S : Nat → Nat) (B : Nat → Int32) (T : Nat → Nat) (n : Nat) : Prop :=
  rr_Pg sz ks os S ∧ rr_Bg B ∧ ∀ i, i < n → T i < 3 ∧ rr_en sz ks os (T i) (rr_run ks os B T i) = true
section
variable {sz ks os B : Nat → Int32} {S T : Nat → Nat} {n : Nat}
theorem rr_Go_Rk (hG : rr_Go sz ks os S B T n) : ∀ e, e ≤ n → rr_Rk S (rr_run ks os B T e) (rr_ps T e) ∧ rr_ps T e 0 + rr_ps T e 1 + rr_ps T e 2 = e := by
  intro e
  induction e with
  | zero =>
    intro _
    refine ⟨⟨fun t ht => ⟨(hG.2.1.1 t ht).2, Nat.zero_le _⟩, fun m hm => Or.inl (hG.2.1.2 m hm)⟩, rfl⟩
  | succ e ih =>
    intro h
    obtain ⟨a, b⟩ := ih (by omega)
    obtain ⟨c, d⟩ := hG.2.2 e (by omega)
    refine ⟨rr_st_Rk hG.1 a c d, ?_⟩
    show rr_inc _ _ 0 + rr_inc _ _ 1 + rr_inc _ _ 2 = e + 1
    rw [rr_inc_sum c, b]
theorem rr_Go_8 (hG : rr_Go sz ks os S B T n) {e : Nat} (he : e ≤ n) : e ≤ 8 := by
  obtain ⟨a, b⟩ := rr_Go_Rk hG e he
  have h0 := (a.1 0 (by omega)).2
  have h1 := (a.1 1 (by omega)).2
  have h2 := (a.1 2 (by omega)).2
  have := hG.1.2.1
  omega
theorem rr_Go_lt (hG : rr_Go sz ks os S B T n) {t : Nat} (ht : t < 3) (h : rr_en sz ks os t (rr_run ks os B T n) = true) : n < 8 := by
  obtain ⟨a, b⟩ := rr_Go_Rk hG n (Nat.le_refl _)
  have h0 := (a.1 0 (by omega)).2
  have h1 := (a.1 1 (by omega)).2
  have h2 := (a.1 2 (by omega)).2
  have hl := (rr_lt hG.1 a ht).mp (rr_en_lt h)
  have := hG.1.2.1
  rcases (show t = 0 ∨ t = 1 ∨ t = 2 by omega) with rfl | rfl | rfl <;> omega
theorem rr_Go_mono (hG : rr_Go sz ks os S B T n) {e : Nat} (he : e ≤ n) : rr_Go sz ks os S B T e := ⟨hG.1, hG.2.1, fun i hi => hG.2.2 i (by omega)⟩
theorem rr_run_congr {T' : Nat → Nat} : ∀ e, (∀ i, i < e → T' i = T i) → rr_run ks os B T' e = rr_run ks os B T e := by
  intro e
  induction e with
  | zero => intro _; rfl
  | succ e ih =>
    intro h
    show rr_st ks os (T' e) _ = rr_st ks os (T e) _
    rw [ih (fun i hi => h i (by omega)), h e (by omega)]
end
end
section
/-! the pure search: outcomes in the order in which they are first met -/
def rr_same (o r : Nat → Int32) : Bool := (List.range 8).all (fun c => decide (o c = r c))
theorem rr_same_t {o r : Nat → Int32} : rr_same o r = true ↔ ∀ c, c < 8 → o c = r c := by
  unfold rr_same; rw [List.all_eq_true]
  exact ⟨fun h c hc => of_decide_eq_true (h c (List.mem_range.mpr hc)), fun h c hc => decide_eq_true (h c (List.mem_range.mp hc))⟩
def rr_note (acc : List (Nat → Int32)) (r : Nat → Int32) : List (Nat → Int32) := if acc.any (fun o => rr_same o r) then acc else acc ++ [r]
def rr_any (sz ks os : Nat → Int32) (r : Nat → Int32) : Bool := rr_en sz ks os 0 r || rr_en sz ks os 1 r || rr_en sz ks os 2 r
def rr_arr (sz ks os : Nat → Int32) (r : Nat → Int32) (acc : List (Nat → Int32)) : List (Nat → Int32) := if rr_any sz ks os r then acc else rr_note acc r
def rr_kid (sz ks os : Nat → Int32) (g : (Nat → Int32) → List (Nat → Int32) → List (Nat → Int32)) (t : Nat) (r : Nat → Int32) (a : List (Nat → Int32)) : List (Nat → Int32) := if rr_en sz ks os t r then g (rr_st ks os t r) a else a
def rr_from (sz ks os : Nat → Int32) (g : (Nat → Int32) → List (Nat → Int32) → List (Nat → Int32)) (r : Nat → Int32) : Nat → List (Nat → Int32) → List (Nat → Int32)
  | 0 => fun a => a
  | j + 1 => fun a => rr_from sz ks os g r j (rr_kid sz ks os g (2 - j) r a)
def rr_dfs (sz ks os : Nat → Int32) : Nat → (Nat → Int32) → List (Nat → Int32) → List (Nat → Int32)
  | 0 => fun _ a => a
  | f + 1 => fun r a => rr_from sz ks os (rr_dfs sz ks os f) r 3 (rr_arr sz ks os r a)
def rr_dec (t : Nat) (q : Nat → Nat) : Nat → Nat := fun s => if s = t then q s - 1 else q s
def rr_lv : Nat → Nat → Nat → Nat → Nat
  | 0, _, _, _ => 1
  | f + 1, a, b, c => if a + b + c = 0 then 1 else (if a = 0 then 0 else rr_lv f (a - 1) b c) + (if b = 0 then 0 else rr_lv f a (b - 1) c) + (if c = 0 then 0 else rr_lv f a b (c - 1))
def rr_nd : Nat → Nat → Nat → Nat → Nat
  | 0, _, _, _ => 1
  | f + 1, a, b, c => 1 + ((if a = 0 then 0 else rr_nd f (a - 1) b c) + (if b = 0 then 0 else rr_nd f a (b - 1) c) + (if c = 0 then 0 else rr_nd f a b (c - 1)))
def rr_LV (f : Nat) (q : Nat → Nat) : Nat := rr_lv f (q 0) (q 1) (q 2)
def rr_ND (f : Nat) (q : Nat → Nat) : Nat := rr_nd f (q 0) (q 1) (q 2)
def rr_lk (f t : Nat) (q : Nat → Nat) : Nat := if q t = 0 then 0 else rr_LV f (rr_dec t q)
def rr_nk (f t : Nat) (q : Nat → Nat) : Nat := if q t = 0 then 0 else rr_ND f (rr_dec t q)
def rr_ls (f : Nat) (q : Nat → Nat) : Nat → Nat
  | 0 => 0
  | j + 1 => rr_lk f (2 - j) q + rr_ls f q j
def rr_ns (f : Nat) (q : Nat → Nat) : Nat → Nat
  | 0 => 0
  | j + 1 => rr_nk f (2 - j) q + rr_ns f q j
theorem rr_LV_s (f : Nat) (q : Nat → Nat) : rr_LV (f + 1) q = if q 0 + q 1 + q 2 = 0 then 1 else rr_ls f q 3 := by
  show (if q 0 + q 1 + q 2 = 0 then 1 else _) = _
  rcases Nat.decEq (q 0 + q 1 + q 2) 0 with h | h
  · rw [if_neg h, if_neg h]
    simp only [rr_ls, rr_lk, rr_LV, rr_dec]
    simp
    omega
  · rw [if_pos h, if_pos h]
theorem rr_ND_s (f : Nat) (q : Nat → Nat) : rr_ND (f + 1) q = 1 + rr_ns f q 3 := by
  show 1 + _ = _
  simp only [rr_ns, rr_nk, rr_ND, rr_dec]
  simp
  omega
theorem rr_lv_pos : ∀ f a b c, 1 ≤ rr_lv f a b c := by
  intro f
  induction f with
  | zero => intro a b c; exact Nat.le_refl 1
  | succ f ih =>
    intro a b c
    show 1 ≤ if a + b + c = 0 then 1 else _
    have h1 := ih (a - 1) b c
    have h2 := ih a (b - 1) c
    have h3 := ih a b (c - 1)
    rcases Nat.decEq (a + b + c) 0 with h | h
    · rw [if_neg h]
      have ka : a ≠ 0 → 1 ≤ (if a = 0 then 0 else rr_lv f (a - 1) b c) := fun x => by rw [if_neg x]; exact h1
      have kb : b ≠ 0 → 1 ≤ (if b = 0 then 0 else rr_lv f a (b - 1) c) := fun x => by rw [if_neg x]; exact h2
      have kc : c ≠ 0 → 1 ≤ (if c = 0 then 0 else rr_lv f a b (c - 1)) := fun x => by rw [if_neg x]; exact h3
      rcases (show a ≠ 0 ∨ b ≠ 0 ∨ c ≠ 0 by omega) with x | x | x
      · have := ka x; omega
      · have := kb x; omega
      · have := kc x; omega
    · rw [if_pos h]; exact Nat.le_refl 1
theorem rr_LV_pos (f : Nat) (q : Nat → Nat) : 1 ≤ rr_LV f q := rr_lv_pos _ _ _ _
theorem rr_lv_560 : ∀ a, a < 5 → ∀ b, b < 5 → ∀ c, c < 5 → a + b + c ≤ 8 → rr_lv 9 a b c ≤ 560 := by decide +kernel
theorem rr_nd_5040 : ∀ a, a < 5 → ∀ b, b < 5 → ∀ c, c < 5 → a + b + c ≤ 8 → rr_nd 9 a b c ≤ 5040 := by decide +kernel
section
variable {sz ks os : Nat → Int32} {S p : Nat → Nat} {r : Nat → Int32} {t : Nat}
def rr_rm (S p : Nat → Nat) : Nat → Nat := fun t => S t - p t
theorem rr_rm_inc (hl : p t < S t) : rr_rm S (rr_inc t p) = rr_dec t (rr_rm S p) := by
  funext s
  unfold rr_rm rr_inc rr_dec
  rcases Nat.decEq s t with h | h
  · rw [if_neg h, if_neg h]
  · rw [h, if_pos rfl, if_pos rfl]; show S t - (p t + 1) = S t - p t - 1; omega
theorem rr_note_len (acc : List (Nat → Int32)) (r : Nat → Int32) : acc.length ≤ (rr_note acc r).length ∧ (rr_note acc r).length ≤ acc.length + 1 ∧ 1 ≤ (rr_note acc r).length := by
  unfold rr_note
  by_cases h : acc.any (fun o => rr_same o r) = true
  · rw [if_pos h]
    refine ⟨Nat.le_refl _, by omega, ?_⟩
    rcases acc with _ | ⟨x, l⟩
    · cases h
    · simp
  · rw [if_neg h]; simp
theorem rr_any_t (ht : t < 3) (h : rr_en sz ks os t r = true) : rr_any sz ks os r = true := by
  unfold rr_any
  rcases (show t = 0 ∨ t = 1 ∨ t = 2 by omega) with rfl | rfl | rfl <;> rw [h] <;> simp
theorem rr_any_f (h : rr_any sz ks os r = false) (ht : t < 3) : rr_en sz ks os t r = false := by
  rcases hb : rr_en sz ks os t r with _ | _
  · rfl
  · rw [rr_any_t ht hb] at h; cases h
theorem rr_kid_t {g : (Nat → Int32) → List (Nat → Int32) → List (Nat → Int32)} {a : List (Nat → Int32)} (h : rr_en sz ks os t r = true) : rr_kid sz ks os g t r a = g (rr_st ks os t r) a := if_pos h
theorem rr_kid_f {g : (Nat → Int32) → List (Nat → Int32) → List (Nat → Int32)} {a : List (Nat → Int32)} (h : rr_en sz ks os t r = false) : rr_kid sz ks os g t r a = a := if_neg (by rw [h]; decide)
theorem rr_from_f {g : (Nat → Int32) → List (Nat → Int32) → List (Nat → Int32)} (h : rr_any sz ks os r = false) : ∀ j, j ≤ 3 → ∀ a, rr_from sz ks os g r j a = a := by
  intro j
  induction j with
  | zero => intro _ a; rfl
  | succ j ih =>
    intro hj a
    show rr_from sz ks os g r j (rr_kid sz ks os g (2 - j) r a) = a
    rw [rr_kid_f (rr_any_f h (by omega)), ih (by omega)]
/-- what holds of the search: it grows, by no more than the leaves, and a search that begins with enough fuel finds something -/
theorem rr_dfs_len (hP : rr_Pg sz ks os S) : ∀ f r p a, rr_Rk S r p → rr_rm S p 0 + rr_rm S p 1 + rr_rm S p 2 < f →
    a.length ≤ (rr_dfs sz ks os f r a).length ∧ (rr_dfs sz ks os f r a).length ≤ a.length + rr_LV f (rr_rm S p) ∧ 1 ≤ (rr_dfs sz ks os f r a).length := by
  intro f
  induction f with
  | zero => intro r p a _ h; omega
  | succ f ih =>
    intro r p a hR hf
    show a.length ≤ (rr_from sz ks os (rr_dfs sz ks os f) r 3 (rr_arr sz ks os r a)).length ∧ (rr_from sz ks os (rr_dfs sz ks os f) r 3 (rr_arr sz ks os r a)).length ≤ _ ∧ 1 ≤ (rr_from sz ks os (rr_dfs sz ks os f) r 3 (rr_arr sz ks os r a)).length
    rcases hb : rr_any sz ks os r with _ | _
    · rw [rr_from_f hb 3 (Nat.le_refl 3)]
      have e : rr_arr sz ks os r a = rr_note a r := if_neg (by rw [hb]; decide)
      rw [e]
      have h1 := rr_note_len a r
      have h2 := rr_LV_pos (f + 1) (rr_rm S p)
      omega
    · have e : rr_arr sz ks os r a = a := if_pos hb
      rw [e]
      have kid : ∀ t, t < 3 → ∀ a, a.length ≤ (rr_kid sz ks os (rr_dfs sz ks os f) t r a).length ∧ (rr_kid sz ks os (rr_dfs sz ks os f) t r a).length ≤ a.length + rr_lk f t (rr_rm S p) ∧ (rr_en sz ks os t r = true → 1 ≤ (rr_kid sz ks os (rr_dfs sz ks os f) t r a).length ∧ rr_rm S p t ≠ 0) := by
        intro t ht a
        rcases he : rr_en sz ks os t r with _ | _
        · rw [rr_kid_f he]; exact ⟨Nat.le_refl _, by omega, fun z => by cases z⟩
        · rw [rr_kid_t he]
          have hl := (rr_lt hP hR ht).mp (rr_en_lt he)
          have h0 : rr_rm S p t ≠ 0 := by unfold rr_rm; omega
          have hf' : rr_rm S (rr_inc t p) 0 + rr_rm S (rr_inc t p) 1 + rr_rm S (rr_inc t p) 2 < f := by
            rw [rr_rm_inc hl]; unfold rr_dec
            rcases (show t = 0 ∨ t = 1 ∨ t = 2 by omega) with rfl | rfl | rfl <;> simp <;> omega
          obtain ⟨x, y, z⟩ := ih (rr_st ks os t r) (rr_inc t p) a (rr_st_Rk hP hR ht he) hf'
          refine ⟨x, ?_, fun _ => ⟨z, h0⟩⟩
          unfold rr_lk; rw [if_neg h0, ← rr_rm_inc hl]; exact y
      have k0 := kid 0 (by omega) a
      have k1 := kid 1 (by omega) (rr_kid sz ks os (rr_dfs sz ks os f) 0 r a)
      have k2 := kid 2 (by omega) (rr_kid sz ks os (rr_dfs sz ks os f) 1 r (rr_kid sz ks os (rr_dfs sz ks os f) 0 r a))
      show a.length ≤ (rr_kid sz ks os (rr_dfs sz ks os f) 2 r (rr_kid sz ks os (rr_dfs sz ks os f) 1 r (rr_kid sz ks os (rr_dfs sz ks os f) 0 r a))).length ∧ (rr_kid sz ks os (rr_dfs sz ks os f) 2 r (rr_kid sz ks os (rr_dfs sz ks os f) 1 r (rr_kid sz ks os (rr_dfs sz ks os f) 0 r a))).length ≤ _ ∧ 1 ≤ (rr_kid sz ks os (rr_dfs sz ks os f) 2 r (rr_kid sz ks os (rr_dfs sz ks os f) 1 r (rr_kid sz ks os (rr_dfs sz ks os f) 0 r a))).length
      rw [rr_LV_s]
      have hs : rr_ls f (rr_rm S p) 3 = rr_lk f 0 (rr_rm S p) + (rr_lk f 1 (rr_rm S p) + (rr_lk f 2 (rr_rm S p) + 0)) := rfl
      have hany : rr_en sz ks os 0 r = true ∨ rr_en sz ks os 1 r = true ∨ rr_en sz ks os 2 r = true := by
        unfold rr_any at hb
        rcases h0 : rr_en sz ks os 0 r with _ | _ <;> rcases h1 : rr_en sz ks os 1 r with _ | _ <;> rcases h2 : rr_en sz ks os 2 r with _ | _ <;> rw [h0, h1, h2] at hb <;> simp at hb ⊢
      have hne : rr_rm S p 0 + rr_rm S p 1 + rr_rm S p 2 ≠ 0 := by
        rcases hany with h | h | h
        · have := (k0.2.2 h).2; omega
        · have := (k1.2.2 h).2; omega
        · have := (k2.2.2 h).2; omega
      rw [if_neg hne, hs]
      refine ⟨by omega, by omega, ?_⟩
      rcases hany with h | h | h
      · have := (k0.2.2 h).1; omega
      · have := (k1.2.2 h).1; omega
      · have := (k2.2.2 h).1; omega
end
end
section
theorem rr_ix0 (e a : Nat) : nI e * 10 + nI a = nI (10 * e + a) := by
  rw [show (10 : Int32) = nI 10 from rfl, pk_mul, nI_add, Nat.mul_comm]
theorem rr_ixa (e a b : Nat) : nI e * 10 + nI a + nI b = nI (10 * e + (a + b)) := by
  rw [rr_ix0, nI_add, Nat.add_assoc]
theorem rr_ix5 (e t : Nat) : nI e * 10 + 5 + nI t = nI (10 * e + (5 + t)) := rr_ixa e 5 t
theorem rr_ix8 (e t : Nat) : nI e * 10 + 8 + nI t = nI (10 * e + (8 + t)) := rr_ixa e 8 t
theorem rr_ix2 (e t : Nat) : nI e * 10 + 2 + nI t = nI (10 * e + (2 + t)) := rr_ixa e 2 t
theorem rr_iy (d a b : Nat) : nI d + nI a + nI b = nI (d + (a + b)) := by rw [nI_add, nI_add, Nat.add_assoc]
theorem rr_iy5 (d t : Nat) : nI d + 5 + nI t = nI (d + (5 + t)) := rr_iy d 5 t
theorem rr_iy8 (d t : Nat) : nI d + 8 + nI t = nI (d + (8 + t)) := rr_iy d 8 t
theorem rr_iy2 (d t : Nat) : nI d + 2 + nI t = nI (d + (2 + t)) := rr_iy d 2 t
theorem rr_lt3 {t : Nat} (h : t < 3) : ¬ (3 : Int32) ≤ nI t := nI_ge (b := 3) h (by decide)
theorem rr_gl {a q : Nat → Int32} {D i : Nat} {v : Int32} (h : ∀ c, c < 10 → a (D + c) = q c) : ∀ c, c < 10 → upd a (D + i) v (D + c) = upd q i v c := by
  intro c hc
  rcases Nat.decEq c i with z | z
  · rw [pk_un (by omega), pk_un z, h c hc]
  · rw [z, pk_us, pk_us]
def rr_m1 (sz ks os r : Nat → Int32) (t : Nat) (x : Int32) : Int32 := if rr_en sz ks os t r then x ||| ((1 : Int32) <<< (nI t &&& 31)) else x
def rr_msk (sz ks os r : Nat → Int32) : Int32 := rr_m1 sz ks os r 2 (rr_m1 sz ks os r 1 (rr_m1 sz ks os r 0 0))
theorem rr_msk0 {sz ks os r : Nat → Int32} : rr_msk sz ks os r = 0 ↔ rr_any sz ks os r = false := by
  unfold rr_msk rr_any rr_m1
  cases rr_en sz ks os 0 r <;> cases rr_en sz ks os 1 r <;> cases rr_en sz ks os 2 r <;> decide
section
variable {ec fx : Int32} {sz ks os hi et ek eo mb kb oc pa nt fo : Nat → Int32}
variable {S p : Nat → Nat} {r : Nat → Int32} {e t : Nat}
theorem xs_can_history (hP : rr_Pg sz ks os S) (hR : rr_Rk S r p) (he : e ≤ 8) (ht : t < 3) (hr : ∀ c, c < 10 → hi (10 * e + c) = r c) {post : Int32 → Prop} (h : post (rr_b (rr_en sz ks os t r))) : wpX_canStep__history post (ec, fx, sz, ks, os, hi, et, ek, eo, mb, kb, oc, pa, nt, fo) (nI e) (nI t) := by
  have hS := rr_S4 hP ht
  have hp := rr_p4 hP hR ht
  have e1 : nI e * 10 + 5 + nI t = nI (10 * e + (5 + t)) := rr_ix5 e t
  have c1 : hi (nI e * 10 + 5 + nI t).toNatClampNeg = r (5 + t) := by rw [e1, nI_clamp (by omega)]; exact hr _ (by omega)
  have ct : (nI t).toNatClampNeg = t := nI_clamp (by omega)
  refine ⟨pk_in _ _ (by omega) e1, nm_r c1 ⟨pk_in t 3 ht rfl, ?_⟩⟩
  rw [ct]
  by_cases hl : r (5 + t) < sz t
  · have e2 : nI t * 4 + r (5 + t) = nI (rr_op t r) := by
      rw [rr_opN hP hR ht, (hR.1 t ht).1, show (4 : Int32) = nI 4 from rfl, pk_mul, nI_add, Nat.mul_comm]
    have ho := rr_op12 hP hR ht hl
    have c2 : (nI (rr_op t r)).toNatClampNeg = rr_op t r := nI_clamp (by omega)
    have lk : (ks (rr_op t r) = 3 ∨ ks (rr_op t r) = 4) → wX_canStep__history_56 post (nI e) (nI t) (nI (rr_op t r)) (ks (rr_op t r)) ec fx sz ks os hi et ek eo mb kb oc pa nt fo := by
      intro hk
      have hx : rr_ox os t r < 2 ∧ os (rr_op t r) = nI (rr_ox os t r) := by
        rcases rr_views hP hR ht hl with ⟨_, hx⟩ | ⟨_, hx⟩ | z | ⟨_, hx⟩ | ⟨_, hx⟩
        · exact hx
        · exact hx
        · rw [z] at hk; rcases hk with y | y <;> exact absurd y (by decide)
        · exact hx
        · exact hx
      have hx1 := hx.1
      have e3 : nI e * 10 + 8 + os (nI (rr_op t r)).toNatClampNeg = nI (10 * e + (8 + rr_ox os t r)) := by
        rw [c2, hx.2]; exact rr_ix8 e (rr_ox os t r)
      have c3 : hi (nI e * 10 + 8 + os (nI (rr_op t r)).toNatClampNeg).toNatClampNeg = r (8 + rr_ox os t r) := by
        rw [e3, nI_clamp (by omega)]; exact hr _ (by omega)
      refine ⟨pk_in _ _ ho rfl, pk_in _ _ (by omega) e3, nm_r c3 ?_⟩
      rcases hk with hk | hk
      · refine br_t hk ?_
        rw [rr_en_l hl hk] at h
        by_cases z : r (8 + rr_ox os t r) = -1000000004
        · rw [decide_eq_true z] at h; exact br_t z h
        · rw [decide_eq_false z] at h; exact br_f z h
      · refine br_f (by rw [hk]; decide) ?_
        rw [rr_en_u hl hk] at h
        by_cases z : r (8 + rr_ox os t r) = nI t
        · rw [decide_eq_true z] at h; exact br_t z h
        · rw [decide_eq_false z] at h; exact br_f z h
    refine br_t hl (nm_r e2 ⟨pk_in _ _ ho rfl, nm_r (congrArg ks c2) ?_⟩)
    by_cases h3 : ks (rr_op t r) = 3
    · exact br_t h3 (lk (Or.inl h3))
    · refine br_f h3 ?_
      by_cases h4 : ks (rr_op t r) = 4
      · exact br_t h4 (lk (Or.inr h4))
      · rw [rr_en_o hl h3 h4] at h; exact br_f h4 h
  · rw [rr_en_no hl] at h; exact br_f hl h
theorem xs_thr1_history (hP : rr_Pg sz ks os S) (hR : rr_Rk S r p) (he : e ≤ 8) (ht : t < 3) (hr : ∀ c, c < 10 → hi (10 * e + c) = r c) {post : Int32 → Prop} {n : Nat} {x : Int32} (h : wX_threadsThatCanStep__history_5 post (nI e) ec fx sz ks os hi et ek eo mb kb oc pa nt fo n (rr_m1 sz ks os r t x) (nI (t + 1))) : wX_threadsThatCanStep__history_5 post (nI e) ec fx sz ks os hi et ek eo mb kb oc pa nt fo (n + 1) x (nI t) := by
  refine br_f (rr_lt3 ht) (xs_can_history hP hR he ht hr ?_)
  unfold rr_m1 at h
  refine rr_bd (fun z => ?_) (fun z => ?_)
  · rw [z] at h; exact nm_r (nI_1 t) h
  · rw [z] at h; exact nm_e (nm_r (nI_1 t) h)
theorem xs_thr_history (hP : rr_Pg sz ks os S) (hR : rr_Rk S r p) (he : e ≤ 8) (hr : ∀ c, c < 10 → hi (10 * e + c) = r c) {post : Int32 → Prop} (h : post (rr_msk sz ks os r)) : wpX_threadsThatCanStep__history post (ec, fx, sz, ks, os, hi, et, ek, eo, mb, kb, oc, pa, nt, fo) (nI e) :=
  ⟨4, xs_thr1_history (t := 0) hP hR he (by omega) hr (xs_thr1_history (t := 1) hP hR he (by omega) hr (xs_thr1_history (t := 2) hP hR he (by omega) hr (br_t (by decide) h)))⟩
theorem xs_nop_history (hP : rr_Pg sz ks os S) (hR : rr_Rk S r p) (he : e ≤ 8) (ht : t < 3) (hr : ∀ c, c < 10 → hi (10 * e + c) = r c) {post : Int32 → Prop} (h : post (nI (rr_op t r))) : wpX_nextOperation__history post (ec, fx, sz, ks, os, hi, et, ek, eo, mb, kb, oc, pa, nt, fo) (nI e) (nI t) := by
  have hp := rr_p4 hP hR ht
  have e1 : nI e * 10 + 5 + nI t = nI (10 * e + (5 + t)) := rr_ix5 e t
  refine ⟨pk_in _ _ (by omega) e1, ?_⟩
  have e2 : nI t * 4 + hi (nI e * 10 + 5 + nI t).toNatClampNeg = nI (rr_op t r) := by
    rw [e1, nI_clamp (by omega), hr _ (by omega), rr_opN hP hR ht, (hR.1 t ht).1, show (4 : Int32) = nI 4 from rfl, pk_mul, nI_add, Nat.mul_comm]
  rw [e2]; exact h
theorem xs_take_history (hP : rr_Pg sz ks os S) (hR : rr_Rk S r p) (he : e < 8) (ht : t < 3) (hr : ∀ c, c < 10 → hi (10 * e + c) = r c) (hl : r (5 + t) < sz t) {post : SX → Prop}
    (H : ∀ a, (∀ c, c < 10 → a (10 * (e + 1) + c) = rr_st ks os t r c) → (∀ j, j < 10 * (e + 1) ∨ 10 * (e + 2) ≤ j → a j = hi j) → post (ec, fx, sz, ks, os, a, et, ek, eo, mb, kb, oc, pa, nt, fo)) : wpX_takeStep__history post (ec, fx, sz, ks, os, hi, et, ek, eo, mb, kb, oc, pa, nt, fo) (nI e) (nI t) := by
  refine nm_r (show nI e * 10 = nI (10 * e) by rw [show (10 : Int32) = nI 10 from rfl, pk_mul, Nat.mul_comm]) (nm_r (show nI (10 * e) + 10 = nI (10 * (e + 1)) from nI_add (10 * e) 10) ?_)
  refine loop_0 (fun n i a => wX_takeStep__history_16 post (nI e) (nI t) (nI (10 * e)) (nI (10 * (e + 1))) ec fx n (nI i) sz ks os a et ek eo mb kb oc pa nt fo) (fun i a => (∀ c, c < i → a (10 * (e + 1) + c) = hi (10 * e + c)) ∧ ∀ j, j < 10 * (e + 1) ∨ 10 * (e + 1) + i ≤ j → a j = hi j) 10 hi ⟨fun c hc => by omega, fun j _ => rfl⟩ ?_ ?_
  · intro n a ⟨h1, h2⟩
    have hr' : ∀ c, c < 10 → a (10 * e + c) = r c := fun c hc => by rw [h2 _ (by omega)]; exact hr c hc
    have hq : ∀ c, c < 10 → a (10 * (e + 1) + c) = r c := fun c hc => by rw [h1 c hc]; exact hr c hc
    have ho := rr_op12 hP hR ht hl
    have c2 : (nI (rr_op t r)).toNatClampNeg = rr_op t r := nI_clamp (by omega)
    have e5 : nI (10 * (e + 1)) + 5 + nI t = nI (10 * (e + 1) + (5 + t)) := rr_iy5 _ _
    have e2 : nI (10 * (e + 1)) + 2 + nI t = nI (10 * (e + 1) + (2 + t)) := rr_iy2 _ _
    have e2' : nI (10 * e) + 2 + nI t = nI (10 * e + (2 + t)) := rr_iy2 _ _
    have u5 : upd a (nI (10 * (e + 1)) + 5 + nI t).toNatClampNeg (a (nI (10 * (e + 1)) + 5 + nI t).toNatClampNeg + 1) = upd a (10 * (e + 1) + (5 + t)) (r (5 + t) + 1) := by
      rw [e5, nI_clamp (by omega), hq _ (by omega)]
    have g5 : ∀ c, c < 10 → upd a (10 * (e + 1) + (5 + t)) (r (5 + t) + 1) (10 * (e + 1) + c) = upd r (5 + t) (r (5 + t) + 1) c := rr_gl hq
    have g5' : ∀ c, c < 10 → upd a (10 * (e + 1) + (5 + t)) (r (5 + t) + 1) (10 * e + c) = r c := fun c hc => by rw [pk_un (by omega)]; exact hr' c hc
    have fr : ∀ i, i < 10 → ∀ v j, j < 10 * (e + 1) ∨ 10 * (e + 2) ≤ j → upd (upd a (10 * (e + 1) + (5 + t)) (r (5 + t) + 1)) (10 * (e + 1) + i) v j = hi j := by
      intro i hi v j hj
      rw [pk_un (by omega), pk_un (by omega)]; exact h2 j (by omega)
    have fin : ∀ i, i < 10 → ∀ v, rr_st ks os t r = upd (upd r (5 + t) (r (5 + t) + 1)) i v → post (ec, fx, sz, ks, os, (upd (upd a (10 * (e + 1) + (5 + t)) (r (5 + t) + 1)) (10 * (e + 1) + i) v), et, ek, eo, mb, kb, oc, pa, nt, fo) := by
      intro i hi v hst
      exact H _ (fun c hc => by rw [hst]; exact rr_gl g5 c hc) (fr i hi v)
    refine br_t (show (10 : Int32) ≤ nI 10 by decide) (xs_nop_history hP hR (by omega) ht hr' ?_)
    refine ⟨pk_in _ _ ho rfl, nm_r (congrArg os c2) ⟨pk_in _ _ (by omega) e5, pk_in _ _ (by omega) e5, nm_r u5 ⟨pk_in _ _ ho rfl, nm_r (congrArg ks c2) ?_⟩⟩⟩
    rcases rr_views hP hR ht hl with ⟨hk, hx, ex⟩ | ⟨hk, hx, ex⟩ | hk | ⟨hk, hx, ex⟩ | ⟨hk, hx, ex⟩
    · rw [hk, ex]
      have i1 : nI (10 * e) + nI (rr_ox os t r) = nI (10 * e + rr_ox os t r) := nI_add _ _
      refine br_f (by decide) (br_f (by decide) (br_t rfl ⟨pk_in _ _ (by omega) i1, pk_in _ _ (by omega) e2, nm_r ?_ (fin (2 + t) (by omega) (r (rr_ox os t r)) (rr_st0 hk))⟩))
      rw [e2, i1, nI_clamp (by omega), nI_clamp (by omega), g5' _ (by omega)]
    · rw [hk, ex]
      have i1 : nI (10 * (e + 1)) + nI (rr_ox os t r) = nI (10 * (e + 1) + rr_ox os t r) := nI_add _ _
      refine br_f (by decide) (br_f (by decide) (br_f (by decide) (br_t rfl ⟨pk_in _ _ (by omega) e2', pk_in _ _ (by omega) i1, nm_r ?_ (fin (rr_ox os t r) (by omega) (r (2 + t)) (rr_st1 hk))⟩)))
      rw [e2', i1, nI_clamp (by omega), nI_clamp (by omega), g5' _ (by omega)]
    · rw [hk]
      refine br_f (by decide) (br_f (by decide) (br_f (by decide) (br_f (by decide) (br_t rfl ⟨pk_in _ _ (by omega) e2, pk_in _ _ (by omega) e2, nm_r ?_ (fin (2 + t) (by omega) (r (2 + t) + os (rr_op t r)) (rr_st2 hk))⟩))))
      rw [e2, nI_clamp (by omega), g5 _ (by omega), pk_un (by omega)]
    · rw [hk, ex]
      have i1 : nI (10 * (e + 1)) + 8 + nI (rr_ox os t r) = nI (10 * (e + 1) + (8 + rr_ox os t r)) := rr_iy8 _ _
      refine br_f (by decide) (br_f (by decide) (br_f (by decide) (br_f (by decide) (br_f (by decide) (br_t rfl ⟨pk_in _ _ (by omega) i1, nm_r ?_ (fin (8 + rr_ox os t r) (by omega) (nI t) (rr_st3 hk))⟩)))))
      rw [i1, nI_clamp (by omega)]
    · rw [hk, ex]
      have i1 : nI (10 * (e + 1)) + 8 + nI (rr_ox os t r) = nI (10 * (e + 1) + (8 + rr_ox os t r)) := rr_iy8 _ _
      refine br_f (by decide) (br_t (by decide) ⟨pk_in _ _ (by omega) i1, nm_r ?_ (fin (8 + rr_ox os t r) (by omega) (-1000000004) (rr_st4 hk))⟩)
      rw [i1, nI_clamp (by omega)]
  · intro n i a hil ⟨h1, h2⟩ ih
    have i1 : nI (10 * e) + nI i = nI (10 * e + i) := nI_add _ _
    have i2 : nI (10 * (e + 1)) + nI i = nI (10 * (e + 1) + i) := nI_add _ _
    refine br_f (nI_ge (b := 10) hil (by decide)) ⟨pk_in _ _ (by omega) i1, pk_in _ _ (by omega) i2, nm_r (show _ = upd a (10 * (e + 1) + i) (hi (10 * e + i)) by rw [i1, i2, nI_clamp (by omega), nI_clamp (by omega), h2 _ (by omega)]) (nm_r (nI_1 i) (ih _ ⟨fun c hc => ?_, fun j hj => ?_⟩))⟩
    · rcases Nat.decEq c i with z | z
      · rw [pk_un (by omega)]; exact h1 c (by omega)
      · rw [z, pk_us]
    · rw [pk_un (by omega)]; exact h2 j (by omega)
theorem xs_can_path (hP : rr_Pg sz ks os S) (hR : rr_Rk S r p) (he : e ≤ 8) (ht : t < 3) (hr : ∀ c, c < 10 → pa (10 * e + c) = r c) {post : Int32 → Prop} (h : post (rr_b (rr_en sz ks os t r))) : wpX_canStep__path post (ec, fx, sz, ks, os, hi, et, ek, eo, mb, kb, oc, pa, nt, fo) (nI e) (nI t) := by
  have hS := rr_S4 hP ht
  have hp := rr_p4 hP hR ht
  have e1 : nI e * 10 + 5 + nI t = nI (10 * e + (5 + t)) := rr_ix5 e t
  have c1 : pa (nI e * 10 + 5 + nI t).toNatClampNeg = r (5 + t) := by rw [e1, nI_clamp (by omega)]; exact hr _ (by omega)
  have ct : (nI t).toNatClampNeg = t := nI_clamp (by omega)
  refine ⟨pk_in _ _ (by omega) e1, nm_r c1 ⟨pk_in t 3 ht rfl, ?_⟩⟩
  rw [ct]
  by_cases hl : r (5 + t) < sz t
  · have e2 : nI t * 4 + r (5 + t) = nI (rr_op t r) := by
      rw [rr_opN hP hR ht, (hR.1 t ht).1, show (4 : Int32) = nI 4 from rfl, pk_mul, nI_add, Nat.mul_comm]
    have ho := rr_op12 hP hR ht hl
    have c2 : (nI (rr_op t r)).toNatClampNeg = rr_op t r := nI_clamp (by omega)
    have lk : (ks (rr_op t r) = 3 ∨ ks (rr_op t r) = 4) → wX_canStep__path_56 post (nI e) (nI t) (nI (rr_op t r)) (ks (rr_op t r)) ec fx sz ks os hi et ek eo mb kb oc pa nt fo := by
      intro hk
      have hx : rr_ox os t r < 2 ∧ os (rr_op t r) = nI (rr_ox os t r) := by
        rcases rr_views hP hR ht hl with ⟨_, hx⟩ | ⟨_, hx⟩ | z | ⟨_, hx⟩ | ⟨_, hx⟩
        · exact hx
        · exact hx
        · rw [z] at hk; rcases hk with y | y <;> exact absurd y (by decide)
        · exact hx
        · exact hx
      have hx1 := hx.1
      have e3 : nI e * 10 + 8 + os (nI (rr_op t r)).toNatClampNeg = nI (10 * e + (8 + rr_ox os t r)) := by
        rw [c2, hx.2]; exact rr_ix8 e (rr_ox os t r)
      have c3 : pa (nI e * 10 + 8 + os (nI (rr_op t r)).toNatClampNeg).toNatClampNeg = r (8 + rr_ox os t r) := by
        rw [e3, nI_clamp (by omega)]; exact hr _ (by omega)
      refine ⟨pk_in _ _ ho rfl, pk_in _ _ (by omega) e3, nm_r c3 ?_⟩
      rcases hk with hk | hk
      · refine br_t hk ?_
        rw [rr_en_l hl hk] at h
        by_cases z : r (8 + rr_ox os t r) = -1000000004
        · rw [decide_eq_true z] at h; exact br_t z h
        · rw [decide_eq_false z] at h; exact br_f z h
      · refine br_f (by rw [hk]; decide) ?_
        rw [rr_en_u hl hk] at h
        by_cases z : r (8 + rr_ox os t r) = nI t
        · rw [decide_eq_true z] at h; exact br_t z h
        · rw [decide_eq_false z] at h; exact br_f z h
    refine br_t hl (nm_r e2 ⟨pk_in _ _ ho rfl, nm_r (congrArg ks c2) ?_⟩)
    by_cases h3 : ks (rr_op t r) = 3
    · exact br_t h3 (lk (Or.inl h3))
    · refine br_f h3 ?_
      by_cases h4 : ks (rr_op t r) = 4
      · exact br_t h4 (lk (Or.inr h4))
      · rw [rr_en_o hl h3 h4] at h; exact br_f h4 h
  · rw [rr_en_no hl] at h; exact br_f hl h
theorem xs_thr1_path (hP : rr_Pg sz ks os S) (hR : rr_Rk S r p) (he : e ≤ 8) (ht : t < 3) (hr : ∀ c, c < 10 → pa (10 * e + c) = r c) {post : Int32 → Prop} {n : Nat} {x : Int32} (h : wX_threadsThatCanStep__path_5 post (nI e) ec fx sz ks os hi et ek eo mb kb oc pa nt fo n (rr_m1 sz ks os r t x) (nI (t + 1))) : wX_threadsThatCanStep__path_5 post (nI e) ec fx sz ks os hi et ek eo mb kb oc pa nt fo (n + 1) x (nI t) := by
  refine br_f (rr_lt3 ht) (xs_can_path hP hR he ht hr ?_)
  unfold rr_m1 at h
  refine rr_bd (fun z => ?_) (fun z => ?_)
  · rw [z] at h; exact nm_r (nI_1 t) h
  · rw [z] at h; exact nm_e (nm_r (nI_1 t) h)
theorem xs_thr_path (hP : rr_Pg sz ks os S) (hR : rr_Rk S r p) (he : e ≤ 8) (hr : ∀ c, c < 10 → pa (10 * e + c) = r c) {post : Int32 → Prop} (h : post (rr_msk sz ks os r)) : wpX_threadsThatCanStep__path post (ec, fx, sz, ks, os, hi, et, ek, eo, mb, kb, oc, pa, nt, fo) (nI e) :=
  ⟨4, xs_thr1_path (t := 0) hP hR he (by omega) hr (xs_thr1_path (t := 1) hP hR he (by omega) hr (xs_thr1_path (t := 2) hP hR he (by omega) hr (br_t (by decide) h)))⟩
theorem xs_nop_path (hP : rr_Pg sz ks os S) (hR : rr_Rk S r p) (he : e ≤ 8) (ht : t < 3) (hr : ∀ c, c < 10 → pa (10 * e + c) = r c) {post : Int32 → Prop} (h : post (nI (rr_op t r))) : wpX_nextOperation__path post (ec, fx, sz, ks, os, hi, et, ek, eo, mb, kb, oc, pa, nt, fo) (nI e) (nI t) := by
  have hp := rr_p4 hP hR ht
  have e1 : nI e * 10 + 5 + nI t = nI (10 * e + (5 + t)) := rr_ix5 e t
  refine ⟨pk_in _ _ (by omega) e1, ?_⟩
  have e2 : nI t * 4 + pa (nI e * 10 + 5 + nI t).toNatClampNeg = nI (rr_op t r) := by
    rw [e1, nI_clamp (by omega), hr _ (by omega), rr_opN hP hR ht, (hR.1 t ht).1, show (4 : Int32) = nI 4 from rfl, pk_mul, nI_add, Nat.mul_comm]
  rw [e2]; exact h
theorem xs_take_path (hP : rr_Pg sz ks os S) (hR : rr_Rk S r p) (he : e < 8) (ht : t < 3) (hr : ∀ c, c < 10 → pa (10 * e + c) = r c) (hl : r (5 + t) < sz t) {post : SX → Prop}
    (H : ∀ a, (∀ c, c < 10 → a (10 * (e + 1) + c) = rr_st ks os t r c) → (∀ j, j < 10 * (e + 1) ∨ 10 * (e + 2) ≤ j → a j = pa j) → post (ec, fx, sz, ks, os, hi, et, ek, eo, mb, kb, oc, a, nt, fo)) : wpX_takeStep__path post (ec, fx, sz, ks, os, hi, et, ek, eo, mb, kb, oc, pa, nt, fo) (nI e) (nI t) := by
  refine nm_r (show nI e * 10 = nI (10 * e) by rw [show (10 : Int32) = nI 10 from rfl, pk_mul, Nat.mul_comm]) (nm_r (show nI (10 * e) + 10 = nI (10 * (e + 1)) from nI_add (10 * e) 10) ?_)
  refine loop_0 (fun n i a => wX_takeStep__path_16 post (nI e) (nI t) (nI (10 * e)) (nI (10 * (e + 1))) ec fx n (nI i) sz ks os hi et ek eo mb kb oc a nt fo) (fun i a => (∀ c, c < i → a (10 * (e + 1) + c) = pa (10 * e + c)) ∧ ∀ j, j < 10 * (e + 1) ∨ 10 * (e + 1) + i ≤ j → a j = pa j) 10 pa ⟨fun c hc => by omega, fun j _ => rfl⟩ ?_ ?_
  · intro n a ⟨h1, h2⟩
    have hr' : ∀ c, c < 10 → a (10 * e + c) = r c := fun c hc => by rw [h2 _ (by omega)]; exact hr c hc
    have hq : ∀ c, c < 10 → a (10 * (e + 1) + c) = r c := fun c hc => by rw [h1 c hc]; exact hr c hc
    have ho := rr_op12 hP hR ht hl
    have c2 : (nI (rr_op t r)).toNatClampNeg = rr_op t r := nI_clamp (by omega)
    have e5 : nI (10 * (e + 1)) + 5 + nI t = nI (10 * (e + 1) + (5 + t)) := rr_iy5 _ _
    have e2 : nI (10 * (e + 1)) + 2 + nI t = nI (10 * (e + 1) + (2 + t)) := rr_iy2 _ _
    have e2' : nI (10 * e) + 2 + nI t = nI (10 * e + (2 + t)) := rr_iy2 _ _
    have u5 : upd a (nI (10 * (e + 1)) + 5 + nI t).toNatClampNeg (a (nI (10 * (e + 1)) + 5 + nI t).toNatClampNeg + 1) = upd a (10 * (e + 1) + (5 + t)) (r (5 + t) + 1) := by
      rw [e5, nI_clamp (by omega), hq _ (by omega)]
    have g5 : ∀ c, c < 10 → upd a (10 * (e + 1) + (5 + t)) (r (5 + t) + 1) (10 * (e + 1) + c) = upd r (5 + t) (r (5 + t) + 1) c := rr_gl hq
    have g5' : ∀ c, c < 10 → upd a (10 * (e + 1) + (5 + t)) (r (5 + t) + 1) (10 * e + c) = r c := fun c hc => by rw [pk_un (by omega)]; exact hr' c hc
    have fr : ∀ i, i < 10 → ∀ v j, j < 10 * (e + 1) ∨ 10 * (e + 2) ≤ j → upd (upd a (10 * (e + 1) + (5 + t)) (r (5 + t) + 1)) (10 * (e + 1) + i) v j = pa j := by
      intro i hi v j hj
      rw [pk_un (by omega), pk_un (by omega)]; exact h2 j (by omega)
    have fin : ∀ i, i < 10 → ∀ v, rr_st ks os t r = upd (upd r (5 + t) (r (5 + t) + 1)) i v → post (ec, fx, sz, ks, os, hi, et, ek, eo, mb, kb, oc, (upd (upd a (10 * (e + 1) + (5 + t)) (r (5 + t) + 1)) (10 * (e + 1) + i) v), nt, fo) := by
      intro i hi v hst
      exact H _ (fun c hc => by rw [hst]; exact rr_gl g5 c hc) (fr i hi v)
    refine br_t (show (10 : Int32) ≤ nI 10 by decide) (xs_nop_path hP hR (by omega) ht hr' ?_)
    refine ⟨pk_in _ _ ho rfl, nm_r (congrArg os c2) ⟨pk_in _ _ (by omega) e5, pk_in _ _ (by omega) e5, nm_r u5 ⟨pk_in _ _ ho rfl, nm_r (congrArg ks c2) ?_⟩⟩⟩
    rcases rr_views hP hR ht hl with ⟨hk, hx, ex⟩ | ⟨hk, hx, ex⟩ | hk | ⟨hk, hx, ex⟩ | ⟨hk, hx, ex⟩
    · rw [hk, ex]
      have i1 : nI (10 * e) + nI (rr_ox os t r) = nI (10 * e + rr_ox os t r) := nI_add _ _
      refine br_f (by decide) (br_f (by decide) (br_t rfl ⟨pk_in _ _ (by omega) i1, pk_in _ _ (by omega) e2, nm_r ?_ (fin (2 + t) (by omega) (r (rr_ox os t r)) (rr_st0 hk))⟩))
      rw [e2, i1, nI_clamp (by omega), nI_clamp (by omega), g5' _ (by omega)]
    · rw [hk, ex]
      have i1 : nI (10 * (e + 1)) + nI (rr_ox os t r) = nI (10 * (e + 1) + rr_ox os t r) := nI_add _ _
      refine br_f (by decide) (br_f (by decide) (br_f (by decide) (br_t rfl ⟨pk_in _ _ (by omega) e2', pk_in _ _ (by omega) i1, nm_r ?_ (fin (rr_ox os t r) (by omega) (r (2 + t)) (rr_st1 hk))⟩)))
      rw [e2', i1, nI_clamp (by omega), nI_clamp (by omega), g5' _ (by omega)]
    · rw [hk]
      refine br_f (by decide) (br_f (by decide) (br_f (by decide) (br_f (by decide) (br_t rfl ⟨pk_in _ _ (by omega) e2, pk_in _ _ (by omega) e2, nm_r ?_ (fin (2 + t) (by omega) (r (2 + t) + os (rr_op t r)) (rr_st2 hk))⟩))))
      rw [e2, nI_clamp (by omega), g5 _ (by omega), pk_un (by omega)]
    · rw [hk, ex]
      have i1 : nI (10 * (e + 1)) + 8 + nI (rr_ox os t r) = nI (10 * (e + 1) + (8 + rr_ox os t r)) := rr_iy8 _ _
      refine br_f (by decide) (br_f (by decide) (br_f (by decide) (br_f (by decide) (br_f (by decide) (br_t rfl ⟨pk_in _ _ (by omega) i1, nm_r ?_ (fin (8 + rr_ox os t r) (by omega) (nI t) (rr_st3 hk))⟩)))))
      rw [i1, nI_clamp (by omega)]
    · rw [hk, ex]
      have i1 : nI (10 * (e + 1)) + 8 + nI (rr_ox os t r) = nI (10 * (e + 1) + (8 + rr_ox os t r)) := rr_iy8 _ _
      refine br_f (by decide) (br_t (by decide) ⟨pk_in _ _ (by omega) i1, nm_r ?_ (fin (8 + rr_ox os t r) (by omega) (-1000000004) (rr_st4 hk))⟩)
      rw [i1, nI_clamp (by omega)]
  · intro n i a hil ⟨h1, h2⟩ ih
    have i1 : nI (10 * e) + nI i = nI (10 * e + i) := nI_add _ _
    have i2 : nI (10 * (e + 1)) + nI i = nI (10 * (e + 1) + i) := nI_add _ _
    refine br_f (nI_ge (b := 10) hil (by decide)) ⟨pk_in _ _ (by omega) i1, pk_in _ _ (by omega) i2, nm_r (show _ = upd a (10 * (e + 1) + i) (pa (10 * e + i)) by rw [i1, i2, nI_clamp (by omega), nI_clamp (by omega), h2 _ (by omega)]) (nm_r (nI_1 i) (ih _ ⟨fun c hc => ?_, fun j hj => ?_⟩))⟩
    · rcases Nat.decEq c i with z | z
      · rw [pk_un (by omega)]; exact h1 c (by omega)
      · rw [z, pk_us]
    · rw [pk_un (by omega)]; exact h2 j (by omega)
end
end
section
def rr_hm (x : Int32) : Int32 := if x = -1000000004 then -1 else x
theorem rr_hm0 : rr_hm (-1000000004) = -1 := if_pos rfl
theorem rr_none_ne : ∀ t, t < 3 → ¬ nI t = -1000000004 := by decide +kernel
theorem rr_m1_ne : ∀ t, t < 3 → ¬ nI t = -1 := by decide +kernel
theorem rr_hmt {t : Nat} (h : t < 3) : rr_hm (nI t) = nI t := if_neg (rr_none_ne t h)
def rr_Hd (x : Int32) : Prop := x = -1000000004 ∨ ∃ t, t < 3 ∧ x = nI t
theorem rr_hm_n {x : Int32} (h : rr_Hd x) : rr_hm x = -1 ↔ x = -1000000004 := by
  rcases h with rfl | ⟨t, ht, rfl⟩
  · rw [rr_hm0]; simp
  · rw [rr_hmt ht]
    exact ⟨fun z => absurd z (rr_m1_ne t ht), fun z => absurd z (rr_none_ne t ht)⟩
theorem rr_hm_t {x : Int32} {t : Nat} (ht : t < 3) (h : rr_Hd x) : rr_hm x = nI t ↔ x = nI t := by
  rcases h with rfl | ⟨s, hs, rfl⟩
  · rw [rr_hm0]
    exact ⟨fun z => absurd z.symm (rr_m1_ne t ht), fun z => absurd z.symm (rr_none_ne t ht)⟩
  · rw [rr_hmt hs]
def rr_Yr (r va rg ho pl : Nat → Int32) : Prop := (∀ v, v < 2 → va v = r v) ∧ (∀ t, t < 3 → rg t = r (2 + t) ∧ pl t = r (5 + t)) ∧ ∀ m, m < 2 → ho m = rr_hm (r (8 + m))
def rr_Ol (ks os : Nat → Int32) (t : Nat) (r : Nat → Int32) (o : Int32) : Prop := (ks (rr_op t r) = 0 ∨ ks (rr_op t r) = 2 → o = r (2 + t)) ∧ (ks (rr_op t r) = 1 → o = r (rr_ox os t r))
theorem rr_and1 : ∀ x, x < 2 → (nI x &&& 1) = nI x := by decide +kernel
section
variable {cn fy dy : Int32} {ks os sz bg va rg ho pl dn ol rl sm kp tr fd : Nat → Int32}
variable {S p : Nat → Nat} {r : Nat → Int32} {e t : Nat}
theorem ys_in_f {x : Int32} {b : Nat} (hb : b + 1 < 2 ^ 31) (hx : x < 0 ∨ nI (b + 1) ≤ x) {post : Int32 → Prop} {u : SY} (h : post 0) : wpY_isIn post u x (nI b) := by
  unfold wpY_isIn
  by_cases z : x < 0
  · exact br_t z h
  · refine br_f z ?_
    rcases hx with y | y
    · exact absurd y z
    · obtain ⟨j, hj, rfl⟩ := nI_of z
      rw [nI_leI hb hj] at y
      exact br_t (nI_lt (by omega) hj) h
theorem ys_in_t {j b : Nat} (hb : b < 2 ^ 31) (hj : j ≤ b) {post : Int32 → Prop} {u : SY} (h : post 1) : wpY_isIn post u (nI j) (nI b) := by
  unfold wpY_isIn
  exact br_f (nI_pos (by omega)) (br_f (nI_nlt hj hb) h)
theorem ys_en (hP : rr_Pg sz ks os S) (hR : rr_Rk S r p) (ht : t < 3) (hY : rr_Yr r va rg ho pl) {post : Int32 → Prop} (h : post (rr_b (rr_en sz ks os t r))) : wpY_isEnabled post (cn, fy, dy, ks, os, sz, bg, va, rg, ho, pl, dn, ol, rl, sm, kp, tr, fd) (nI t) := by
  have hS := rr_S4 hP ht
  have hp := rr_p4 hP hR ht
  have ct : (nI t).toNatClampNeg = t := nI_clamp (by omega)
  have c1 : pl (nI t).toNatClampNeg = r (5 + t) := by rw [ct]; exact (hY.2.1 t ht).2
  have vt : vp_in (nI t) 3 := pk_in t 3 ht rfl
  refine ⟨vt, vt, ?_⟩
  rw [c1, ct]
  have hiff : r (5 + t) = sz t ↔ ¬ r (5 + t) < sz t := by
    rw [rr_lt hP hR ht, (hP.1 t ht).1, (hR.1 t ht).1, nI_eq (by omega) (by omega)]
    have := (hR.1 t ht).2
    omega
  by_cases hl : r (5 + t) < sz t
  · have e2 : 4 * nI t + r (5 + t) = nI (rr_op t r) := by
      rw [rr_opN hP hR ht, (hR.1 t ht).1, show (4 : Int32) = nI 4 from rfl, pk_mul, nI_add]
    have ho' := rr_op12 hP hR ht hl
    have c2 : (nI (rr_op t r)).toNatClampNeg = rr_op t r := nI_clamp (by omega)
    refine br_f (fun z => (hiff.mp z) hl) ?_
    rw [e2]
    have vo : vp_in (nI (rr_op t r)) 12 := pk_in _ _ ho' rfl
    refine ⟨vt, vo, nm_r (congrArg ks c2) ⟨vt, vo, nm_r (congrArg os c2) ?_⟩⟩
    rcases rr_views hP hR ht hl with ⟨hk, hx, ex⟩ | ⟨hk, hx, ex⟩ | hk | ⟨hk, hx, ex⟩ | ⟨hk, hx, ex⟩
    · rw [rr_en_o hl (by rw [hk]; decide) (by rw [hk]; decide)] at h
      exact br_t (by rw [hk]; decide) h
    · rw [rr_en_o hl (by rw [hk]; decide) (by rw [hk]; decide)] at h
      exact br_t (by rw [hk]; decide) h
    · rw [rr_en_o hl (by rw [hk]; decide) (by rw [hk]; decide)] at h
      exact br_t (by rw [hk]; decide) h
    · have c3 : ho (nI (rr_ox os t r)).toNatClampNeg = rr_hm (r (8 + rr_ox os t r)) := by rw [nI_clamp (by omega)]; exact hY.2.2 _ hx
      rw [ex, rr_and1 _ hx, c3]
      refine br_f (by rw [hk]; decide) ⟨pk_in _ 2 hx rfl, br_t hk ?_⟩
      rw [rr_en_l hl hk] at h
      have q := rr_hm_n (hR.2 _ hx)
      by_cases z : r (8 + rr_ox os t r) = -1000000004
      · rw [decide_eq_true z] at h; exact br_t (q.mpr z) h
      · rw [decide_eq_false z] at h; exact br_f (fun y => z (q.mp y)) h
    · have c3 : ho (nI (rr_ox os t r)).toNatClampNeg = rr_hm (r (8 + rr_ox os t r)) := by rw [nI_clamp (by omega)]; exact hY.2.2 _ hx
      rw [ex, rr_and1 _ hx, c3]
      refine br_f (by rw [hk]; decide) ⟨pk_in _ 2 hx rfl, br_f (by rw [hk]; decide) ?_⟩
      rw [rr_en_u hl hk] at h
      have q := rr_hm_t ht (hR.2 _ hx)
      by_cases z : r (8 + rr_ox os t r) = nI t
      · rw [decide_eq_true z] at h; exact br_t (q.mpr z) h
      · rw [decide_eq_false z] at h; exact br_f (fun y => z (q.mp y)) h
  · rw [rr_en_no hl] at h
    exact br_t (hiff.mpr hl) h
theorem rr_pl_up (hY : rr_Yr r va rg ho pl) (ht : t < 3) {i : Nat} {v : Int32} (hi : i < 5 ∨ 8 ≤ i) {s : Nat} (hs : s < 3) : upd pl t (pl t + 1) s = upd (upd r (5 + t) (r (5 + t) + 1)) i v (5 + s) := by
  rw [pk_un (show 5 + s ≠ i by omega)]
  rcases Nat.decEq s t with z | z
  · rw [pk_un z, pk_un (by omega)]; exact (hY.2.1 s hs).2
  · rw [z, pk_us, pk_us, (hY.2.1 t ht).2]
theorem ys_go146 (ht : t < 3) {post : SY → Prop} (H : post (nI (e + 1), fy, dy, ks, os, sz, bg, va, rg, ho, upd pl t (pl t + 1), dn, ol, rl, sm, kp, tr, fd)) : wY_go_146 post (nI t) (nI e) fy dy ks os sz bg va rg ho pl dn ol rl sm kp tr fd := by
  have ct : (nI t).toNatClampNeg = t := nI_clamp (by omega)
  have vt : vp_in (nI t) 3 := pk_in t 3 ht rfl
  exact ⟨vt, vt, nm_r (by rw [ct]) (nm_r (nI_1 e) H)⟩
theorem ys_go (hP : rr_Pg sz ks os S) (hR : rr_Rk S r p) (ht : t < 3) (hen : rr_en sz ks os t r = true) (he : e < 8) (hY : rr_Yr r va rg ho pl) {post : SY → Prop}
    (H : ∀ va' rg' ho' pl' dn' ol', rr_Yr (rr_st ks os t r) va' rg' ho' pl' → dn' e = nI (rr_op t r) → rr_Ol ks os t r (ol' e) → (∀ j, j ≠ e → dn' j = dn j ∧ ol' j = ol j) → post (nI (e + 1), fy, dy, ks, os, sz, bg, va', rg', ho', pl', dn', ol', rl, sm, kp, tr, fd)) : wpY_go post (nI e, fy, dy, ks, os, sz, bg, va, rg, ho, pl, dn, ol, rl, sm, kp, tr, fd) (nI t) := by
  have hl := rr_en_lt hen
  have hp := rr_p4 hP hR ht
  have ct : (nI t).toNatClampNeg = t := nI_clamp (by omega)
  have ce : (nI e).toNatClampNeg = e := nI_clamp (by omega)
  have vt : vp_in (nI t) 3 := pk_in t 3 ht rfl
  have ve : vp_in (nI e) 8 := pk_in e 8 he rfl
  have e2 : 4 * nI t + pl (nI t).toNatClampNeg = nI (rr_op t r) := by
    rw [ct, (hY.2.1 t ht).2, rr_opN hP hR ht, (hR.1 t ht).1, show (4 : Int32) = nI 4 from rfl, pk_mul, nI_add]
  have ho' := rr_op12 hP hR ht hl
  have c2 : (nI (rr_op t r)).toNatClampNeg = rr_op t r := nI_clamp (by omega)
  have vo : vp_in (nI (rr_op t r)) 12 := pk_in _ _ ho' rfl
  have fr : ∀ (a : Nat → Int32) v j, j ≠ e → upd a e v j = a j := fun a v j h => pk_un h
  refine ⟨vt, nm_r e2 ⟨vo, nm_r (congrArg ks c2) ⟨vo, nm_r (congrArg os c2) ⟨ve, nm_r (show _ = upd dn e (nI (rr_op t r)) by rw [ce]) ?_⟩⟩⟩⟩
  rcases rr_views hP hR ht hl with ⟨hk, hx, ex⟩ | ⟨hk, hx, ex⟩ | hk | ⟨hk, hx, ex⟩ | ⟨hk, hx, ex⟩
  · refine br_t hk ⟨vt, ve, nm_r (show _ = upd ol e (r (2 + t)) by rw [ce, ct, (hY.2.1 t ht).1]) (br_t hk ⟨by rw [ex]; exact pk_in _ _ hx rfl, vt, nm_r (show _ = upd rg t (r (rr_ox os t r)) by rw [ct, ex, nI_clamp (by omega), hY.1 _ hx]) (ys_go146 ht (H _ _ _ _ _ _ ?_ pk_us ?_ ?_))⟩)⟩
    · rw [rr_st0 hk]
      refine ⟨fun v hv => ?_, fun s hs => ⟨?_, rr_pl_up hY ht (by omega) hs⟩, fun m hm => ?_⟩
      · rw [pk_un (by omega), pk_un (by omega)]; exact hY.1 v hv
      · rcases Nat.decEq s t with z | z
        · rw [pk_un z, pk_un (by omega), pk_un (by omega)]; exact (hY.2.1 s hs).1
        · rw [z, pk_us, pk_us]
      · rw [pk_un (by omega), pk_un (by omega)]; exact hY.2.2 m hm
    · exact ⟨fun _ => pk_us, fun z => by rw [hk] at z; exact absurd z (by decide)⟩
    · exact fun j hj => ⟨fr _ _ _ hj, fr _ _ _ hj⟩
  · refine br_f (by rw [hk]; decide) (br_f (by rw [hk]; decide) (br_t hk ⟨by rw [ex]; exact pk_in _ _ hx rfl, ve, nm_r (show _ = upd ol e (r (rr_ox os t r)) by rw [ce, ex, nI_clamp (by omega), hY.1 _ hx]) ⟨vt, by rw [ex]; exact pk_in _ _ hx rfl, nm_r (show _ = upd va (rr_ox os t r) (r (2 + t)) by rw [ct, ex, nI_clamp (by omega), (hY.2.1 t ht).1]) (ys_go146 ht (H _ _ _ _ _ _ ?_ pk_us ?_ ?_))⟩⟩))
    · rw [rr_st1 hk]
      refine ⟨fun v hv => ?_, fun s hs => ⟨?_, rr_pl_up hY ht (by omega) hs⟩, fun m hm => ?_⟩
      · rcases Nat.decEq v (rr_ox os t r) with z | z
        · rw [pk_un z, pk_un z, pk_un (by omega)]; exact hY.1 v hv
        · rw [z, pk_us, pk_us]
      · rw [pk_un (by omega), pk_un (by omega)]; exact (hY.2.1 s hs).1
      · rw [pk_un (by omega), pk_un (by omega)]; exact hY.2.2 m hm
    · exact ⟨fun z => by rw [hk] at z; rcases z with y | y <;> exact absurd y (by decide), fun _ => pk_us⟩
    · exact fun j hj => ⟨fr _ _ _ hj, fr _ _ _ hj⟩
  · refine br_f (by rw [hk]; decide) (br_t hk ⟨vt, ve, nm_r (show _ = upd ol e (r (2 + t)) by rw [ce, ct, (hY.2.1 t ht).1]) (br_f (by rw [hk]; decide) ⟨vt, vt, nm_r (show _ = upd rg t (r (2 + t) + os (rr_op t r)) by rw [ct, (hY.2.1 t ht).1]) (ys_go146 ht (H _ _ _ _ _ _ ?_ pk_us ?_ ?_))⟩)⟩)
    · rw [rr_st2 hk]
      refine ⟨fun v hv => ?_, fun s hs => ⟨?_, rr_pl_up hY ht (by omega) hs⟩, fun m hm => ?_⟩
      · rw [pk_un (by omega), pk_un (by omega)]; exact hY.1 v hv
      · rcases Nat.decEq s t with z | z
        · rw [pk_un z, pk_un (by omega), pk_un (by omega)]; exact (hY.2.1 s hs).1
        · rw [z, pk_us, pk_us]
      · rw [pk_un (by omega), pk_un (by omega)]; exact hY.2.2 m hm
    · exact ⟨fun _ => pk_us, fun z => by rw [hk] at z; exact absurd z (by decide)⟩
    · exact fun j hj => ⟨fr _ _ _ hj, fr _ _ _ hj⟩
  · refine br_f (by rw [hk]; decide) (br_f (by rw [hk]; decide) (br_f (by rw [hk]; decide) (br_t hk ⟨by rw [ex]; exact pk_in _ _ hx rfl, nm_r (show _ = upd ho (rr_ox os t r) (nI t) by rw [ex, nI_clamp (by omega)]) (ys_go146 ht (H _ _ _ _ _ _ ?_ pk_us ?_ ?_))⟩)))
    · rw [rr_st3 hk]
      refine ⟨fun v hv => ?_, fun s hs => ⟨?_, rr_pl_up hY ht (by omega) hs⟩, fun m hm => ?_⟩
      · rw [pk_un (by omega), pk_un (by omega)]; exact hY.1 v hv
      · rw [pk_un (by omega), pk_un (by omega)]; exact (hY.2.1 s hs).1
      · rcases Nat.decEq m (rr_ox os t r) with z | z
        · rw [pk_un z, pk_un (by omega), pk_un (by omega)]; exact hY.2.2 m hm
        · rw [z, pk_us, pk_us, rr_hmt ht]
    · exact ⟨fun z => by rw [hk] at z; rcases z with y | y <;> exact absurd y (by decide), fun z => by rw [hk] at z; exact absurd z (by decide)⟩
    · exact fun j hj => ⟨fr _ _ _ hj, rfl⟩
  · refine br_f (by rw [hk]; decide) (br_f (by rw [hk]; decide) (br_f (by rw [hk]; decide) (br_f (by rw [hk]; decide) ⟨by rw [ex]; exact pk_in _ _ hx rfl, nm_r (show _ = upd ho (rr_ox os t r) (-1) by rw [ex, nI_clamp (by omega)]) (ys_go146 ht (H _ _ _ _ _ _ ?_ pk_us ?_ ?_))⟩)))
    · rw [rr_st4 hk]
      refine ⟨fun v hv => ?_, fun s hs => ⟨?_, rr_pl_up hY ht (by omega) hs⟩, fun m hm => ?_⟩
      · rw [pk_un (by omega), pk_un (by omega)]; exact hY.1 v hv
      · rw [pk_un (by omega), pk_un (by omega)]; exact (hY.2.1 s hs).1
      · rcases Nat.decEq m (rr_ox os t r) with z | z
        · rw [pk_un z, pk_un (by omega), pk_un (by omega)]; exact hY.2.2 m hm
        · rw [z, pk_us, pk_us, rr_hm0]
    · exact ⟨fun z => by rw [hk] at z; rcases z with y | y <;> exact absurd y (by decide), fun z => by rw [hk] at z; exact absurd z (by decide)⟩
    · exact fun j hj => ⟨fr _ _ _ hj, rfl⟩
theorem rr_pl_dn {i : Nat} {v : Int32} (hpl : ∀ s, s < 3 → pl s = upd (upd r (5 + t) (r (5 + t) + 1)) i v (5 + s)) (ht : t < 3) (hi : i < 5 ∨ 8 ≤ i) {s : Nat} (hs : s < 3) : upd pl t (pl t - 1) s = r (5 + s) := by
  rcases Nat.decEq s t with z | z
  · rw [pk_un z, hpl s hs, pk_un (by omega), pk_un (by omega)]
  · rw [z, pk_us, hpl t ht, pk_un (by omega), pk_us, Int32.add_sub_cancel]
theorem ys_un107 (ht : t < 3) {post : Int32 → SY → Prop} (H : post (nI t) (cn, fy, dy, ks, os, sz, bg, va, rg, ho, upd pl t (pl t - 1), dn, ol, rl, sm, kp, tr, fd)) : wY_undo_107 post (nI t) cn fy dy ks os sz bg va rg ho pl dn ol rl sm kp tr fd := by
  have ct : (nI t).toNatClampNeg = t := nI_clamp (by omega)
  have vt : vp_in (nI t) 3 := pk_in t 3 ht rfl
  exact ⟨vt, vt, nm_r (by rw [ct]) H⟩
theorem ys_undo (hP : rr_Pg sz ks os S) (hR : rr_Rk S r p) (ht : t < 3) (hen : rr_en sz ks os t r = true) (he : e < 8) (hY : rr_Yr (rr_st ks os t r) va rg ho pl) (hd : dn e = nI (rr_op t r)) (hol : rr_Ol ks os t r (ol e)) {post : Int32 → SY → Prop}
    (H : ∀ va' rg' ho' pl', rr_Yr r va' rg' ho' pl' → post (nI t) (nI e, fy, dy, ks, os, sz, bg, va', rg', ho', pl', dn, ol, rl, sm, kp, tr, fd)) : wpY_undo post (nI (e + 1), fy, dy, ks, os, sz, bg, va, rg, ho, pl, dn, ol, rl, sm, kp, tr, fd) := by
  have hl := rr_en_lt hen
  have hp := (rr_lt hP hR ht).mp hl
  have hS := rr_S4 hP ht
  have ct : (nI t).toNatClampNeg = t := nI_clamp (by omega)
  have ce : (nI e).toNatClampNeg = e := nI_clamp (by omega)
  have vt : vp_in (nI t) 3 := pk_in t 3 ht rfl
  have ve : vp_in (nI e) 8 := pk_in e 8 he rfl
  have ho' := rr_op12 hP hR ht hl
  have c2 : (nI (rr_op t r)).toNatClampNeg = rr_op t r := nI_clamp (by omega)
  have vo : vp_in (nI (rr_op t r)) 12 := pk_in _ _ ho' rfl
  have e4 : nI (rr_op t r) / 4 = nI t := by
    rw [show (4 : Int32) = nI 4 from rfl, pk_div (by omega) (by omega) (by omega), rr_opN hP hR ht]
    exact congrArg nI (by omega)
  refine nm_r (nI_pred e) ⟨ve, nm_r (show _ = nI (rr_op t r) by rw [ce]; exact hd) ⟨by decide, nm_r e4 ⟨vo, nm_r (congrArg ks c2) ⟨vo, nm_r (congrArg os c2) ?_⟩⟩⟩⟩
  rcases rr_views hP hR ht hl with ⟨hk, hx, ex⟩ | ⟨hk, hx, ex⟩ | hk | ⟨hk, hx, ex⟩ | ⟨hk, hx, ex⟩
  · rw [rr_st0 hk] at hY
    refine br_t hk ⟨ve, vt, nm_r (show _ = upd rg t (r (2 + t)) by rw [ct, ce, hol.1 (Or.inl hk)]) (ys_un107 ht (H _ _ _ _ ⟨fun v hv => ?_, fun s hs => ⟨?_, rr_pl_dn (fun s hs => (hY.2.1 s hs).2) ht (by omega) hs⟩, fun m hm => ?_⟩))⟩
    · rw [hY.1 v hv, pk_un (by omega), pk_un (by omega)]
    · rcases Nat.decEq s t with z | z
      · rw [pk_un z, (hY.2.1 s hs).1, pk_un (by omega), pk_un (by omega)]
      · rw [z, pk_us]
    · rw [hY.2.2 m hm, pk_un (by omega), pk_un (by omega)]
  · rw [rr_st1 hk] at hY
    refine br_f (by rw [hk]; decide) (br_f (by rw [hk]; decide) (br_t hk ⟨ve, by rw [ex]; exact pk_in _ _ hx rfl, nm_r (show _ = upd va (rr_ox os t r) (r (rr_ox os t r)) by rw [ce, ex, nI_clamp (by omega), hol.2 hk]) (ys_un107 ht (H _ _ _ _ ⟨fun v hv => ?_, fun s hs => ⟨?_, rr_pl_dn (fun s hs => (hY.2.1 s hs).2) ht (by omega) hs⟩, fun m hm => ?_⟩))⟩))
    · rcases Nat.decEq v (rr_ox os t r) with z | z
      · rw [pk_un z, hY.1 v hv, pk_un z, pk_un (by omega)]
      · rw [z, pk_us]
    · rw [(hY.2.1 s hs).1, pk_un (by omega), pk_un (by omega)]
    · rw [hY.2.2 m hm, pk_un (by omega), pk_un (by omega)]
  · rw [rr_st2 hk] at hY
    refine br_f (by rw [hk]; decide) (br_t hk ⟨ve, vt, nm_r (show _ = upd rg t (r (2 + t)) by rw [ct, ce, hol.1 (Or.inr hk)]) (ys_un107 ht (H _ _ _ _ ⟨fun v hv => ?_, fun s hs => ⟨?_, rr_pl_dn (fun s hs => (hY.2.1 s hs).2) ht (by omega) hs⟩, fun m hm => ?_⟩))⟩)
    · rw [hY.1 v hv, pk_un (by omega), pk_un (by omega)]
    · rcases Nat.decEq s t with z | z
      · rw [pk_un z, (hY.2.1 s hs).1, pk_un (by omega), pk_un (by omega)]
      · rw [z, pk_us]
    · rw [hY.2.2 m hm, pk_un (by omega), pk_un (by omega)]
  · rw [rr_st3 hk] at hY
    refine br_f (by rw [hk]; decide) (br_f (by rw [hk]; decide) (br_f (by rw [hk]; decide) (br_t hk ⟨by rw [ex]; exact pk_in _ _ hx rfl, nm_r (show _ = upd ho (rr_ox os t r) (-1) by rw [ex, nI_clamp (by omega)]) (ys_un107 ht (H _ _ _ _ ⟨fun v hv => ?_, fun s hs => ⟨?_, rr_pl_dn (fun s hs => (hY.2.1 s hs).2) ht (by omega) hs⟩, fun m hm => ?_⟩))⟩)))
    · rw [hY.1 v hv, pk_un (by omega), pk_un (by omega)]
    · rw [(hY.2.1 s hs).1, pk_un (by omega), pk_un (by omega)]
    · rcases Nat.decEq m (rr_ox os t r) with z | z
      · rw [pk_un z, hY.2.2 m hm, pk_un (by omega), pk_un (by omega)]
      · rw [z, pk_us, rr_en_3 hen hk, rr_hm0]
  · rw [rr_st4 hk] at hY
    refine br_f (by rw [hk]; decide) (br_f (by rw [hk]; decide) (br_f (by rw [hk]; decide) (br_f (by rw [hk]; decide) ⟨by rw [ex]; exact pk_in _ _ hx rfl, nm_r (show _ = upd ho (rr_ox os t r) (nI t) by rw [ex, nI_clamp (by omega)]) (ys_un107 ht (H _ _ _ _ ⟨fun v hv => ?_, fun s hs => ⟨?_, rr_pl_dn (fun s hs => (hY.2.1 s hs).2) ht (by omega) hs⟩, fun m hm => ?_⟩))⟩)))
    · rw [hY.1 v hv, pk_un (by omega), pk_un (by omega)]
    · rw [(hY.2.1 s hs).1, pk_un (by omega), pk_un (by omega)]
    · rcases Nat.decEq m (rr_ox os t r) with z | z
      · rw [pk_un z, hY.2.2 m hm, pk_un (by omega), pk_un (by omega)]
      · rw [z, pk_us, rr_en_4 hen hk, rr_hmt ht]
theorem ys_next (hP : rr_Pg sz ks os S) (hR : rr_Rk S r p) (hY : rr_Yr r va rg ho pl) {x : Int32} (hx : x + 1 = nI t) (ht : t ≤ 3) {post : Int32 → Prop}
    (H : ∀ t', t ≤ t' → t' ≤ 3 → (∀ s, t ≤ s → s < t' → rr_en sz ks os s r = false) → (t' < 3 → rr_en sz ks os t' r = true) → post (nI t')) : wpY_nextEnabled post (cn, fy, dy, ks, os, sz, bg, va, rg, ho, pl, dn, ol, rl, sm, kp, tr, fd) x := by
  refine nm_r hx ⟨4, ?_⟩
  have key : ∀ j t, t + j = 3 → (∀ t', t ≤ t' → t' ≤ 3 → (∀ s, t ≤ s → s < t' → rr_en sz ks os s r = false) → (t' < 3 → rr_en sz ks os t' r = true) → post (nI t')) → ∀ n, j < n → wY_nextEnabled_4 post cn fy dy ks os sz bg va rg ho pl dn ol rl sm kp tr fd n (nI t) := by
    intro j
    induction j with
    | zero =>
      intro t hj H n hn
      obtain ⟨n, rfl⟩ : ∃ m, n = m + 1 := ⟨n - 1, by omega⟩
      obtain rfl : t = 3 := by omega
      exact br_t (show (3 : Int32) ≤ nI 3 by decide) (H 3 (by omega) (by omega) (fun s h1 h2 => by omega) (fun z => by omega))
    | succ j ih =>
      intro t hj H n hn
      obtain ⟨n, rfl⟩ : ∃ m, n = m + 1 := ⟨n - 1, by omega⟩
      refine br_f (rr_lt3 (by omega)) (ys_en hP hR (by omega) hY (rr_bd (fun z => ?_) (fun z => ?_)))
      · refine nm_r (nI_1 t) (ih (t + 1) (by omega) (fun t' h1 h2 h3 h4 => H t' (by omega) h2 (fun s h5 h6 => ?_) h4) n (by omega))
        rcases Nat.decEq s t with y | y
        · exact h3 s (by omega) h6
        · rw [y]; exact z
      · exact H t (by omega) (by omega) (fun s h1 h2 => by omega) (fun _ => z)
  exact key (3 - t) t (by omega) H 4 (by omega)
end
end
section
def rr_left (sz r : Nat → Int32) : Int32 := 8 * (8 * (8 * 0 + sz 0 - r 5) + sz 1 - r 6) + sz 2 - r 7
def rr_pt (sz r : Nat → Int32) (n : Nat) : Int32 := if n < 5 then r n else rr_left sz r
def rr_dead (sz : Nat → Int32) (o : Nat → Int32) : Bool := decide (¬ rr_left sz o ≤ 0)
def rr_dd (sz : Nat → Int32) (acc : List (Nat → Int32)) : Nat := acc.countP (rr_dead sz)
def rr_Fx (acc : List (Nat → Int32)) (fo : Nat → Int32) : Prop := ∀ k o, acc[k]? = some o → ∀ c, c < 8 → fo (8 * k + c) = o c
def rr_Fy (sz : Nat → Int32) (acc : List (Nat → Int32)) (fd : Nat → Int32) : Prop := ∀ k o, acc[k]? = some o → ∀ n, n < 6 → fd (6 * k + n) = rr_pt sz o n
def rr_Fo (S : Nat → Nat) (acc : List (Nat → Int32)) : Prop := ∀ o, o ∈ acc → ∃ p, rr_Rk S o p
section
variable {sz ks os : Nat → Int32} {S p p' : Nat → Nat} {r o : Nat → Int32} {acc : List (Nat → Int32)}
theorem rr_left_N (hP : rr_Pg sz ks os S) (hR : rr_Rk S r p) : rr_left sz r = nI (8 * (8 * (S 0 - p 0) + (S 1 - p 1)) + (S 2 - p 2)) := by
  have a0 := hP.1 0 (by omega)
  have a1 := hP.1 1 (by omega)
  have a2 := hP.1 2 (by omega)
  have b0 : r 5 = nI (p 0) ∧ p 0 ≤ S 0 := hR.1 0 (by omega)
  have b1 : r 6 = nI (p 1) ∧ p 1 ≤ S 1 := hR.1 1 (by omega)
  have b2 : r 7 = nI (p 2) ∧ p 2 ≤ S 2 := hR.1 2 (by omega)
  unfold rr_left
  rw [a0.1, a1.1, a2.1, b0.1, b1.1, b2.1, show (8 : Int32) * 0 = nI 0 from rfl, show (8 : Int32) = nI 8 from rfl, nI_add, pk_sub (by omega), pk_mul, nI_add, pk_sub (by omega), pk_mul, nI_add, pk_sub (by omega)]
  exact congrArg nI (by omega)
theorem rr_pt_same (hP : rr_Pg sz ks os S) (hR : rr_Rk S r p) (hO : rr_Rk S o p') : (∀ n, n < 6 → rr_pt sz o n = rr_pt sz r n) ↔ rr_same o r = true := by
  rw [rr_same_t]
  have s0 := rr_S4 hP (show 0 < 3 by omega)
  have s1 := rr_S4 hP (show 1 < 3 by omega)
  have s2 := rr_S4 hP (show 2 < 3 by omega)
  have b0 := hR.1 0 (by omega)
  have b1 := hR.1 1 (by omega)
  have b2 := hR.1 2 (by omega)
  have d0 := hO.1 0 (by omega)
  have d1 := hO.1 1 (by omega)
  have d2 := hO.1 2 (by omega)
  constructor
  · intro h
    have h5 : rr_left sz o = rr_left sz r := h 5 (by omega)
    rw [rr_left_N hP hR, rr_left_N hP hO, nI_eq (by omega) (by omega)] at h5
    have q0 : p' 0 = p 0 := by omega
    have q1 : p' 1 = p 1 := by omega
    have q2 : p' 2 = p 2 := by omega
    intro c hc
    rcases Nat.lt_or_ge c 5 with z | z
    · have := h c (by omega)
      unfold rr_pt at this
      rw [if_pos z, if_pos z] at this; exact this
    · rcases (show c = 5 + 0 ∨ c = 5 + 1 ∨ c = 5 + 2 by omega) with rfl | rfl | rfl
      · rw [b0.1, d0.1, q0]
      · rw [b1.1, d1.1, q1]
      · rw [b2.1, d2.1, q2]
  · intro h n hn
    unfold rr_pt rr_left
    rw [h n (by omega), h 5 (by omega), h 6 (by omega), h 7 (by omega)]
theorem rr_note_t (h : acc.any (fun o => rr_same o r) = true) : rr_note acc r = acc := if_pos h
theorem rr_note_f (h : ¬ acc.any (fun o => rr_same o r) = true) : rr_note acc r = acc ++ [r] := if_neg h
theorem rr_Fo_note (h : rr_Fo S acc) (hR : rr_Rk S r p) : rr_Fo S (rr_note acc r) := by
  by_cases z : acc.any (fun o => rr_same o r) = true
  · rw [rr_note_t z]; exact h
  · rw [rr_note_f z]
    intro o ho
    rcases List.mem_append.mp ho with y | y
    · exact h o y
    · rw [List.mem_singleton.mp y]; exact ⟨p, hR⟩
theorem rr_app {k : Nat} (h : (acc ++ [r])[k]? = some o) : (k < acc.length ∧ acc[k]? = some o) ∨ (k = acc.length ∧ o = r) := by
  rcases Nat.lt_or_ge k acc.length with z | z
  · rw [List.getElem?_append_left z] at h; exact Or.inl ⟨z, h⟩
  · rw [List.getElem?_append_right z] at h
    rcases Nat.decEq k acc.length with y | y
    · rw [List.getElem?_eq_none (by simp; omega)] at h; cases h
    · subst y
      rw [Nat.sub_self] at h
      exact Or.inr ⟨rfl, (Option.some.inj h).symm⟩
end
section
variable {cn fy dy : Int32} {ks os sz bg va rg ho pl dn ol rl sm kp tr fd : Nat → Int32}
variable {S p : Nat → Nat} {r : Nat → Int32} {acc : List (Nat → Int32)}
theorem ys_left (hY : rr_Yr r va rg ho pl) {post : Int32 → Prop} (h : post (rr_left sz r)) : wpY_leftOver post (cn, fy, dy, ks, os, sz, bg, va, rg, ho, pl, dn, ol, rl, sm, kp, tr, fd) := by
  have v0 : vp_in (nI 0) 3 := pk_in 0 3 (by omega) rfl
  have v1 : vp_in (nI 1) 3 := pk_in 1 3 (by omega) rfl
  have v2 : vp_in (nI 2) 3 := pk_in 2 3 (by omega) rfl
  have c0 : (nI 0).toNatClampNeg = 0 := nI_clamp (by omega)
  have c1 : (nI 1).toNatClampNeg = 1 := nI_clamp (by omega)
  have c2 : (nI 2).toNatClampNeg = 2 := nI_clamp (by omega)
  have p0 : pl 0 = r 5 := (hY.2.1 0 (by omega)).2
  have p1 : pl 1 = r 6 := (hY.2.1 1 (by omega)).2
  have p2 : pl 2 = r 7 := (hY.2.1 2 (by omega)).2
  have s2 : ∀ x, post (8 * x + sz 2 - r 7) → wY_leftOver_4 post cn fy dy ks os sz bg va rg ho pl dn ol rl sm kp tr fd 2 x (nI 2) := fun x h => br_f (rr_lt3 (by omega)) ⟨v2, v2, nm_r (show _ = 8 * x + sz 2 - r 7 by rw [c2, p2]) (nm_r (nI_1 2) (br_t (by decide) h))⟩
  have s1 : ∀ x, post (8 * (8 * x + sz 1 - r 6) + sz 2 - r 7) → wY_leftOver_4 post cn fy dy ks os sz bg va rg ho pl dn ol rl sm kp tr fd 3 x (nI 1) := fun x h => br_f (rr_lt3 (by omega)) ⟨v1, v1, nm_r (show _ = 8 * x + sz 1 - r 6 by rw [c1, p1]) (nm_r (nI_1 1) (s2 _ h))⟩
  have s0 : ∀ x, post (8 * (8 * (8 * x + sz 0 - r 5) + sz 1 - r 6) + sz 2 - r 7) → wY_leftOver_4 post cn fy dy ks os sz bg va rg ho pl dn ol rl sm kp tr fd 4 x (nI 0) := fun x h => br_f (rr_lt3 (by omega)) ⟨v0, v0, nm_r (show _ = 8 * x + sz 0 - r 5 by rw [c0, p0]) (nm_r (nI_1 0) (s1 _ h))⟩
  exact ⟨4, s0 0 h⟩
theorem ys_part (hY : rr_Yr r va rg ho pl) {n : Nat} (hn : n < 6) {post : Int32 → Prop} (h : post (rr_pt sz r n)) : wpY_part post (cn, fy, dy, ks, os, sz, bg, va, rg, ho, pl, dn, ol, rl, sm, kp, tr, fd) (nI n) := by
  unfold rr_pt at h
  rcases Nat.lt_or_ge n 2 with z | z
  · rw [if_pos (by omega)] at h
    refine br_f (nI_ge (b := 2) z (by decide)) ⟨pk_in n 2 z rfl, ?_⟩
    rw [nI_clamp (by omega), hY.1 n z]; exact h
  · refine br_t (nI_le (a := 2) z (by omega)) ?_
    rcases Nat.lt_or_ge n 5 with y | y
    · rw [if_pos y] at h
      have e1 : nI n - 2 = nI (n - 2) := pk_sub z
      refine br_f (nI_ge (b := 5) y (by decide)) ⟨pk_in (n - 2) 3 (by omega) e1, ?_⟩
      rw [e1, nI_clamp (by omega), (hY.2.1 (n - 2) (by omega)).1, show 2 + (n - 2) = n by omega]; exact h
    · rw [if_neg (by omega)] at h
      exact br_t (nI_le (a := 5) y (by omega)) (ys_left hY h)
theorem ys_n14 (hY : rr_Yr r va rg ho pl) {k : Nat} (hk : k < 700) {post : SY → Prop} {J : Int32 → Prop} : ∀ j i b, i + j = 6 → ((b = true ∧ ∀ n, i ≤ n → n < 6 → fd (6 * k + n) = rr_pt sz r n) → post (cn, fy, dy, ks, os, sz, bg, va, rg, ho, pl, dn, ol, rl, sm, kp, tr, fd)) → (¬ (b = true ∧ ∀ n, i ≤ n → n < 6 → fd (6 * k + n) = rr_pt sz r n) → J (nI (k + 1))) → wY_note_14 post J (nI k) cn fy dy ks os sz bg va rg ho pl dn ol rl sm kp tr fd (j + 1) (rr_b b) (nI i) := by
  intro j
  induction j with
  | zero =>
    intro i b hi h1 h2
    obtain rfl : i = 6 := by omega
    refine br_t (show (6 : Int32) ≤ nI 6 by decide) (rr_bd (fun z => nm_r (nI_1 k) (h2 (fun y => by rw [z] at y; cases y.1))) (fun z => h1 ⟨z, fun n h3 h4 => by omega⟩))
  | succ j ih =>
    intro i b hi h1 h2
    refine br_f (nI_ge (b := 6) (by omega) (by decide)) (ys_part hY (by omega) (rr_bd (fun z => nm_r (nI_1 i) ?_) (fun z => ?_)))
    · exact ih (i + 1) false (by omega) (fun y => by cases y.1) (fun _ => h2 (fun y => by rw [z] at y; cases y.1))
    · have e1 : 6 * nI k + nI i = nI (6 * k + i) := by rw [show (6 : Int32) = nI 6 from rfl, pk_mul, nI_add]
      refine ⟨pk_in _ _ (by omega) e1, ?_⟩
      rw [e1, nI_clamp (by omega)]
      by_cases q : fd (6 * k + i) = rr_pt sz r i
      · refine br_t q (nm_r (nI_1 i) (ih (i + 1) true (by omega) (fun y => h1 ⟨z, fun n h3 h4 => ?_⟩) (fun y => h2 (fun w => y ⟨rfl, fun n h3 h4 => w.2 n (by omega) h4⟩))))
        rcases Nat.decEq n i with v | v
        · exact y.2 n (by omega) h4
        · rw [v]; exact q
      · exact br_f q (nm_r (nI_1 i) (ih (i + 1) false (by omega) (fun y => by cases y.1) (fun _ => h2 (fun w => q (w.2 i (by omega) (by omega))))))
theorem ys_note (hP : rr_Pg sz ks os S) (hR : rr_Rk S r p) (hY : rr_Yr r va rg ho pl) (hF : rr_Fy sz acc fd) (hO : rr_Fo S acc) (hn : acc.length < 700) {post : SY → Prop}
    (H : ∀ fd', rr_Fy sz (rr_note acc r) fd' → post (cn, nI (rr_note acc r).length, nI (rr_dd sz (rr_note acc r)), ks, os, sz, bg, va, rg, ho, pl, dn, ol, rl, sm, kp, tr, fd')) : wpY_note post (cn, nI acc.length, nI (rr_dd sz acc), ks, os, sz, bg, va, rg, ho, pl, dn, ol, rl, sm, kp, tr, fd) := by
  have key : ∀ j k, k + j = acc.length → (∀ i o, i < k → acc[i]? = some o → ¬ rr_same o r = true) → wY_note_2 post cn (nI acc.length) (nI (rr_dd sz acc)) ks os sz bg va rg ho pl dn ol rl sm kp tr fd (j + 1) (nI k) := by
    intro j
    induction j with
    | zero =>
      intro k hk hs
      obtain rfl : k = acc.length := by omega
      have hf : ¬ acc.any (fun o => rr_same o r) = true := by
        intro z
        obtain ⟨o, ho, h⟩ := List.any_eq_true.mp z
        obtain ⟨i, hi, e⟩ := List.getElem_of_mem ho
        exact hs i o hi (by rw [List.getElem?_eq_getElem hi, e]) h
      refine br_t (nI_le (Nat.le_refl _) (by omega)) ?_
      rw [rr_note_f hf] at H
      refine loop_0 (fun n i a => wY_note_72 post cn (nI acc.length) (nI (rr_dd sz acc)) n (nI i) ks os sz bg va rg ho pl dn ol rl sm kp tr a) (fun i a => (∀ c, c < i → a (6 * acc.length + c) = rr_pt sz r c) ∧ ∀ j, j < 6 * acc.length → a j = fd j) 6 fd ⟨fun c hc => by omega, fun j _ => rfl⟩ ?_ ?_
      · intro n a ⟨h1, h2⟩
        have hF' : rr_Fy sz (acc ++ [r]) a := by
          intro k o ho n hn
          rcases rr_app ho with ⟨z, y⟩ | ⟨z, y⟩
          · rw [h2 _ (by omega)]; exact hF k o y n hn
          · rw [z, y]; exact h1 n hn
        have hl : (acc ++ [r]).length = acc.length + 1 := by simp
        have := H a hF'
        rw [hl] at this
        refine br_t (show (6 : Int32) ≤ nI 6 by decide) (nm_r (nI_1 acc.length) (ys_left hY ?_))
        have hd : rr_dd sz (acc ++ [r]) = rr_dd sz acc + if rr_dead sz r = true then 1 else 0 := by
          unfold rr_dd; rw [List.countP_append, List.countP_singleton]
        rw [hd] at this
        by_cases z : rr_left sz r ≤ 0
        · rw [if_neg (by unfold rr_dead; rw [decide_eq_false (fun y => y z)]; decide)] at this
          exact br_t z this
        · rw [if_pos (show rr_dead sz r = true from decide_eq_true z)] at this
          exact br_f z (nm_r (nI_1 _) this)
      · intro n i a hil ⟨h1, h2⟩ ih
        have e1 : 6 * nI acc.length + nI i = nI (6 * acc.length + i) := by rw [show (6 : Int32) = nI 6 from rfl, pk_mul, nI_add]
        refine br_f (nI_ge (b := 6) hil (by decide)) (ys_part hY hil ⟨pk_in _ _ (by omega) e1, nm_r (show _ = upd a (6 * acc.length + i) (rr_pt sz r i) by rw [e1, nI_clamp (by omega)]) (nm_r (nI_1 i) (ih _ ⟨fun c hc => ?_, fun j hj => ?_⟩))⟩)
        · rcases Nat.decEq c i with z | z
          · rw [pk_un (by omega)]; exact h1 c (by omega)
          · rw [z, pk_us]
        · rw [pk_un (by omega)]; exact h2 j hj
    | succ j ih =>
      intro k hk hs
      have hkl : k < acc.length := by omega
      obtain ⟨o, ho⟩ : ∃ o, acc[k]? = some o := ⟨_, List.getElem?_eq_getElem hkl⟩
      obtain ⟨p', hO'⟩ := hO o (List.mem_of_getElem? ho)
      have iff := rr_pt_same hP hR hO'
      have fe : (∀ n, 0 ≤ n → n < 6 → fd (6 * k + n) = rr_pt sz r n) ↔ rr_same o r = true := by
        rw [← iff]
        exact ⟨fun h n hn => by rw [← hF k o ho n hn]; exact h n (by omega) hn, fun h n _ hn => by rw [hF k o ho n hn]; exact h n hn⟩
      refine br_f (nI_ge hkl (by omega)) ⟨7, ys_n14 hY (by omega) 6 0 true (by omega) (fun h => ?_) (fun h => ?_)⟩
      · have hs := fe.mp h.2
        have ha : acc.any (fun o => rr_same o r) = true := List.any_eq_true.mpr ⟨o, List.mem_of_getElem? ho, hs⟩
        rw [rr_note_t ha] at H
        exact H fd hF
      · refine ih (k + 1) (by omega) (fun i o' hi ho' => ?_)
        rcases Nat.decEq i k with z | z
        · exact hs i o' (by omega) ho'
        · rw [z, ho] at ho'
          rw [← Option.some.inj ho']
          exact fun y => h ⟨rfl, fe.mpr y⟩
  exact ⟨acc.length + 1, key acc.length 0 (by omega) (fun i o hi => by omega)⟩
end
end
section
theorem rr_pm : ∀ e, e < 9 → ∀ s, s < 9 → (nI e + (-1) < nI s ↔ e ≤ s) := by decide +kernel
theorem rr_t3 : ∀ t, t < 3 → ¬ nI t = 3 := by decide +kernel
theorem rr_ns_ge (f : Nat) (q : Nat → Nat) {j t : Nat} (h1 : 3 ≤ j + t) (h2 : t < 3) (h3 : j ≤ 3) : rr_nk f t q + rr_ns f q (2 - t) ≤ rr_ns f q j := by
  have f0 : rr_ns f q 0 = 0 := rfl
  have f1 : rr_ns f q 1 = rr_nk f 2 q + rr_ns f q 0 := rfl
  have f2 : rr_ns f q 2 = rr_nk f 1 q + rr_ns f q 1 := rfl
  have f3 : rr_ns f q 3 = rr_nk f 0 q + rr_ns f q 2 := rfl
  rcases (show t = 0 ∨ t = 1 ∨ t = 2 by omega) with rfl | rfl | rfl
  · show rr_nk f 0 q + rr_ns f q 2 ≤ _
    obtain rfl : j = 3 := by omega
    omega
  · show rr_nk f 1 q + rr_ns f q 1 ≤ _
    rcases (show j = 2 ∨ j = 3 by omega) with rfl | rfl <;> omega
  · show rr_nk f 2 q + rr_ns f q 0 ≤ _
    rcases (show j = 1 ∨ j = 2 ∨ j = 3 by omega) with rfl | rfl | rfl <;> omega
theorem rr_ls_ge (f : Nat) (q : Nat → Nat) {j t : Nat} (h1 : 3 ≤ j + t) (h2 : t < 3) (h3 : j ≤ 3) : rr_lk f t q + rr_ls f q (2 - t) ≤ rr_ls f q j := by
  have f0 : rr_ls f q 0 = 0 := rfl
  have f1 : rr_ls f q 1 = rr_lk f 2 q + rr_ls f q 0 := rfl
  have f2 : rr_ls f q 2 = rr_lk f 1 q + rr_ls f q 1 := rfl
  have f3 : rr_ls f q 3 = rr_lk f 0 q + rr_ls f q 2 := rfl
  rcases (show t = 0 ∨ t = 1 ∨ t = 2 by omega) with rfl | rfl | rfl
  · show rr_lk f 0 q + rr_ls f q 2 ≤ _
    obtain rfl : j = 3 := by omega
    omega
  · show rr_lk f 1 q + rr_ls f q 1 ≤ _
    rcases (show j = 2 ∨ j = 3 by omega) with rfl | rfl <;> omega
  · show rr_lk f 2 q + rr_ls f q 0 ≤ _
    rcases (show j = 1 ∨ j = 2 ∨ j = 3 by omega) with rfl | rfl | rfl <;> omega
theorem rr_from_skip {sz ks os r : Nat → Int32} {g : (Nat → Int32) → List (Nat → Int32) → List (Nat → Int32)} : ∀ j i, i ≤ j → j ≤ 3 → (∀ s, 3 - j ≤ s → s < 3 - i → rr_en sz ks os s r = false) → ∀ a, rr_from sz ks os g r j a = rr_from sz ks os g r i a := by
  intro j
  induction j with
  | zero => intro i hi _ _ a; obtain rfl : i = 0 := by omega
            rfl
  | succ j ih =>
    intro i hi hj h a
    rcases Nat.decEq i (j + 1) with z | z
    · show rr_from sz ks os g r j (rr_kid sz ks os g (2 - j) r a) = _
      rw [rr_kid_f (h (2 - j) (by omega) (by omega))]
      exact ih i (by omega) (by omega) (fun s h1 h2 => h s (by omega) h2) a
    · rw [z]
theorem rr_from_kid {sz ks os r : Nat → Int32} {g : (Nat → Int32) → List (Nat → Int32) → List (Nat → Int32)} {t : Nat} (ht : t < 3) (he : rr_en sz ks os t r = true) (a : List (Nat → Int32)) : rr_from sz ks os g r (3 - t) a = rr_from sz ks os g r (2 - t) (g (rr_st ks os t r) a) := by
  rw [← rr_kid_t (g := g) (a := a) he]
  rcases (show t = 0 ∨ t = 1 ∨ t = 2 by omega) with rfl | rfl | rfl <;> rfl
theorem rr_arr_Fo {sz ks os : Nat → Int32} {S p : Nat → Nat} {r : Nat → Int32} {acc : List (Nat → Int32)} (h : rr_Fo S acc) (hR : rr_Rk S r p) : rr_Fo S (rr_arr sz ks os r acc) := by
  unfold rr_arr
  by_cases z : rr_any sz ks os r = true
  · rw [if_pos z]; exact h
  · rw [if_neg z]; exact rr_Fo_note h hR
theorem rr_from_Fo {sz ks os : Nat → Int32} {S : Nat → Nat} (hP : rr_Pg sz ks os S) {g : (Nat → Int32) → List (Nat → Int32) → List (Nat → Int32)} (hg : ∀ r p a, rr_Rk S r p → rr_Fo S a → rr_Fo S (g r a)) {r : Nat → Int32} {p : Nat → Nat} (hR : rr_Rk S r p) : ∀ j, j ≤ 3 → ∀ a, rr_Fo S a → rr_Fo S (rr_from sz ks os g r j a) := by
  intro j
  induction j with
  | zero => intro _ a h; exact h
  | succ j ih =>
    intro hj a h
    show rr_Fo S (rr_from sz ks os g r j (rr_kid sz ks os g (2 - j) r a))
    refine ih (by omega) _ ?_
    rcases z : rr_en sz ks os (2 - j) r with _ | _
    · rw [rr_kid_f z]; exact h
    · rw [rr_kid_t z]; exact hg _ _ _ (rr_st_Rk hP hR (by omega) z) h
theorem rr_dfs_Fo {sz ks os : Nat → Int32} {S : Nat → Nat} (hP : rr_Pg sz ks os S) : ∀ f r p a, rr_Rk S r p → rr_Fo S a → rr_Fo S (rr_dfs sz ks os f r a) := by
  intro f
  induction f with
  | zero => intro r p a _ h; exact h
  | succ f ih => intro r p a hR h; exact rr_from_Fo hP ih hR 3 (by omega) _ (rr_arr_Fo h hR)
/-- what the arrival at a child needs of the room -/
theorem rr_room {sz ks os : Nat → Int32} {S p : Nat → Nat} {r : Nat → Int32} {f : Nat} {acc : List (Nat → Int32)} (hP : rr_Pg sz ks os S) (hR : rr_Rk S r p) (h : acc.length + rr_LV (f + 1) (rr_rm S p) ≤ 560) : acc.length < 560 ∧ (rr_any sz ks os r = true → (rr_arr sz ks os r acc).length + rr_ls f (rr_rm S p) 3 ≤ 560) := by
  have := rr_LV_pos (f + 1) (rr_rm S p)
  refine ⟨by omega, fun z => ?_⟩
  have e : rr_arr sz ks os r acc = acc := if_pos z
  rw [e]
  rw [rr_LV_s] at h
  have hne : rr_rm S p 0 + rr_rm S p 1 + rr_rm S p 2 ≠ 0 := by
    have key : ∀ t, t < 3 → rr_en sz ks os t r = true → rr_rm S p t ≠ 0 := by
      intro t ht he
      have := (rr_lt hP hR ht).mp (rr_en_lt he)
      unfold rr_rm; omega
    unfold rr_any at z
    rcases h0 : rr_en sz ks os 0 r with _ | _
    · rcases h1 : rr_en sz ks os 1 r with _ | _
      · rcases h2 : rr_en sz ks os 2 r with _ | _
        · rw [h0, h1, h2] at z; cases z
        · have := key 2 (by omega) h2; omega
      · have := key 1 (by omega) h1; omega
    · have := key 0 (by omega) h0; omega
  rw [if_neg hne] at h
  exact h
theorem rr_rm_kid {S p : Nat → Nat} {t f : Nat} (ht : t < 3) (hl : p t < S t) (h : rr_rm S p 0 + rr_rm S p 1 + rr_rm S p 2 ≤ f + 1) : rr_rm S (rr_inc t p) 0 + rr_rm S (rr_inc t p) 1 + rr_rm S (rr_inc t p) 2 ≤ f := by
  have h0 : rr_rm S p t ≠ 0 := by unfold rr_rm; omega
  rw [rr_rm_inc hl]; unfold rr_dec
  rcases (show t = 0 ∨ t = 1 ∨ t = 2 by omega) with rfl | rfl | rfl <;> simp <;> omega
section
variable {bg ks os sz rl sm kp : Nat → Int32} {S : Nat → Nat}
theorem yg_node (hP : rr_Pg sz ks os S) {post : SY → Prop} {s0 : Nat} : ∀ f r p e, rr_Rk S r p → rr_rm S p 0 + rr_rm S p 1 + rr_rm S p 2 ≤ f → p 0 + p 1 + p 2 = e → s0 ≤ e → ∀ n1,
    ∀ j t, t + j = 3 → ∀ acc va rg ho pl dn ol tr fd n,
      rr_Yr r va rg ho pl → rr_Fy sz acc fd → rr_Fo S acc → (rr_any sz ks os r = true → acc.length + rr_ls f (rr_rm S p) j ≤ 560) → tr e + 1 = nI t →
      (e = s0 → ∀ va' rg' ho' pl' dn' ol' tr' fd' n', n1 ≤ n' → rr_Yr r va' rg' ho' pl' → rr_Fy sz (rr_from sz ks os (rr_dfs sz ks os f) r j acc) fd' → (∀ i, i < e → dn' i = dn i ∧ ol' i = ol i ∧ tr' i = tr i) →
        wY_goThrough_41 post (nI s0) n' (nI e + (-1)) (nI e) (nI (rr_from sz ks os (rr_dfs sz ks os f) r j acc).length) (nI (rr_dd sz (rr_from sz ks os (rr_dfs sz ks os f) r j acc))) ks os sz bg va' rg' ho' pl' dn' ol' rl sm kp tr' fd') →
      (s0 < e → ∃ r0 p0 t0 e0, e = e0 + 1 ∧ rr_Rk S r0 p0 ∧ t0 < 3 ∧ rr_en sz ks os t0 r0 = true ∧ r = rr_st ks os t0 r0 ∧ dn e0 = nI (rr_op t0 r0) ∧ rr_Ol ks os t0 r0 (ol e0) ∧
        ∀ va' rg' ho' pl' dn' ol' tr' fd' n', n1 ≤ n' → rr_Yr r0 va' rg' ho' pl' → rr_Fy sz (rr_from sz ks os (rr_dfs sz ks os f) r j acc) fd' → (∀ i, i < e → dn' i = dn i ∧ ol' i = ol i ∧ tr' i = tr i) →
        wY_goThrough_41 post (nI s0) n' (nI e0) (nI e0) (nI (rr_from sz ks os (rr_dfs sz ks os f) r j acc).length) (nI (rr_dd sz (rr_from sz ks os (rr_dfs sz ks os f) r j acc))) ks os sz bg va' rg' ho' pl' dn' ol' rl sm kp tr' fd') →
      n1 + 1 + 2 * rr_ns f (rr_rm S p) j ≤ n →
      wY_goThrough_41 post (nI s0) n (nI e) (nI e) (nI acc.length) (nI (rr_dd sz acc)) ks os sz bg va rg ho pl dn ol rl sm kp tr fd := by
  intro f
  induction f using Nat.strongRecOn with
  | _ f ihf =>
  intro r p e hR hf hpe hs n1 j
  induction j using Nat.strongRecOn with
  | _ j ihj =>
  intro t htj acc va rg ho pl dn ol tr fd n hY hF hO hB htr hroot hinn hn
  have he8 : e ≤ 8 := by
    have h0 := (hR.1 0 (by omega)).2
    have h1 := (hR.1 1 (by omega)).2
    have h2 := (hR.1 2 (by omega)).2
    have := hP.2.1
    omega
  obtain ⟨n, rfl⟩ : ∃ m, n = m + 1 := ⟨n - 1, by omega⟩
  have ce : (nI e).toNatClampNeg = e := nI_clamp (by omega)
  have ve : vp_in (nI e) 9 := pk_in e 9 (by omega) rfl
  refine br_f (nI_nlt hs (by omega)) ⟨ve, ys_next hP hR hY (show tr (nI e).toNatClampNeg + 1 = nI t by rw [ce]; exact htr) (by omega) (fun t' h1 h2 h3 h4 => ⟨ve, nm_r (show _ = upd tr e (nI t') by rw [ce]) ?_⟩)⟩
  rcases Nat.lt_or_ge t' 3 with ht3 | ht3
  · have hen := h4 ht3
    have hl := (rr_lt hP hR ht3).mp (rr_en_lt hen)
    have hrm : rr_rm S p t' ≠ 0 := by unfold rr_rm; omega
    obtain ⟨f, rfl⟩ : ∃ m, f = m + 1 := ⟨f - 1, by
      rcases (show t' = 0 ∨ t' = 1 ∨ t' = 2 by omega) with rfl | rfl | rfl <;> omega⟩
    have he : e < 8 := by
      have h0 := (hR.1 0 (by omega)).2
      have h1 := (hR.1 1 (by omega)).2
      have h2 := (hR.1 2 (by omega)).2
      have := hP.2.1
      rcases (show t' = 0 ∨ t' = 1 ∨ t' = 2 by omega) with rfl | rfl | rfl <;> omega
    rw [rr_from_skip j (3 - t') (by omega) (by omega) (fun s a b => h3 s (by omega) (by omega)) acc, rr_from_kid ht3 hen] at hroot hinn
    refine br_f (rr_t3 t' ht3) (ys_go hP hR ht3 hen he hY (fun va1 rg1 ho1 pl1 dn1 ol1 hY1 hd1 ho1' hfr => ?_))
    refine nm_r (nI_1 e) ⟨pk_in (e + 1) 9 (by omega) rfl, nm_r (show _ = upd (upd tr e (nI t')) (e + 1) (-1) by rw [nI_clamp (by omega)]) ?_⟩
    have hR1 := rr_st_Rk hP hR ht3 hen
    have hbk := hB (rr_any_t ht3 hen)
    have hge := rr_ls_ge (f + 1) (rr_rm S p) (j := j) (t := t') (by omega) ht3 (by omega)
    have hnge := rr_ns_ge (f + 1) (rr_rm S p) (j := j) (t := t') (by omega) ht3 (by omega)
    have hlk : rr_lk (f + 1) t' (rr_rm S p) = rr_LV (f + 1) (rr_rm S (rr_inc t' p)) := by unfold rr_lk; rw [if_neg hrm, rr_rm_inc hl]
    have hnk : rr_nk (f + 1) t' (rr_rm S p) = 1 + rr_ns f (rr_rm S (rr_inc t' p)) 3 := by unfold rr_nk; rw [if_neg hrm, ← rr_rm_inc hl, rr_ND_s]
    have hroom := rr_room hP hR1 (f := f) (acc := acc) (by rw [← hlk]; omega)
    have hrk := rr_rm_kid ht3 hl hf
    have hlen := (rr_dfs_len hP (f + 1) (rr_st ks os t' r) (rr_inc t' p) acc hR1 (by omega)).2.1
    have main : ∀ fd1, rr_Fy sz (rr_arr sz ks os (rr_st ks os t' r) acc) fd1 → wY_goThrough_41 post (nI s0) n (nI (e + 1)) (nI (e + 1)) (nI (rr_arr sz ks os (rr_st ks os t' r) acc).length) (nI (rr_dd sz (rr_arr sz ks os (rr_st ks os t' r) acc))) ks os sz bg va1 rg1 ho1 pl1 dn1 ol1 rl sm kp (upd (upd tr e (nI t')) (e + 1) (-1)) fd1 := by
      intro fd1 hF1
      refine ihf f (by omega) (rr_st ks os t' r) (rr_inc t' p) (e + 1) hR1 hrk (by rw [rr_inc_sum ht3]; omega) (by omega) (n1 + 1 + 2 * rr_ns (f + 1) (rr_rm S p) (2 - t')) 3 0 rfl (rr_arr sz ks os (rr_st ks os t' r) acc) va1 rg1 ho1 pl1 dn1 ol1 (upd (upd tr e (nI t')) (e + 1) (-1)) fd1 n hY1 hF1 (rr_arr_Fo hO hR1) hroom.2 (by rw [pk_us]; rfl) (fun z => by omega) (fun _ => ⟨r, p, t', e, rfl, hR, ht3, hen, rfl, hd1, ho1', ?_⟩) (by omega)
      intro va2 rg2 ho2 pl2 dn2 ol2 tr2 fd2 n2 hn2 hY2 hF2 hfr2
      have fr : ∀ i, i < e → dn2 i = dn i ∧ ol2 i = ol i ∧ tr2 i = tr i := by
        intro i hi
        obtain ⟨x, y, z⟩ := hfr2 i (by omega)
        obtain ⟨x', y'⟩ := hfr i (by omega)
        exact ⟨x.trans x', y.trans y', by rw [z, pk_un (by omega), pk_un (by omega)]⟩
      have tre : tr2 e + 1 = nI (t' + 1) := by
        rw [(hfr2 e (by omega)).2.2, pk_un (by omega), pk_us]; exact nI_1 t'
      refine ihj (2 - t') (by omega) (t' + 1) (by omega) (rr_dfs sz ks os (f + 1) (rr_st ks os t' r) acc) va2 rg2 ho2 pl2 dn2 ol2 tr2 fd2 n2 hY2 hF2 (rr_dfs_Fo hP _ _ _ _ hR1 hO) (fun _ => by omega) tre ?_ ?_ hn2
      · intro z va3 rg3 ho3 pl3 dn3 ol3 tr3 fd3 n3 hn3 hY3 hF3 hfr3
        exact hroot z va3 rg3 ho3 pl3 dn3 ol3 tr3 fd3 n3 hn3 hY3 hF3 (fun i hi => ⟨(hfr3 i hi).1.trans (fr i hi).1, (hfr3 i hi).2.1.trans (fr i hi).2.1, (hfr3 i hi).2.2.trans (fr i hi).2.2⟩)
      · intro z
        obtain ⟨r0, p0, t0, e0, he0, hR0, ht0, hen0, hr0, hd0, ho0, hc⟩ := hinn z
        refine ⟨r0, p0, t0, e0, he0, hR0, ht0, hen0, hr0, by rw [(fr e0 (by omega)).1]; exact hd0, by rw [(fr e0 (by omega)).2.1]; exact ho0, ?_⟩
        intro va3 rg3 ho3 pl3 dn3 ol3 tr3 fd3 n3 hn3 hY3 hF3 hfr3
        exact hc va3 rg3 ho3 pl3 dn3 ol3 tr3 fd3 n3 hn3 hY3 hF3 (fun i hi => ⟨(hfr3 i hi).1.trans (fr i hi).1, (hfr3 i hi).2.1.trans (fr i hi).2.1, (hfr3 i hi).2.2.trans (fr i hi).2.2⟩)
    refine ys_next hP hR1 hY1 (show (-1 : Int32) + 1 = nI 0 from rfl) (by omega) (fun t2 g1 g2 g3 g4 => ?_)
    rcases Nat.lt_or_ge t2 3 with q | q
    · have e1 : rr_arr sz ks os (rr_st ks os t' r) acc = acc := if_pos (rr_any_t q (g4 q))
      rw [e1] at main
      exact br_f (rr_t3 t2 q) (main fd hF)
    · obtain rfl : t2 = 3 := by omega
      have nn : ¬ rr_any sz ks os (rr_st ks os t' r) = true := by
        unfold rr_any
        rw [g3 0 (by omega) (by omega), g3 1 (by omega) (by omega), g3 2 (by omega) (by omega)]; decide
      have e1 : rr_arr sz ks os (rr_st ks os t' r) acc = rr_note acc (rr_st ks os t' r) := if_neg nn
      rw [e1] at main
      exact br_t rfl (ys_note hP hR1 hY1 hF hO (by omega) (fun fd1 hF1 => main fd1 hF1))
  · obtain rfl : t' = 3 := by omega
    have hskip : rr_from sz ks os (rr_dfs sz ks os f) r j acc = acc := rr_from_skip j 0 (by omega) (by omega) (fun s a b => h3 s (by omega) (by omega)) acc
    rw [hskip] at hroot hinn
    rcases Nat.decEq e s0 with hes | hes
    · obtain ⟨r0, p0, t0, e0, rfl, hR0, ht0, hen0, hr0, hd0, ho0, hc⟩ := hinn (by omega)
      subst hr0
      exact br_t rfl (nm_r (pk_m1 e0) (br_f (nI_nlt (by omega) (by omega)) (ys_undo hP hR0 ht0 hen0 (by omega) hY hd0 ho0 (fun va' rg' ho' pl' hY' => hc va' rg' ho' pl' dn ol _ fd n (by omega) hY' hF (fun i hi => ⟨rfl, rfl, pk_un (by omega)⟩)))))
    · exact br_t rfl (nm_e (br_t ((rr_pm e (by omega) s0 (by omega)).mpr (by omega)) (hroot hes va rg ho pl dn ol _ fd n (by omega) hY hF (fun i hi => ⟨rfl, rfl, pk_un (by omega)⟩))))
end
end
section
theorem rr_any_0 {sz ks os r : Nat → Int32} (h : ∀ s, 0 ≤ s → s < 3 → rr_en sz ks os s r = false) : rr_any sz ks os r = false := by
  unfold rr_any
  rw [h 0 (by omega) (by omega), h 1 (by omega) (by omega), h 2 (by omega) (by omega)]; rfl
theorem rr_root {sz ks os r : Nat → Int32} {S p : Nat → Nat} (hP : rr_Pg sz ks os S) (hR : rr_Rk S r p) : rr_rm S p 0 + rr_rm S p 1 + rr_rm S p 2 ≤ 8 ∧ rr_LV 9 (rr_rm S p) ≤ 560 ∧ rr_ND 9 (rr_rm S p) ≤ 5040 := by
  have a0 := rr_S4 hP (show 0 < 3 by omega)
  have a1 := rr_S4 hP (show 1 < 3 by omega)
  have a2 := rr_S4 hP (show 2 < 3 by omega)
  have h := hP.2.1
  have b0 : rr_rm S p 0 = S 0 - p 0 := rfl
  have b1 : rr_rm S p 1 = S 1 - p 1 := rfl
  have b2 : rr_rm S p 2 = S 2 - p 2 := rfl
  exact ⟨by omega, rr_lv_560 _ (by omega) _ (by omega) _ (by omega) (by omega), rr_nd_5040 _ (by omega) _ (by omega) _ (by omega) (by omega)⟩
section
variable {cn fy dy : Int32} {ks os sz bg va rg ho pl dn ol rl sm kp tr fd : Nat → Int32}
variable {S p : Nat → Nat} {r : Nat → Int32} {e : Nat}
theorem ys_through (hP : rr_Pg sz ks os S) (hR : rr_Rk S r p) (hpe : p 0 + p 1 + p 2 = e) (hY : rr_Yr r va rg ho pl) {post : SY → Prop}
    (H : ∀ va' rg' ho' pl' dn' ol' tr' fd', rr_Yr r va' rg' ho' pl' → rr_Fy sz (rr_dfs sz ks os 9 r []) fd' → (∀ i, i < e → dn' i = dn i ∧ ol' i = ol i) →
      post (nI e, nI (rr_dfs sz ks os 9 r []).length, nI (rr_dd sz (rr_dfs sz ks os 9 r [])), ks, os, sz, bg, va', rg', ho', pl', dn', ol', rl, sm, kp, tr', fd')) : wpY_goThrough post (nI e, fy, dy, ks, os, sz, bg, va, rg, ho, pl, dn, ol, rl, sm, kp, tr, fd) := by
  obtain ⟨hrm, hLV, hND⟩ := rr_root hP hR
  have he8 : e ≤ 8 := by
    have h0 := (hR.1 0 (by omega)).2
    have h1 := (hR.1 1 (by omega)).2
    have h2 := (hR.1 2 (by omega)).2
    have := hP.2.1
    omega
  have F0 : rr_Fy sz [] fd := fun k o h => by cases h
  have O0 : rr_Fo S [] := fun o h => by cases h
  refine ⟨pk_in e 9 (by omega) rfl, nm_r (show _ = upd tr e (-1) by rw [nI_clamp (by omega)]) (ys_next hP hR hY (show (-1 : Int32) + 1 = nI 0 from rfl) (by omega) (fun t2 g1 g2 g3 g4 => ?_))⟩
  have hroom := rr_room hP hR (f := 8) (acc := []) (by simpa using hLV)
  rcases Nat.lt_or_ge t2 3 with q | q
  · have e1 : rr_arr sz ks os r [] = [] := if_pos (rr_any_t q (g4 q))
    have e2 : rr_dfs sz ks os 9 r [] = rr_from sz ks os (rr_dfs sz ks os 8) r 3 [] := by
      show rr_from sz ks os (rr_dfs sz ks os 8) r 3 (rr_arr sz ks os r []) = _
      rw [e1]
    rw [e2] at H
    rw [e1] at hroom
    refine br_f (rr_t3 t2 q) ⟨1 + 1 + 2 * rr_ns 8 (rr_rm S p) 3, ?_⟩
    refine yg_node hP 8 r p e hR hrm hpe (Nat.le_refl e) 1 3 0 rfl [] va rg ho pl dn ol (upd tr e (-1)) fd _ hY F0 O0 hroom.2 (by rw [pk_us]; rfl) (fun _ => ?_) (fun z => by omega) (Nat.le_refl _)
    intro va' rg' ho' pl' dn' ol' tr' fd' n' hn' hY' hF' hfr
    obtain ⟨n', rfl⟩ : ∃ m, n' = m + 1 := ⟨n' - 1, by omega⟩
    exact br_t ((rr_pm e (by omega) e (by omega)).mpr (Nat.le_refl e)) (H va' rg' ho' pl' dn' ol' tr' fd' hY' hF' (fun i hi => ⟨(hfr i hi).1, (hfr i hi).2.1⟩))
  · obtain rfl : t2 = 3 := by omega
    have hna := rr_any_0 g3
    have e1 : rr_arr sz ks os r [] = rr_note [] r := if_neg (by rw [hna]; decide)
    have e2 : rr_dfs sz ks os 9 r [] = rr_note [] r := by
      show rr_from sz ks os (rr_dfs sz ks os 8) r 3 (rr_arr sz ks os r []) = _
      rw [e1, rr_from_f hna 3 (by omega)]
    rw [e2] at H
    exact br_t rfl (ys_note (acc := []) hP hR hY F0 O0 (by simp) (fun fd1 hF1 => H va rg ho pl dn ol _ fd1 hY hF1 (fun i hi => ⟨rfl, rfl⟩)))
end
section
variable {bg ks os sz rl sm B : Nat → Int32} {S T : Nat → Nat} {n : Nat}
theorem ys_replay (hG : rr_Go sz ks os S B T n) {post : SY → Prop} {fy dy : Int32} {kp tr fd : Nat → Int32} (hk : ∀ i, i < n → kp i = nI (T i))
    (H : ∀ va rg ho pl dn ol, rr_Yr (rr_run ks os B T n) va rg ho pl → (∀ i, i < n → dn i = nI (rr_op (T i) (rr_run ks os B T i)) ∧ rr_Ol ks os (T i) (rr_run ks os B T i) (ol i)) → post (nI n, fy, dy, ks, os, sz, bg, va, rg, ho, pl, dn, ol, rl, sm, kp, tr, fd)) :
    ∀ j i, i + j = n → ∀ va rg ho pl dn ol, rr_Yr (rr_run ks os B T i) va rg ho pl → (∀ a, a < i → dn a = nI (rr_op (T a) (rr_run ks os B T a)) ∧ rr_Ol ks os (T a) (rr_run ks os B T a) (ol a)) → wY_goThroughAll_36 post (nI n) (j + 1) (nI i) (nI i) fy dy ks os sz bg va rg ho pl dn ol rl sm kp tr fd := by
  have n8 : n ≤ 8 := rr_Go_8 hG (Nat.le_refl n)
  intro j
  induction j with
  | zero =>
    intro i hi va rg ho pl dn ol hY hd
    obtain rfl : i = n := by omega
    exact br_t (nI_le (Nat.le_refl _) (by omega)) (H va rg ho pl dn ol hY hd)
  | succ j ih =>
    intro i hi va rg ho pl dn ol hY hd
    obtain ⟨ht, hen⟩ := hG.2.2 i (by omega)
    have hR := (rr_Go_Rk hG i (by omega)).1
    refine br_f (nI_ge (by omega) (by omega)) ⟨pk_in i 8 (by omega) rfl, ?_⟩
    rw [nI_clamp (by omega), hk i (by omega)]
    refine ys_go hG.1 hR ht hen (by omega) hY (fun va1 rg1 ho1 pl1 dn1 ol1 hY1 hd1 ho1' hfr => nm_r (nI_1 i) (ih (i + 1) (by omega) va1 rg1 ho1 pl1 dn1 ol1 hY1 (fun a ha => ?_)))
    rcases Nat.decEq a i with z | z
    · rw [(hfr a z).1, (hfr a z).2]; exact hd a (by omega)
    · rw [z]; exact ⟨hd1, ho1'⟩
theorem ys_all (hG : rr_Go sz ks os S B T n) {post : SY → Prop} {fy dy : Int32} {va rg ho pl dn ol kp tr fd : Nat → Int32}
    (hY : rr_Yr (rr_run ks os B T n) va rg ho pl) (hd : ∀ i, i < n → dn i = nI (rr_op (T i) (rr_run ks os B T i)) ∧ rr_Ol ks os (T i) (rr_run ks os B T i) (ol i))
    (H : ∀ va rg ho pl dn ol kp tr fd, rr_Yr (rr_run ks os B T n) va rg ho pl → (∀ i, i < n → dn i = nI (rr_op (T i) (rr_run ks os B T i)) ∧ rr_Ol ks os (T i) (rr_run ks os B T i) (ol i)) → rr_Fy sz (rr_dfs sz ks os 9 B []) fd →
      post (nI n, nI (rr_dfs sz ks os 9 B []).length, nI (rr_dd sz (rr_dfs sz ks os 9 B [])), ks, os, sz, bg, va, rg, ho, pl, dn, ol, rl, sm, kp, tr, fd)) : wpY_goThroughAll post (nI n, fy, dy, ks, os, sz, bg, va, rg, ho, pl, dn, ol, rl, sm, kp, tr, fd) := by
  have n8 : n ≤ 8 := rr_Go_8 hG (Nat.le_refl n)
  have key : ∀ e, e ≤ n → ∀ va rg ho pl kp, rr_Yr (rr_run ks os B T e) va rg ho pl → (∀ i, e ≤ i → i < n → kp i = nI (T i)) → wY_goThroughAll_5 post (nI n) (e + 1) (nI e) fy dy ks os sz bg va rg ho pl dn ol rl sm kp tr fd := by
    intro e
    induction e with
    | zero =>
      intro _ va rg ho pl kp hY hk
      have hR := (rr_Go_Rk hG 0 (by omega))
      refine br_t (show nI 0 ≤ 0 by decide) (ys_through hG.1 hR.1 hR.2 hY (fun va' rg' ho' pl' dn' ol' tr' fd' hY' hF' _ => ⟨n + 1, ?_⟩))
      exact ys_replay hG (fun i hi => hk i (by omega) hi) (fun va rg ho pl dn ol hY2 hd2 => H va rg ho pl dn ol kp tr' fd' hY2 hd2 hF') n 0 (by omega) va' rg' ho' pl' dn' ol' hY' (fun a ha => by omega)
    | succ e ih =>
      intro he va rg ho pl kp hY hk
      obtain ⟨ht, hen⟩ := hG.2.2 e (by omega)
      have hR := (rr_Go_Rk hG e (by omega)).1
      refine br_f (nI_nle (by omega) (by omega)) (ys_undo hG.1 hR ht hen (by omega) hY (hd e (by omega)).1 (hd e (by omega)).2 (fun va' rg' ho' pl' hY' => ⟨pk_in e 8 (by omega) rfl, nm_r (show _ = upd kp e (nI (T e)) by rw [nI_clamp (by omega)]) (ih (by omega) va' rg' ho' pl' _ hY' (fun i h1 h2 => ?_))⟩))
      rcases Nat.decEq i e with z | z
      · rw [pk_un z]; exact hk i (by omega) h2
      · rw [z, pk_us]
  exact ⟨n + 1, key n (Nat.le_refl n) va rg ho pl kp hY (fun i h1 h2 => by omega)⟩
end
end
section
theorem rr_ix08 (k c : Nat) : nI k * 8 + nI c = nI (8 * k + c) := by
  rw [show (8 : Int32) = nI 8 from rfl, pk_mul, nI_add, Nat.mul_comm]
section
variable {ec fx : Int32} {sz ks os hi et ek eo mb kb oc pa nt fo : Nat → Int32}
variable {S p : Nat → Nat} {r o : Nat → Int32} {acc : List (Nat → Int32)} {k d : Nat}
theorem xs_same (hk : k < 560) (hd : d ≤ 8) (hr : ∀ c, c < 10 → pa (10 * d + c) = r c) (hf : ∀ c, c < 8 → fo (8 * k + c) = o c) {post : Int32 → Prop} (h : post (rr_b (rr_same o r))) : wpX_isSameOutcome post (ec, fx, sz, ks, os, hi, et, ek, eo, mb, kb, oc, pa, nt, fo) (nI k) (nI d) := by
  have key : ∀ j i, i + j = 8 → ((∀ c, i ≤ c → c < 8 → o c = r c) → post 1) → (¬ (∀ c, i ≤ c → c < 8 → o c = r c) → post 0) → wX_isSameOutcome_2 post (nI k) (nI d) ec fx sz ks os hi et ek eo mb kb oc pa nt fo (j + 1) (nI i) := by
    intro j
    induction j with
    | zero =>
      intro i hi h1 h2
      obtain rfl : i = 8 := by omega
      exact br_t (show (8 : Int32) ≤ nI 8 by decide) (h1 (fun c a b => by omega))
    | succ j ih =>
      intro i hi h1 h2
      have e1 := rr_ix08 k i
      have e2 := rr_ix0 d i
      refine br_f (nI_ge (b := 8) (by omega) (by decide)) ⟨pk_in _ _ (by omega) e1, pk_in _ _ (by omega) e2, ?_⟩
      rw [e1, e2, nI_clamp (by omega), nI_clamp (by omega), hf i (by omega), hr i (by omega)]
      by_cases q : o i = r i
      · refine br_t q (nm_r (nI_1 i) (ih (i + 1) (by omega) (fun y => h1 (fun c a b => ?_)) (fun y => h2 (fun w => y (fun c a b => w c (by omega) b)))))
        rcases Nat.decEq c i with v | v
        · exact y c (by omega) b
        · rw [v]; exact q
      · exact br_f q (h2 (fun w => q (w i (by omega) (by omega))))
  refine ⟨9, key 8 0 (by omega) (fun y => ?_) (fun y => ?_)⟩
  · rw [rr_same_t.mpr (fun c hc => y c (by omega) hc)] at h; exact h
  · have : rr_same o r = false := by
      rcases z : rr_same o r with _ | _
      · rfl
      · exact absurd (fun c _ hc => rr_same_t.mp z c hc) y
    rw [this] at h; exact h
theorem xs_isFound (hn : acc.length ≤ 560) (hd : d ≤ 8) (hr : ∀ c, c < 10 → pa (10 * d + c) = r c) (hF : rr_Fx acc fo) {post : Int32 → Prop} (h : post (rr_b (acc.any (fun o => rr_same o r)))) : wpX_isFound post (ec, nI acc.length, sz, ks, os, hi, et, ek, eo, mb, kb, oc, pa, nt, fo) (nI d) := by
  have key : ∀ j k, k + j = acc.length → (∀ i o, i < k → acc[i]? = some o → ¬ rr_same o r = true) → wX_isFound_2 post (nI d) ec (nI acc.length) sz ks os hi et ek eo mb kb oc pa nt fo (j + 1) (nI k) := by
    intro j
    induction j with
    | zero =>
      intro k hk hs
      obtain rfl : k = acc.length := by omega
      have hf : acc.any (fun o => rr_same o r) = false := by
        rcases z : acc.any (fun o => rr_same o r) with _ | _
        · rfl
        · obtain ⟨o, ho, h⟩ := List.any_eq_true.mp z
          obtain ⟨i, hi, e⟩ := List.getElem_of_mem ho
          exact absurd h (hs i o hi (by rw [List.getElem?_eq_getElem hi, e]))
      rw [hf] at h
      exact br_t (nI_le (Nat.le_refl _) (by omega)) h
    | succ j ih =>
      intro k hk hs
      have hkl : k < acc.length := by omega
      obtain ⟨o, ho⟩ : ∃ o, acc[k]? = some o := ⟨_, List.getElem?_eq_getElem hkl⟩
      refine br_f (nI_ge hkl (by omega)) (xs_same (by omega) hd hr (hF k o ho) (rr_bd (fun z => nm_r (nI_1 k) (ih (k + 1) (by omega) (fun i o' hi ho' => ?_))) (fun z => ?_)))
      · rcases Nat.decEq i k with y | y
        · exact hs i o' (by omega) ho'
        · rw [y, ho] at ho'
          rw [← Option.some.inj ho', z]; decide
      · have ha : acc.any (fun o => rr_same o r) = true := List.any_eq_true.mpr ⟨o, List.mem_of_getElem? ho, z⟩
        rw [ha] at h; exact h
  exact ⟨acc.length + 1, key acc.length 0 (by omega) (fun i o hi => by omega)⟩
theorem xs_keep (hn : acc.length < 560) (hd : d ≤ 8) (hr : ∀ c, c < 10 → pa (10 * d + c) = r c) (hF : rr_Fx acc fo) {post : SX → Prop}
    (H : ∀ fo', rr_Fx (acc ++ [r]) fo' → post (ec, nI (acc ++ [r]).length, sz, ks, os, hi, et, ek, eo, mb, kb, oc, pa, nt, fo')) : wpX_keepOutcome post (ec, nI acc.length, sz, ks, os, hi, et, ek, eo, mb, kb, oc, pa, nt, fo) (nI d) := by
  refine loop_0 (fun n i a => wX_keepOutcome_2 post (nI d) ec (nI acc.length) n (nI i) sz ks os hi et ek eo mb kb oc pa nt a) (fun i a => (∀ c, c < i → a (8 * acc.length + c) = r c) ∧ ∀ j, j < 8 * acc.length → a j = fo j) 8 fo ⟨fun c hc => by omega, fun j _ => rfl⟩ ?_ ?_
  · intro n a ⟨h1, h2⟩
    have hF' : rr_Fx (acc ++ [r]) a := by
      intro k o ho c hc
      rcases rr_app ho with ⟨z, y⟩ | ⟨z, y⟩
      · rw [h2 _ (by omega)]; exact hF k o y c hc
      · rw [z, y]; exact h1 c hc
    have hl : (acc ++ [r]).length = acc.length + 1 := by simp
    have := H a hF'
    rw [hl] at this
    exact br_t (show (8 : Int32) ≤ nI 8 by decide) (nm_r (nI_1 acc.length) this)
  · intro n i a hil ⟨h1, h2⟩ ih
    have e1 := rr_ix08 acc.length i
    have e2 := rr_ix0 d i
    refine br_f (nI_ge (b := 8) hil (by decide)) ⟨pk_in _ _ (by omega) e2, pk_in _ _ (by omega) e1, nm_r (show _ = upd a (8 * acc.length + i) (r i) by rw [e1, e2, nI_clamp (by omega), nI_clamp (by omega), hr i (by omega)]) (nm_r (nI_1 i) (ih _ ⟨fun c hc => ?_, fun j hj => ?_⟩))⟩
    · rcases Nat.decEq c i with z | z
      · rw [pk_un (by omega)]; exact h1 c (by omega)
      · rw [z, pk_us]
    · rw [pk_un (by omega)]; exact h2 j hj
theorem xs_arr (hP : rr_Pg sz ks os S) (hR : rr_Rk S r p) (hn : acc.length < 560) (hd : d ≤ 8) (hr : ∀ c, c < 10 → pa (10 * d + c) = r c) (hF : rr_Fx acc fo) {post : SX → Prop}
    (H : ∀ fo', rr_Fx (rr_arr sz ks os r acc) fo' → post (ec, nI (rr_arr sz ks os r acc).length, sz, ks, os, hi, et, ek, eo, mb, kb, oc, pa, upd nt d 0, fo')) : wpX_arriveAt post (ec, nI acc.length, sz, ks, os, hi, et, ek, eo, mb, kb, oc, pa, nt, fo) (nI d) := by
  refine ⟨pk_in d 9 (by omega) rfl, nm_r (show _ = upd nt d 0 by rw [nI_clamp (by omega)]) (xs_thr_path hP hR hd hr ?_)⟩
  rcases z : rr_any sz ks os r with _ | _
  · have e1 : rr_arr sz ks os r acc = rr_note acc r := if_neg (by rw [z]; decide)
    rw [e1] at H
    refine br_t (rr_msk0.mpr z) (xs_isFound (by omega) hd hr hF (rr_bd (fun y => ?_) (fun y => ?_)))
    · rw [rr_note_f (by rw [y]; decide)] at H
      exact xs_keep hn hd hr hF (fun fo' hF' => H fo' hF')
    · rw [rr_note_t y] at H
      exact H fo hF
  · have e1 : rr_arr sz ks os r acc = acc := if_pos z
    rw [e1] at H
    exact br_f (fun y => by rw [rr_msk0.mp y] at z; cases z) (H fo hF)
end
section
variable {ec : Int32} {sz ks os hi et ek eo mb kb oc : Nat → Int32} {S : Nat → Nat}
theorem xg_node (hP : rr_Pg sz ks os S) {post : SX → Prop} : ∀ f r p d, rr_Rk S r p → rr_rm S p 0 + rr_rm S p 1 + rr_rm S p 2 ≤ f → d + (rr_rm S p 0 + rr_rm S p 1 + rr_rm S p 2) ≤ 8 →
    ∀ j t, t + j = 3 → ∀ acc pa nt fo w n,
      (∀ c, c < 10 → pa (10 * d + c) = r c) → rr_Fx acc fo → (rr_any sz ks os r = true → acc.length + rr_ls f (rr_rm S p) j ≤ 560) → nt d = nI t →
      w + (j + 1 + 4 * rr_ns f (rr_rm S p) j) ≤ 20160 → 20161 ≤ n + w →
      (∀ pa' nt' fo' w' n', w' ≤ w + (j + 1 + 4 * rr_ns f (rr_rm S p) j) → n' + w' = n + w → (∀ i, i < 10 * d → pa' i = pa i) → (∀ i, i < d → nt' i = nt i) → rr_Fx (rr_from sz ks os (rr_dfs sz ks os f) r j acc) fo' →
        wX_findOutcomes_45 post n' (nI d + (-1)) (nI w') ec (nI (rr_from sz ks os (rr_dfs sz ks os f) r j acc).length) sz ks os hi et ek eo mb kb oc pa' nt' fo') →
      wX_findOutcomes_45 post n (nI d) (nI w) ec (nI acc.length) sz ks os hi et ek eo mb kb oc pa nt fo := by
  intro f
  induction f using Nat.strongRecOn with
  | _ f ihf =>
  intro r p d hR hf hd j
  induction j with
  | zero =>
    intro t htj acc pa nt fo w n hr hF hB hnt hw hn hc
    obtain rfl : t = 3 := by omega
    obtain ⟨n, rfl⟩ : ∃ m, n = m + 1 := ⟨n - 1, by omega⟩
    have cd : (nI d).toNatClampNeg = d := nI_clamp (by omega)
    refine br_f (nI_ge (b := 20160) (by omega) (by decide)) (br_f (nI_pos (by omega)) ⟨pk_in d 9 (by omega) rfl, nm_r (show _ = nI 3 by rw [cd]; exact hnt) (br_t rfl (nm_e (nm_r (nI_1 w) (hc pa nt fo (w + 1) n (by omega) (by omega) (fun i _ => rfl) (fun i _ => rfl) hF))))⟩)
  | succ j ihj =>
    intro t htj acc pa nt fo w n hr hF hB hnt hw hn hc
    obtain ⟨n, rfl⟩ : ∃ m, n = m + 1 := ⟨n - 1, by omega⟩
    have ht : t < 3 := by omega
    have hjt : 2 - j = t := by omega
    have cd : (nI d).toNatClampNeg = d := nI_clamp (by omega)
    have vd : vp_in (nI d) 9 := pk_in d 9 (by omega) rfl
    have hns : rr_ns f (rr_rm S p) (j + 1) = rr_nk f t (rr_rm S p) + rr_ns f (rr_rm S p) j := by rw [← hjt]; rfl
    have hls : rr_ls f (rr_rm S p) (j + 1) = rr_lk f t (rr_rm S p) + rr_ls f (rr_rm S p) j := by rw [← hjt]; rfl
    have hfrom : rr_from sz ks os (rr_dfs sz ks os f) r (j + 1) acc = rr_from sz ks os (rr_dfs sz ks os f) r j (rr_kid sz ks os (rr_dfs sz ks os f) t r acc) := by rw [← hjt]; rfl
    rw [hfrom] at hc
    rw [hns] at hw hc
    rw [hls] at hB
    refine br_f (nI_ge (b := 20160) (by omega) (by decide)) (br_f (nI_pos (by omega)) ⟨vd, nm_r (show _ = nI t by rw [cd]; exact hnt) (br_f (rr_t3 t ht) ⟨vd, nm_r (show _ = upd nt d (nI (t + 1)) by rw [cd, nI_1]) (xs_can_path hP hR (by omega) ht hr (rr_bd (fun z => ?_) (fun z => ?_)))⟩)⟩)
    · rw [rr_kid_f z] at hc
      refine nm_r (nI_1 w) (ihj (t + 1) (by omega) acc pa (upd nt d (nI (t + 1))) fo (w + 1) n hr hF (fun y => by have := hB y; omega) pk_us (by omega) (by omega) ?_)
      intro pa' nt' fo' w' n' h1 h2 h3 h4 h5
      exact hc pa' nt' fo' w' n' (by omega) (by omega) h3 (fun i hil => by rw [h4 i hil, pk_un (by omega)]) h5
    · have hl := (rr_lt hP hR ht).mp (rr_en_lt z)
      have hrm : rr_rm S p t ≠ 0 := by unfold rr_rm; omega
      obtain ⟨f, rfl⟩ : ∃ m, f = m + 1 := ⟨f - 1, by
        rcases (show t = 0 ∨ t = 1 ∨ t = 2 by omega) with rfl | rfl | rfl <;> omega⟩
      rw [rr_kid_t z] at hc
      have hR1 := rr_st_Rk hP hR ht z
      have hbk := hB (rr_any_t ht z)
      have hlk : rr_lk (f + 1) t (rr_rm S p) = rr_LV (f + 1) (rr_rm S (rr_inc t p)) := by unfold rr_lk; rw [if_neg hrm, rr_rm_inc hl]
      have hnk : rr_nk (f + 1) t (rr_rm S p) = 1 + rr_ns f (rr_rm S (rr_inc t p)) 3 := by unfold rr_nk; rw [if_neg hrm, ← rr_rm_inc hl, rr_ND_s]
      have hroom := rr_room hP hR1 (f := f) (acc := acc) (by rw [← hlk]; omega)
      have hrk := rr_rm_kid ht hl hf
      have hrk8 : d + 1 + (rr_rm S (rr_inc t p) 0 + rr_rm S (rr_inc t p) 1 + rr_rm S (rr_inc t p) 2) ≤ 8 := by
        have h0 : ∃ m, rr_rm S p 0 + rr_rm S p 1 + rr_rm S p 2 = m + 1 := ⟨rr_rm S p 0 + rr_rm S p 1 + rr_rm S p 2 - 1, by rcases (show t = 0 ∨ t = 1 ∨ t = 2 by omega) with rfl | rfl | rfl <;> omega⟩
        obtain ⟨m, hm⟩ := h0
        have := rr_rm_kid ht hl (Nat.le_of_eq hm)
        omega
      have hlen := (rr_dfs_len hP (f + 1) (rr_st ks os t r) (rr_inc t p) acc hR1 (by omega)).2.1
      have hd8 : d < 8 := by omega
      refine xs_take_path hP hR hd8 ht hr (rr_en_lt z) (fun a ha hfr => nm_r (nI_1 d) (xs_arr hP hR1 hroom.1 (by omega) ha hF (fun fo1 hF1 => nm_r (nI_1 w) ?_)))
      refine ihf f (by omega) (rr_st ks os t r) (rr_inc t p) (d + 1) hR1 hrk hrk8 3 0 rfl (rr_arr sz ks os (rr_st ks os t r) acc) a (upd (upd nt d (nI (t + 1))) (d + 1) 0) fo1 (w + 1) n ha hF1 hroom.2 pk_us (by omega) (by omega) ?_
      intro pa2 nt2 fo2 w2 n2 h1 h2 h3 h4 h5
      rw [pk_m1]
      refine ihj (t + 1) (by omega) (rr_dfs sz ks os (f + 1) (rr_st ks os t r) acc) pa2 nt2 fo2 w2 n2 (fun c hcl => ?_) h5 (fun _ => by omega) ?_ (by omega) (by omega) ?_
      · rw [h3 _ (by omega), hfr _ (by omega)]; exact hr c hcl
      · rw [h4 d (by omega), pk_un (by omega), pk_us]
      · intro pa' nt' fo' w' n' g1 g2 g3 g4 g5
        refine hc pa' nt' fo' w' n' (by omega) (by omega) (fun i hil => ?_) (fun i hil => ?_) g5
        · rw [g3 i hil, h3 i (by omega), hfr i (by omega)]
        · rw [g4 i hil, h4 i (by omega), pk_un (by omega), pk_un (by omega)]
end
section
variable {ec fx : Int32} {sz ks os hi et ek eo mb kb oc pa nt fo : Nat → Int32}
variable {S p : Nat → Nat} {r : Nat → Int32} {e : Nat}
theorem xs_find (hP : rr_Pg sz ks os S) (hR : rr_Rk S r p) (he : e ≤ 8) (hr : ∀ c, c < 10 → hi (10 * e + c) = r c) {post : SX → Prop}
    (H : ∀ pa' nt' fo', rr_Fx (rr_dfs sz ks os 9 r []) fo' → post (ec, nI (rr_dfs sz ks os 9 r []).length, sz, ks, os, hi, et, ek, eo, mb, kb, oc, pa', nt', fo')) : wpX_findOutcomes post (ec, fx, sz, ks, os, hi, et, ek, eo, mb, kb, oc, pa, nt, fo) (nI e) := by
  obtain ⟨hrm, hLV, hND⟩ := rr_root hP hR
  rw [rr_ND_s] at hND
  have hroom := rr_room hP hR (f := 8) (acc := []) (by simpa using hLV)
  refine loop_0 (fun n i a => wX_findOutcomes_2 post (nI e) ec fx n (nI i) sz ks os hi et ek eo mb kb oc a nt fo) (fun i a => ∀ c, c < i → a c = r c) 10 pa (fun c hc => by omega) ?_ ?_
  · intro n a h1
    have hr0 : ∀ c, c < 10 → a (10 * 0 + c) = r c := fun c hc => by rw [show 10 * 0 + c = c by omega]; exact h1 c hc
    have F0 : rr_Fx [] fo := fun k o h => by cases h
    refine br_t (show (10 : Int32) ≤ nI 10 by decide) (xs_arr (acc := []) (d := 0) hP hR (by simp) (by omega) hr0 F0 (fun fo1 hF1 => ⟨20161, ?_⟩))
    refine xg_node hP 8 r p 0 hR hrm (by omega) 3 0 rfl (rr_arr sz ks os r []) a (upd nt 0 0) fo1 0 20161 hr0 hF1 hroom.2 pk_us (by omega) (by omega) ?_
    intro pa' nt' fo' w' n' h2 h3 h4 h5 h6
    obtain ⟨n', rfl⟩ : ∃ m, n' = m + 1 := ⟨n' - 1, by omega⟩
    exact br_c (fun _ => H pa' nt' fo' h6) (fun _ => br_t (by decide) (H pa' nt' fo' h6))
  · intro n i a hil h1 ih
    have e2 := rr_ix0 e i
    refine br_f (nI_ge (b := 10) hil (by decide)) ⟨pk_in _ _ (by omega) e2, pk_in i 90 (by omega) rfl, nm_r (show _ = upd a i (r i) by rw [e2, nI_clamp (by omega), nI_clamp (by omega), hr i hil]) (nm_r (nI_1 i) (ih _ (fun c hc => ?_)))⟩
    rcases Nat.decEq c i with z | z
    · rw [pk_un z]; exact h1 c (by omega)
    · rw [z, pk_us]
end
end
section
def rr_ac (k : Int32) : Bool := decide (k = 0) || decide (k = 1)
def rr_lc (k : Int32) : Bool := decide (k = 3) || decide (k = 4)
def rr_cfk (a b : Int32) : Bool := if rr_ac a && rr_ac b then decide (a = 1) || decide (b = 1) else rr_lc a && rr_lc b
def rr_cfy (a b : Int32) : Bool := (decide (¬ 2 ≤ a) && decide (¬ 2 ≤ b) && (decide (a = 1) || decide (b = 1))) || (decide (¬ a ≤ 2) && decide (¬ b ≤ 2))
theorem rr_cfe : ∀ a, a < 5 → ∀ b, b < 5 → rr_cfk (nI a) (nI b) = rr_cfy (nI a) (nI b) := by decide +kernel
def rr_cf (ks os : Nat → Int32) (T od : Nat → Nat) (i j : Nat) : Bool := !(decide (T i = T j)) && (decide (os (od i) = os (od j)) && rr_cfk (ks (od i)) (ks (od j)))
def rr_hv (ks os : Nat → Int32) (od : Nat → Nat) (i j : Nat) : Bool := decide (ks (od i) = 4) && (decide (ks (od j) = 3) && decide (os (od i) = os (od j)))
def rr_E (bl : Bool) (ks os : Nat → Int32) (T od : Nat → Nat) (i j : Nat) : Bool := decide (T i = T j) || (if bl then rr_hv ks os od i j else rr_cf ks os T od i j)
/-- paths whose inner events lie below k -/
def rr_P (E : Nat → Nat → Bool) : Nat → Nat → Nat → Bool
  | 0, i, j => decide (i < j) && E i j
  | k + 1, i, j => rr_P E k i j || (rr_P E k i k && rr_P E k k j)
section
variable {E E' : Nat → Nat → Bool}
theorem rr_P_lt : ∀ k i j, rr_P E k i j = true → i < j := by
  intro k
  induction k with
  | zero => intro i j h; simp [rr_P] at h; exact h.1
  | succ k ih =>
    intro i j h
    simp only [rr_P, Bool.or_eq_true, Bool.and_eq_true] at h
    rcases h with h | ⟨h1, h2⟩
    · exact ih i j h
    · have := ih i k h1; have := ih k j h2; omega
theorem rr_P_ge {k i j : Nat} (h : j ≤ i) : rr_P E k i j = false := by
  rcases z : rr_P E k i j with _ | _
  · rfl
  · have := rr_P_lt k i j z; omega
theorem rr_P_up {k i j : Nat} (h : rr_P E k i j = true) : ∀ m, rr_P E (k + m) i j = true := by
  intro m
  induction m with
  | zero => exact h
  | succ m ih => show (rr_P E (k + m) i j || _) = true; rw [ih]; rfl
theorem rr_P_mono {k m i j : Nat} (h : rr_P E k i j = true) (hm : k ≤ m) : rr_P E m i j = true := by
  have := rr_P_up h (m - k)
  rw [show k + (m - k) = m by omega] at this; exact this
/-- from k on nothing that ends at j ≤ k is new -/
theorem rr_P_end {i j : Nat} : ∀ m, rr_P E (j + m) i j = rr_P E j i j := by
  intro m
  induction m with
  | zero => rfl
  | succ m ih =>
    show (rr_P E (j + m) i j || (rr_P E (j + m) i (j + m) && rr_P E (j + m) (j + m) j)) = _
    rw [rr_P_ge (i := j + m) (j := j) (by omega), Bool.and_false, Bool.or_false, ih]
/-- up to i nothing that begins at i is new -/
theorem rr_P_beg {i j : Nat} : ∀ k, k ≤ i → rr_P E k i j = rr_P E 0 i j := by
  intro k
  induction k with
  | zero => intro _; rfl
  | succ k ih =>
    intro h
    show (rr_P E k i j || (rr_P E k i k && rr_P E k k j)) = _
    rw [rr_P_ge (i := i) (j := k) (by omega), Bool.false_and, Bool.or_false, ih (by omega)]
theorem rr_P_row {k i : Nat} : rr_P E (k + 1) i k = rr_P E k i k := by
  show (rr_P E k i k || (rr_P E k i k && rr_P E k k k)) = _
  rw [rr_P_ge (i := k) (j := k) (Nat.le_refl k), Bool.and_false, Bool.or_false]
theorem rr_P_col {k j : Nat} : rr_P E (k + 1) k j = rr_P E k k j := by
  show (rr_P E k k j || (rr_P E k k k && rr_P E k k j)) = _
  rw [rr_P_ge (i := k) (j := k) (Nat.le_refl k), Bool.false_and, Bool.or_false]
theorem rr_P_iff {i j : Nat} (hj : j ≤ 8) : rr_P E 8 i j = true ↔ ∃ a, a < j ∧ E a j = true ∧ (i = a ∨ rr_P E 8 i a = true) := by
  constructor
  · have key : ∀ k, k ≤ 8 → rr_P E k i j = true → ∃ a, a < j ∧ E a j = true ∧ (i = a ∨ rr_P E 8 i a = true) := by
      intro k
      induction k with
      | zero =>
        intro _ h
        simp [rr_P] at h
        exact ⟨i, h.1, h.2, Or.inl rfl⟩
      | succ k ih =>
        intro hk h
        simp only [rr_P, Bool.or_eq_true, Bool.and_eq_true] at h
        rcases h with h | ⟨h1, h2⟩
        · exact ih (by omega) h
        · rw [rr_P_beg k (Nat.le_refl k)] at h2
          simp [rr_P] at h2
          exact ⟨k, h2.1, h2.2, Or.inr (rr_P_mono h1 (by omega))⟩
    exact key 8 (Nat.le_refl 8)
  · rintro ⟨a, ha, he, h | h⟩
    · subst h
      have h0 : rr_P E 0 i j = true := by simp [rr_P, ha, he]
      exact rr_P_mono h0 (by omega)
    · have h1 : rr_P E a i a = true := by
        have := rr_P_end (E := E) (i := i) (j := a) (8 - a)
        rw [show a + (8 - a) = 8 by omega] at this
        rw [← this]; exact h
      have h2 : rr_P E a a j = true := rr_P_mono (k := 0) (by simp [rr_P, ha, he]) (by omega)
      have h3 : rr_P E (a + 1) i j = true := by
        show (rr_P E a i j || (rr_P E a i a && rr_P E a a j)) = true
        rw [h1, h2]; simp
      exact rr_P_mono h3 (by omega)
theorem rr_P_congr {n : Nat} (h : ∀ i j, i < j → j < n → E' i j = E i j) : ∀ k i j, j < n → rr_P E' k i j = rr_P E k i j := by
  intro k
  induction k with
  | zero =>
    intro i j hj
    show (decide (i < j) && E' i j) = (decide (i < j) && E i j)
    by_cases z : i < j
    · rw [h i j z hj]
    · rw [decide_eq_false z]; rfl
  | succ k ih =>
    intro i j hj
    show (rr_P E' k i j || (rr_P E' k i k && rr_P E' k k j)) = (rr_P E k i j || (rr_P E k i k && rr_P E k k j))
    rw [ih i j hj, ih k j hj]
    rcases Nat.lt_or_ge k n with z | z
    · rw [ih i k z]
    · rw [rr_P_ge (E := E) (i := k) (j := j) (by omega), Bool.and_false, Bool.and_false]
end
theorem rr_E_congr {bl : Bool} {ks os : Nat → Int32} {T T' od od' : Nat → Nat} {n : Nat} (hT : ∀ i, i < n → T' i = T i) (ho : ∀ i, i < n → od' i = od i) : ∀ i j, i < j → j < n → rr_E bl ks os T' od' i j = rr_E bl ks os T od i j := by
  intro i j h1 h2
  unfold rr_E rr_hv rr_cf
  rw [hT i (by omega), hT j h2, ho i (by omega), ho j h2]
/-- what the two sides know of the events -/
def rr_Ev (n : Nat) (T od : Nat → Nat) : Prop := n ≤ 8 ∧ ∀ i, i < n → T i < 3 ∧ od i < 12 ∧ od i / 4 = T i
def rr_Xe (n : Nat) (ks os : Nat → Int32) (T od : Nat → Nat) (et ek eo : Nat → Int32) : Prop := ∀ i, i < n → et i = nI (T i) ∧ ek i = ks (od i) ∧ eo i = os (od i)
def rr_Ye (n : Nat) (od : Nat → Nat) (dn : Nat → Int32) : Prop := ∀ i, i < n → dn i = nI (od i)
section
variable {ec fx : Int32} {sz ks os hi et ek eo mb kb oc pa nt fo : Nat → Int32}
variable {T od : Nat → Nat} {n i j : Nat} {S : Nat → Nat}
theorem xs_acc {k : Int32} {post : Int32 → Prop} (h : post (rr_b (rr_ac k))) : wpX_isAccess post k := by
  unfold rr_ac at h
  by_cases a : k = 0
  · rw [decide_eq_true a] at h; exact br_t a h
  · refine br_f a ?_
    rw [decide_eq_false a] at h
    by_cases b : k = 1
    · rw [decide_eq_true b] at h; exact br_t b h
    · rw [decide_eq_false b] at h; exact br_f b h
theorem xs_lck {k : Int32} {post : Int32 → Prop} (h : post (rr_b (rr_lc k))) : wpX_isLocking post k := by
  unfold rr_lc at h
  by_cases a : k = 3
  · rw [decide_eq_true a] at h; exact br_t a h
  · refine br_f a ?_
    rw [decide_eq_false a] at h
    by_cases b : k = 4
    · rw [decide_eq_true b] at h; exact br_t b h
    · rw [decide_eq_false b] at h; exact br_f b h
theorem rr_nIT {a b : Nat} (ha : a < 3) (hb : b < 3) : nI a = nI b ↔ a = b := nI_eq (by omega) (by omega)
theorem xs_conf (hE : rr_Ev n T od) (hX : rr_Xe n ks os T od et ek eo) (hi' : i < n) (hj' : j < n) {post : Int32 → Prop} (h : post (rr_b (rr_cf ks os T od i j))) : wpX_inConflict post (ec, fx, sz, ks, os, hi, et, ek, eo, mb, kb, oc, pa, nt, fo) (nI i) (nI j) := by
  have n8 := hE.1
  have ci : (nI i).toNatClampNeg = i := nI_clamp (by omega)
  have cj : (nI j).toNatClampNeg = j := nI_clamp (by omega)
  have vi : vp_in (nI i) 8 := pk_in i 8 (by omega) rfl
  have vj : vp_in (nI j) 8 := pk_in j 8 (by omega) rfl
  obtain ⟨a1, a2, a3⟩ := hX i hi'
  obtain ⟨b1, b2, b3⟩ := hX j hj'
  have hT := rr_nIT (hE.2 i hi').1 (hE.2 j hj').1
  refine ⟨vi, vj, ?_⟩
  rw [ci, cj, a1, b1, a2, b2, a3, b3]
  unfold rr_cf at h
  by_cases t : T i = T j
  · rw [decide_eq_true t] at h; exact br_t (hT.mpr t) h
  · refine br_f (fun z => t (hT.mp z)) ⟨vi, vj, ?_⟩
    rw [decide_eq_false t] at h
    by_cases o : os (od i) = os (od j)
    · refine br_t o ⟨vi, nm_e ⟨vj, nm_e ?_⟩⟩
      rw [decide_eq_true o] at h
      have h' : post (rr_b (rr_cfk (ks (od i)) (ks (od j)))) := h
      unfold rr_cfk at h'
      have lk : (rr_ac (ks (od i)) && rr_ac (ks (od j))) = false → wX_inConflict_79 post (ks (od i)) (ks (od j)) ec fx sz ks os hi et ek eo mb kb oc pa nt fo := by
        intro z
        rw [z] at h'
        have h'' : post (rr_b (rr_lc (ks (od i)) && rr_lc (ks (od j)))) := h'
        refine xs_lck (rr_bd (fun y => ?_) (fun y => xs_lck (rr_bd (fun w => ?_) (fun w => ?_))))
        · rw [y] at h''; exact h''
        · rw [y, w] at h''; exact h''
        · rw [y, w] at h''; exact h''
      refine xs_acc (rr_bd (fun y => lk (by rw [y]; rfl)) (fun y => xs_acc (rr_bd (fun w => lk (by rw [y, w]; rfl)) (fun w => ?_))))
      rw [y, w] at h'
      have h'' : post (rr_b (decide (ks (od i) = 1) || decide (ks (od j) = 1))) := h'
      by_cases q : ks (od i) = 1
      · rw [decide_eq_true q] at h''; exact br_t q h''
      · refine br_f q ?_
        rw [decide_eq_false q] at h''
        by_cases s : ks (od j) = 1
        · rw [decide_eq_true s] at h''; exact br_t s h''
        · rw [decide_eq_false s] at h''; exact br_f s h''
    · rw [decide_eq_false o] at h; exact br_f o h
theorem xs_hand (hE : rr_Ev n T od) (hX : rr_Xe n ks os T od et ek eo) (hi' : i < n) (hj' : j < n) {post : Int32 → Prop} (h : post (rr_b (rr_hv ks os od i j))) : wpX_isHandOver post (ec, fx, sz, ks, os, hi, et, ek, eo, mb, kb, oc, pa, nt, fo) (nI i) (nI j) := by
  have n8 := hE.1
  have ci : (nI i).toNatClampNeg = i := nI_clamp (by omega)
  have cj : (nI j).toNatClampNeg = j := nI_clamp (by omega)
  have vi : vp_in (nI i) 8 := pk_in i 8 (by omega) rfl
  have vj : vp_in (nI j) 8 := pk_in j 8 (by omega) rfl
  obtain ⟨a1, a2, a3⟩ := hX i hi'
  obtain ⟨b1, b2, b3⟩ := hX j hj'
  refine ⟨vi, ?_⟩
  rw [ci, cj, a2, b2, a3, b3]
  unfold rr_hv at h
  by_cases a : ks (od i) = 4
  · rw [decide_eq_true a] at h
    refine br_t a ⟨vj, ?_⟩
    by_cases b : ks (od j) = 3
    · rw [decide_eq_true b] at h
      refine br_t b ⟨vi, vj, ?_⟩
      by_cases o : os (od i) = os (od j)
      · rw [decide_eq_true o] at h; exact br_t o h
      · rw [decide_eq_false o] at h; exact br_f o h
    · rw [decide_eq_false b] at h; exact br_f b h
  · rw [decide_eq_false a] at h; exact br_f a h
end
theorem rr_bshl {a b : Nat} (ha : a < 32) (hb : b < 32) : bt ((1 : Int32) <<< (nI a &&& 31)) b = decide (b = a) := by
  have : ∀ a, a < 32 → ∀ b, b < 32 → bt ((1 : Int32) <<< (nI a &&& 31)) b = decide (b = a) := by decide +kernel
  exact this a ha b hb
section
variable {ec fx : Int32} {sz ks os hi et ek eo mb kb oc pa nt fo : Nat → Int32}
variable {T od : Nat → Nat} {n j : Nat} {S : Nat → Nat}
theorem xs_bef_Must (bl : Bool) (hbl : bl = false) (hE : rr_Ev n T od) (hX : rr_Xe n ks os T od et ek eo) (hj' : j < n) (hM : ∀ a, a < j → ∀ b, b < 32 → bt (mb a) b = rr_P (rr_E bl ks os T od) 8 b a) {post : Int32 → Prop}
    (H : ∀ v, (∀ b, b < 32 → bt v b = rr_P (rr_E bl ks os T od) 8 b j) → post v) : wpX_allMustBefore post (ec, fx, sz, ks, os, hi, et, ek, eo, mb, kb, oc, pa, nt, fo) (nI j) := by
  have n8 := hE.1
  have vj : vp_in (nI j) 8 := pk_in j 8 (by omega) rfl
  have cj : (nI j).toNatClampNeg = j := nI_clamp (by omega)
  refine loop_0 (fun n i (v : Int32) => wX_allMustBefore_4 post (nI j) ec fx sz ks os hi et ek eo mb kb oc pa nt fo n v (nI i)) (fun i v => ∀ b, b < 32 → (bt v b = true ↔ ∃ a, a < i ∧ rr_E bl ks os T od a j = true ∧ (b = a ∨ rr_P (rr_E bl ks os T od) 8 b a = true))) j 0 (fun b hb => ?_) ?_ ?_
  · rw [b_0]
    exact ⟨(fun z => by cases z), fun ⟨a, ha, _⟩ => by omega⟩
  · intro n v h1
    refine br_t (nI_le (Nat.le_refl _) (by omega)) (H v (fun b hb => ?_))
    have := (h1 b hb).trans (rr_P_iff (E := rr_E bl ks os T od) (i := b) (j := j) (by omega)).symm
    rcases z : rr_P (rr_E bl ks os T od) 8 b j with _ | _
    · rcases y : bt v b with _ | _
      · rfl
      · rw [z] at this; exact absurd (this.mp y) (by decide)
    · exact this.mpr z
  · intro m i v hil h1 ih
    have vi : vp_in (nI i) 8 := pk_in i 8 (by omega) rfl
    have ci : (nI i).toNatClampNeg = i := nI_clamp (by omega)
    obtain ⟨a1, a2, a3⟩ := hX i (by omega)
    obtain ⟨b1, b2, b3⟩ := hX j hj'
    have hT := rr_nIT (hE.2 i (by omega)).1 (hE.2 j hj').1
    have yes : rr_E bl ks os T od i j = true → wX_allMustBefore_33 post (wX_allMustBefore_4 post (nI j) ec fx sz ks os hi et ek eo mb kb oc pa nt fo m) (nI j) v (nI i) ec fx sz ks os hi et ek eo mb kb oc pa nt fo := by
      intro he
      refine ⟨vi, nm_r (show _ = v ||| (mb i ||| ((1 : Int32) <<< (nI i &&& 31))) by rw [ci]) (nm_r (nI_1 i) (ih _ (fun b hb => ?_)))⟩
      rw [b_or, b_or, rr_bshl (by omega) hb, hM i hil b hb, Bool.or_eq_true, Bool.or_eq_true, h1 b hb, decide_eq_true_iff]
      constructor
      · rintro (⟨a, x, y⟩ | z | z)
        · exact ⟨a, by omega, y⟩
        · exact ⟨i, by omega, he, Or.inr z⟩
        · exact ⟨i, by omega, he, Or.inl z⟩
      · rintro ⟨a, x, y, z⟩
        rcases Nat.decEq a i with w | w
        · exact Or.inl ⟨a, by omega, y, z⟩
        · subst w
          rcases z with z | z
          · exact Or.inr (Or.inr z)
          · exact Or.inr (Or.inl z)
    have no : rr_E bl ks os T od i j = false → wX_allMustBefore_4 post (nI j) ec fx sz ks os hi et ek eo mb kb oc pa nt fo m v (nI (i + 1)) := by
      intro he
      refine ih _ (fun b hb => ?_)
      rw [h1 b hb]
      constructor
      · rintro ⟨a, x, y⟩; exact ⟨a, by omega, y⟩
      · rintro ⟨a, x, y, z⟩
        rcases Nat.decEq a i with w | w
        · exact ⟨a, by omega, y, z⟩
        · subst w; rw [he] at y; cases y
    refine br_f (nI_ge hil (by omega)) ⟨vi, vj, ?_⟩
    rw [ci, cj, a1, b1]
    by_cases t : T i = T j
    · exact br_t (hT.mpr t) (yes (by unfold rr_E; rw [decide_eq_true t]; rfl))
    · refine br_f (fun z => t (hT.mp z)) (xs_conf hE hX (by omega) hj' (rr_bd (fun z => nm_r (nI_1 i) (no ?_)) (fun z => yes ?_)))
      · unfold rr_E; rw [decide_eq_false t, hbl]; exact z
      · unfold rr_E; rw [decide_eq_false t, hbl]; exact z
theorem xs_bef_Known (bl : Bool) (hbl : bl = true) (hE : rr_Ev n T od) (hX : rr_Xe n ks os T od et ek eo) (hj' : j < n) (hM : ∀ a, a < j → ∀ b, b < 32 → bt (kb a) b = rr_P (rr_E bl ks os T od) 8 b a) {post : Int32 → Prop}
    (H : ∀ v, (∀ b, b < 32 → bt v b = rr_P (rr_E bl ks os T od) 8 b j) → post v) : wpX_allKnownBefore post (ec, fx, sz, ks, os, hi, et, ek, eo, mb, kb, oc, pa, nt, fo) (nI j) := by
  have n8 := hE.1
  have vj : vp_in (nI j) 8 := pk_in j 8 (by omega) rfl
  have cj : (nI j).toNatClampNeg = j := nI_clamp (by omega)
  refine loop_0 (fun n i (v : Int32) => wX_allKnownBefore_4 post (nI j) ec fx sz ks os hi et ek eo mb kb oc pa nt fo n v (nI i)) (fun i v => ∀ b, b < 32 → (bt v b = true ↔ ∃ a, a < i ∧ rr_E bl ks os T od a j = true ∧ (b = a ∨ rr_P (rr_E bl ks os T od) 8 b a = true))) j 0 (fun b hb => ?_) ?_ ?_
  · rw [b_0]
    exact ⟨(fun z => by cases z), fun ⟨a, ha, _⟩ => by omega⟩
  · intro n v h1
    refine br_t (nI_le (Nat.le_refl _) (by omega)) (H v (fun b hb => ?_))
    have := (h1 b hb).trans (rr_P_iff (E := rr_E bl ks os T od) (i := b) (j := j) (by omega)).symm
    rcases z : rr_P (rr_E bl ks os T od) 8 b j with _ | _
    · rcases y : bt v b with _ | _
      · rfl
      · rw [z] at this; exact absurd (this.mp y) (by decide)
    · exact this.mpr z
  · intro m i v hil h1 ih
    have vi : vp_in (nI i) 8 := pk_in i 8 (by omega) rfl
    have ci : (nI i).toNatClampNeg = i := nI_clamp (by omega)
    obtain ⟨a1, a2, a3⟩ := hX i (by omega)
    obtain ⟨b1, b2, b3⟩ := hX j hj'
    have hT := rr_nIT (hE.2 i (by omega)).1 (hE.2 j hj').1
    have yes : rr_E bl ks os T od i j = true → wX_allKnownBefore_33 post (wX_allKnownBefore_4 post (nI j) ec fx sz ks os hi et ek eo mb kb oc pa nt fo m) (nI j) v (nI i) ec fx sz ks os hi et ek eo mb kb oc pa nt fo := by
      intro he
      refine ⟨vi, nm_r (show _ = v ||| (kb i ||| ((1 : Int32) <<< (nI i &&& 31))) by rw [ci]) (nm_r (nI_1 i) (ih _ (fun b hb => ?_)))⟩
      rw [b_or, b_or, rr_bshl (by omega) hb, hM i hil b hb, Bool.or_eq_true, Bool.or_eq_true, h1 b hb, decide_eq_true_iff]
      constructor
      · rintro (⟨a, x, y⟩ | z | z)
        · exact ⟨a, by omega, y⟩
        · exact ⟨i, by omega, he, Or.inr z⟩
        · exact ⟨i, by omega, he, Or.inl z⟩
      · rintro ⟨a, x, y, z⟩
        rcases Nat.decEq a i with w | w
        · exact Or.inl ⟨a, by omega, y, z⟩
        · subst w
          rcases z with z | z
          · exact Or.inr (Or.inr z)
          · exact Or.inr (Or.inl z)
    have no : rr_E bl ks os T od i j = false → wX_allKnownBefore_4 post (nI j) ec fx sz ks os hi et ek eo mb kb oc pa nt fo m v (nI (i + 1)) := by
      intro he
      refine ih _ (fun b hb => ?_)
      rw [h1 b hb]
      constructor
      · rintro ⟨a, x, y⟩; exact ⟨a, by omega, y⟩
      · rintro ⟨a, x, y, z⟩
        rcases Nat.decEq a i with w | w
        · exact ⟨a, by omega, y, z⟩
        · subst w; rw [he] at y; cases y
    refine br_f (nI_ge hil (by omega)) ⟨vi, vj, ?_⟩
    rw [ci, cj, a1, b1]
    by_cases t : T i = T j
    · exact br_t (hT.mpr t) (yes (by unfold rr_E; rw [decide_eq_true t]; rfl))
    · refine br_f (fun z => t (hT.mp z)) (xs_hand hE hX (by omega) hj' (rr_bd (fun z => nm_r (nI_1 i) (no ?_)) (fun z => yes ?_)))
      · unfold rr_E; rw [decide_eq_false t, hbl]; exact z
      · unfold rr_E; rw [decide_eq_false t, hbl]; exact z
end
end
section
theorem rr_nar0 : vp_nar .boolean 0 = 0 := by rfl
theorem rr_nar1 : vp_nar .boolean 1 = 1 := by rfl
theorem rr_narb (b : Bool) : vp_nar .boolean (rr_b b) = rr_b b := by cases b <;> rfl
section
variable {cn fy dy : Int32} {ks os sz bg va rg ho pl dn ol rl sm kp tr fd : Nat → Int32}
variable {T od : Nat → Nat} {n i j : Nat} {S : Nat → Nat}
theorem ys_cf0 {x3 x4 : Int32} {post : Int32 → Prop} (h : post 0) : wY_conflict_74 post x3 x4 0 cn fy dy ks os sz bg va rg ho pl dn ol rl sm kp tr fd := by
  have a : wY_conflict_102 post x3 x4 0 cn fy dy ks os sz bg va rg ho pl dn ol rl sm kp tr fd := br_t rfl h
  have b : wY_conflict_98 post x3 x4 0 cn fy dy ks os sz bg va rg ho pl dn ol rl sm kp tr fd := br_t rfl h
  exact br_c (fun _ => a) (fun _ => br_c (fun _ => a) (fun _ => br_c (fun _ => b) (fun _ => br_c (fun _ => b) (fun _ => a))))
theorem ys_cf1 {x3 x4 : Int32} {post : Int32 → Prop} (h : post (rr_b (rr_cfy x3 x4))) : wY_conflict_74 post x3 x4 1 cn fy dy ks os sz bg va rg ho pl dn ol rl sm kp tr fd := by
  unfold rr_cfy at h
  have a : (decide (¬ 2 ≤ x3) && decide (¬ 2 ≤ x4) && (decide (x3 = 1) || decide (x4 = 1))) = false → wY_conflict_102 post x3 x4 1 cn fy dy ks os sz bg va rg ho pl dn ol rl sm kp tr fd := by
    intro z
    rw [z] at h
    refine br_f (by decide) (br_t rfl ?_)
    by_cases p : x3 ≤ 2
    · rw [decide_eq_false (fun y => y p)] at h; exact br_t p h
    · refine br_f p ?_
      rw [decide_eq_true p] at h
      by_cases q : x4 ≤ 2
      · rw [decide_eq_false (fun y => y q)] at h; exact br_t q h
      · rw [decide_eq_true q] at h; exact br_f q h
  have b : (decide (¬ 2 ≤ x3) && decide (¬ 2 ≤ x4) && (decide (x3 = 1) || decide (x4 = 1))) = true → wY_conflict_98 post x3 x4 1 cn fy dy ks os sz bg va rg ho pl dn ol rl sm kp tr fd := by
    intro z
    rw [z] at h
    exact br_f (by decide) (br_f (by decide) h)
  by_cases p : 2 ≤ x3
  · exact br_t p (a (by simp [p]))
  · refine br_f p ?_
    by_cases q : 2 ≤ x4
    · exact br_t q (a (by simp [q]))
    · refine br_f q ?_
      by_cases r : x3 = 1
      · refine br_t r (b ?_)
        rw [decide_eq_true p, decide_eq_true q, decide_eq_true r]; rfl
      · refine br_f r ?_
        by_cases s : x4 = 1
        · refine br_t s (b ?_)
          rw [decide_eq_true p, decide_eq_true q, decide_eq_true s]; simp
        · refine br_f s (a ?_)
          rw [decide_eq_false r, decide_eq_false s]; simp
theorem ys_div (hE : rr_Ev n T od) (hD : rr_Ye n od dn) (hi : i < n) : dn (nI i).toNatClampNeg / 4 = nI (T i) ∧ vp_in (dn (nI i).toNatClampNeg) 12 ∧ (dn (nI i).toNatClampNeg).toNatClampNeg = od i := by
  have n8 := hE.1
  obtain ⟨a, b, c⟩ := hE.2 i hi
  rw [nI_clamp (by omega), hD i hi]
  refine ⟨?_, pk_in _ _ b rfl, nI_clamp (by omega)⟩
  rw [show (4 : Int32) = nI 4 from rfl, pk_div (by omega) (by omega) (by omega), c]
theorem ys_conf (hP : rr_Pg sz ks os S) (hE : rr_Ev n T od) (hD : rr_Ye n od dn) (hi : i < n) (hj : j < n) {post : Int32 → Prop} (h : post (rr_b (rr_cf ks os T od i j))) : wpY_conflict post (cn, fy, dy, ks, os, sz, bg, va, rg, ho, pl, dn, ol, rl, sm, kp, tr, fd) (nI i) (nI j) := by
  have n8 := hE.1
  have vi : vp_in (nI i) 8 := pk_in i 8 (by omega) rfl
  have vj : vp_in (nI j) 8 := pk_in j 8 (by omega) rfl
  obtain ⟨a1, a2, a3⟩ := ys_div hE hD hi
  obtain ⟨b1, b2, b3⟩ := ys_div hE hD hj
  have hT := rr_nIT (hE.2 i hi).1 (hE.2 j hj).1
  obtain ⟨k1, hk1, e1, _⟩ := hP.2.2 (od i) (hE.2 i hi).2.1
  obtain ⟨k2, hk2, e2, _⟩ := hP.2.2 (od j) (hE.2 j hj).2.1
  unfold rr_cf at h
  rw [e1, e2, rr_cfe k1 (by omega) k2 (by omega), ← e1, ← e2] at h
  refine ⟨vi, a2, nm_r (congrArg ks a3) ⟨vj, b2, nm_r (congrArg ks b3) ⟨vi, a2, vj, b2, ?_⟩⟩⟩
  rw [a1, b1, a3, b3]
  by_cases o : os (od i) = os (od j)
  · rw [decide_eq_true o] at h
    refine br_t o ⟨vi, by decide, vj, by decide, ?_⟩
    by_cases t : T i = T j
    · rw [decide_eq_true t] at h; exact br_t (hT.mpr t) (ys_cf0 h)
    · rw [decide_eq_false t] at h; exact br_f (fun z => t (hT.mp z)) (ys_cf1 h)
  · rw [decide_eq_false o] at h
    refine br_f o (ys_cf0 ?_)
    rw [Bool.false_and, Bool.and_false] at h; exact h
theorem ys_lock (hE : rr_Ev n T od) (hD : rr_Ye n od dn) (hi : i < n) {post : Int32 → Prop} (h : post (rr_b (decide (¬ ks (od i) ≤ 2)))) : wpY_isOfLock post (cn, fy, dy, ks, os, sz, bg, va, rg, ho, pl, dn, ol, rl, sm, kp, tr, fd) (nI i) := by
  have n8 := hE.1
  have vi : vp_in (nI i) 8 := pk_in i 8 (by omega) rfl
  obtain ⟨a1, a2, a3⟩ := ys_div hE hD hi
  refine ⟨vi, a2, ?_⟩
  rw [a3]
  by_cases z : ks (od i) ≤ 2
  · rw [decide_eq_false (fun y => y z)] at h; exact br_t z h
  · rw [decide_eq_true z] at h; exact br_f z h
end
def rr_cell (E : Nat → Nat → Bool) (n k m : Nat) : Bool := decide (m % 8 < n) && rr_P E k (m / 8) (m % 8)
section
variable {cn fy dy : Int32} {ks os sz bg va rg ho pl dn ol sm kp tr fd : Nat → Int32}
variable {T od : Nat → Nat} {n : Nat} {S : Nat → Nat}
theorem ys_base (bl : Bool) (hP : rr_Pg sz ks os S) (hE : rr_Ev n T od) (hD : rr_Ye n od dn) {post : SY → Prop} {m N : Nat} (hm : m < 64) {rl : Nat → Int32}
    (H : wY_close_2 post (rr_b bl) (nI n) fy dy N (nI (m + 1)) ks os sz bg va rg ho pl dn ol (upd rl m (rr_b (rr_cell (rr_E bl ks os T od) n 0 m))) sm kp tr fd) : wY_close_2 post (rr_b bl) (nI n) fy dy (N + 1) (nI m) ks os sz bg va rg ho pl dn ol rl sm kp tr fd := by
  have n8 := hE.1
  have cm : (nI m).toNatClampNeg = m := nI_clamp (by omega)
  have vm : vp_in (nI m) 64 := pk_in m 64 hm rfl
  have ed : nI m / 8 = nI (m / 8) := pk_div (d := 8) (by omega) (by omega) (by omega)
  have er : nI m - nI m / 8 * 8 = nI (m % 8) := pk_rem (d := 8) (by omega) (by omega) (by omega)
  have hc : rr_cell (rr_E bl ks os T od) n 0 m = (decide (m % 8 < n) && (decide (m / 8 < m % 8) && rr_E bl ks os T od (m / 8) (m % 8))) := rfl
  have s0 : ∀ b : Bool, rr_cell (rr_E bl ks os T od) n 0 m = b → ∀ x, x = rr_b b → (vp_in (nI m) 64 ∧ ∀ a, a = upd rl (nI m).toNatClampNeg (vp_nar .boolean x) → ∀ y, y = nI m + 1 → wY_close_2 post (rr_b bl) (nI n) fy dy N y ks os sz bg va rg ho pl dn ol a sm kp tr fd) := by
    intro b hb x hx
    refine ⟨vm, nm_r (show _ = upd rl m (rr_b (rr_cell (rr_E bl ks os T od) n 0 m)) by rw [cm, hx, rr_narb, hb]) (nm_r (nI_1 m) H)⟩
  have no : rr_cell (rr_E bl ks os T od) n 0 m = false → wY_close_38 post (wY_close_2 post (rr_b bl) (nI n) fy dy N) (rr_b bl) (nI m) (nI (m / 8)) (nI (m % 8)) (nI n) fy dy ks os sz bg va rg ho pl dn ol rl sm kp tr fd := by
    intro hb
    exact br_t rfl (br_t rfl (s0 false hb 0 rfl))
  refine br_f (nI_ge (b := 64) hm (by decide)) ⟨by decide, nm_r ed ⟨by decide, nm_r er ?_⟩⟩
  rcases Nat.lt_or_ge (m / 8) (m % 8) with h1 | h1
  · refine br_f (nI_ge h1 (by omega)) ?_
    rcases Nat.lt_or_ge (m % 8) n with h2 | h2
    · refine br_f (nI_ge h2 (by omega)) ?_
      generalize hi : m / 8 = i at *
      generalize hj : m % 8 = j at *
      have hin : i < n := by omega
      have vi : vp_in (nI i) 8 := pk_in i 8 (by omega) rfl
      have vj : vp_in (nI j) 8 := pk_in j 8 (by omega) rfl
      obtain ⟨a1, a2, a3⟩ := ys_div hE hD hin
      obtain ⟨b1, b2, b3⟩ := ys_div hE hD h2
      have hT := rr_nIT (hE.2 i hin).1 (hE.2 j h2).1
      have hc' : rr_cell (rr_E bl ks os T od) n 0 m = rr_E bl ks os T od i j := by rw [hc, decide_eq_true h2, decide_eq_true h1]; rfl
      have fin : ∀ z : Bool, z = rr_hv ks os od i j → wY_close_108 post (wY_close_2 post (rr_b bl) (nI n) fy dy N) (rr_b bl) (nI m) (nI i) (nI j) 1 (rr_b z) (nI n) fy dy ks os sz bg va rg ho pl dn ol rl sm kp tr fd := by
        intro z hz
        refine br_f (by decide) ⟨vi, by decide, vj, by decide, ?_⟩
        rw [a1, b1]
        by_cases t : T i = T j
        · exact br_t (hT.mpr t) (s0 true (by rw [hc']; unfold rr_E; rw [decide_eq_true t]; rfl) 1 rfl)
        · refine br_f (fun q => t (hT.mp q)) ?_
          cases bl with
          | false =>
            have hEc : rr_E false ks os T od i j = rr_cf ks os T od i j := by unfold rr_E; rw [decide_eq_false t]; rfl
            rw [hEc] at hc'
            exact br_t rfl (ys_conf hP hE hD hin h2 (rr_bd (fun y => s0 false (by rw [hc']; exact y) 0 rfl) (fun y => s0 true (by rw [hc']; exact y) 1 rfl)))
          | true =>
            have hEc : rr_E true ks os T od i j = rr_hv ks os od i j := by unfold rr_E; rw [decide_eq_false t]; rfl
            rw [hEc] at hc'
            exact br_f (by decide) (rr_bd (fun y => s0 false (by rw [hc', ← hz]; exact y) 0 rfl) (fun y => s0 true (by rw [hc', ← hz]; exact y) 1 rfl))
      refine br_f (by decide) ⟨vi, a2, ?_⟩
      rw [a3, b3]
      have nz : rr_hv ks os od i j = false → wY_close_107 post (wY_close_2 post (rr_b bl) (nI n) fy dy N) (rr_b bl) (nI m) (nI i) (nI j) 1 (nI n) fy dy ks os sz bg va rg ho pl dn ol rl sm kp tr fd := fun y => fin false y.symm
      by_cases p : ks (od i) = 4
      · refine br_t p ⟨vj, b2, ?_⟩
        by_cases q : ks (od j) = 3
        · refine br_t q ⟨vi, a2, vj, b2, ?_⟩
          by_cases o : os (od i) = os (od j)
          · exact br_t o (fin true (by unfold rr_hv; rw [decide_eq_true p, decide_eq_true q, decide_eq_true o]; rfl))
          · exact br_f o (nz (by unfold rr_hv; rw [decide_eq_false o]; simp))
        · exact br_f q (nz (by unfold rr_hv; rw [decide_eq_false q]; simp))
      · exact br_f p (nz (by unfold rr_hv; rw [decide_eq_false p]; simp))
    · exact br_t (nI_le h2 (by omega)) (no (by rw [hc, decide_eq_false (by omega)]; rfl))
  · exact br_t (nI_le h1 (by omega)) (no (by rw [hc, decide_eq_false (show ¬ m / 8 < m % 8 by omega)]; simp))
theorem ys_war {E : Nat → Nat → Bool} (n8 : n ≤ 8) {post : SY → Prop} {J : Int32 → (Nat → Int32) → (Nat → Int32) → (Nat → Int32) → (Nat → Int32) → (Nat → Int32) → (Nat → Int32) → (Nat → Int32) → (Nat → Int32) → (Nat → Int32) → (Nat → Int32) → (Nat → Int32) → (Nat → Int32) → (Nat → Int32) → (Nat → Int32) → (Nat → Int32) → Prop} {k : Nat} (hk : k < 8) {rl : Nat → Int32}
    (h0 : ∀ m, m < 64 → rl m = rr_b (rr_cell E n k m)) (H : ∀ a, (∀ m, m < 64 → a m = rr_b (rr_cell E n (k + 1) m)) → J (nI (k + 1)) ks os sz bg va rg ho pl dn ol a sm kp tr fd) : ∃ N, wY_close_184 post J (nI k) cn fy dy N 0 ks os sz bg va rg ho pl dn ol rl sm kp tr fd := by
  refine loop_0 (fun N m a => wY_close_184 post J (nI k) cn fy dy N (nI m) ks os sz bg va rg ho pl dn ol a sm kp tr fd) (fun m a => (∀ c, c < m → a c = rr_b (rr_cell E n (k + 1) c)) ∧ ∀ c, m ≤ c → c < 64 → a c = rr_b (rr_cell E n k c)) 64 rl ⟨fun c hc => by omega, fun c _ hc => h0 c hc⟩ ?_ ?_
  · intro N a ⟨h1, h2⟩
    exact br_t (show (64 : Int32) ≤ nI 64 by decide) (nm_r (nI_1 k) (H a h1))
  · intro N m a hm ⟨h1, h2⟩ ih
    have cm : (nI m).toNatClampNeg = m := nI_clamp (by omega)
    have vm : vp_in (nI m) 64 := pk_in m 64 hm rfl
    have er : nI m - nI m / 8 * 8 = nI (m % 8) := pk_rem (d := 8) (by omega) (by omega) (by omega)
    have ei : nI m - (nI m - nI m / 8 * 8) + nI k = nI (8 * (m / 8) + k) := by
      rw [er, pk_sub (by omega), nI_add]; exact congrArg nI (by omega)
    have ej : 8 * nI k + (nI m - nI m / 8 * 8) = nI (8 * k + m % 8) := by
      rw [er, show (8 : Int32) = nI 8 from rfl, pk_mul, nI_add]
    have st : ∀ b : Bool, rr_cell E n (k + 1) m = b → ∀ x, x = rr_b b → (vp_in (nI m) 64 ∧ ∀ a', a' = upd a (nI m).toNatClampNeg (vp_nar .boolean x) → ∀ y, y = nI m + 1 → wY_close_184 post J (nI k) cn fy dy N y ks os sz bg va rg ho pl dn ol a' sm kp tr fd) := by
      intro b hb x hx
      refine ⟨vm, nm_r (show _ = upd a m (rr_b b) by rw [cm, hx, rr_narb]) (nm_r (nI_1 m) (ih _ ⟨fun c hc => ?_, fun c h3 h4 => ?_⟩))⟩
      · rcases Nat.decEq c m with z | z
        · rw [pk_un z]; exact h1 c (by omega)
        · rw [z, pk_us, hb]
      · rw [pk_un (by omega)]; exact h2 c (by omega) h4
    have va1 : a (8 * (m / 8) + k) = rr_b (decide (k < n) && rr_P E k (m / 8) k) := by
      have e1 : (8 * (m / 8) + k) / 8 = m / 8 := by omega
      have e2 : (8 * (m / 8) + k) % 8 = k := by omega
      rcases Nat.lt_or_ge (8 * (m / 8) + k) m with z | z
      · rw [h1 _ z]; unfold rr_cell; rw [e1, e2, rr_P_row]
      · rw [h2 _ z (by omega)]; unfold rr_cell; rw [e1, e2]
    have va2 : a (8 * k + m % 8) = rr_b (decide (m % 8 < n) && rr_P E k k (m % 8)) := by
      have e1 : (8 * k + m % 8) / 8 = k := by omega
      have e2 : (8 * k + m % 8) % 8 = m % 8 := by omega
      rcases Nat.lt_or_ge (8 * k + m % 8) m with z | z
      · rw [h1 _ z]; unfold rr_cell; rw [e1, e2, rr_P_col]
      · rw [h2 _ z (by omega)]; unfold rr_cell; rw [e1, e2]
    have va0 : a m = rr_b (decide (m % 8 < n) && rr_P E k (m / 8) (m % 8)) := h2 m (Nat.le_refl m) hm
    have hc : rr_cell E n (k + 1) m = (decide (m % 8 < n) && (rr_P E k (m / 8) (m % 8) || (rr_P E k (m / 8) k && rr_P E k k (m % 8)))) := rfl
    refine br_f (nI_ge (b := 64) hm (by decide)) ⟨vm, ?_⟩
    rw [cm, va0]
    refine rr_bd (fun z => ⟨by decide, pk_in _ _ (by omega) ei, ?_⟩) (fun z => ?_)
    · rw [ei, nI_clamp (by omega), va1]
      refine rr_bd (fun y => ?_) (fun y => ⟨by decide, pk_in _ _ (by omega) ej, ?_⟩)
      · have : rr_cell E n (k + 1) m = false := by
          rw [hc]
          rcases q : rr_P E k k (m % 8) with _ | _
          · rw [Bool.and_false, Bool.or_false]; exact z
          · have := rr_P_lt k k (m % 8) q
            rcases Nat.lt_or_ge (m % 8) n with w | w
            · rw [decide_eq_true (show k < n by omega)] at y
              rw [decide_eq_true w] at z ⊢
              have y' : rr_P E k (m / 8) k = false := y
              have z' : rr_P E k (m / 8) (m % 8) = false := z
              rw [y', z']; rfl
            · rw [decide_eq_false (by omega)]; rfl
        have := st false this 0 rfl
        rw [cm] at this; exact this
      · rw [ej, nI_clamp (by omega), va2]
        have y1 : rr_P E k (m / 8) k = true := by
          rw [Bool.and_eq_true] at y; exact y.2
        refine rr_bd (fun w => ?_) (fun w => ?_)
        · have : rr_cell E n (k + 1) m = false := by
            rw [hc, y1, Bool.true_and]
            rcases Nat.lt_or_ge (m % 8) n with q | q
            · rw [decide_eq_true q] at w z ⊢
              have w' : rr_P E k k (m % 8) = false := w
              have z' : rr_P E k (m / 8) (m % 8) = false := z
              rw [w', z']; rfl
            · rw [decide_eq_false (by omega)]; rfl
          have := st false this 0 rfl
          rw [cm] at this; exact this
        · have : rr_cell E n (k + 1) m = true := by
            rw [Bool.and_eq_true] at w
            rw [hc, w.1, y1, w.2]; simp
          have := st true this 1 rfl
          rw [cm] at this; exact this
    · have : rr_cell E n (k + 1) m = true := by
        rw [Bool.and_eq_true] at z
        rw [hc, z.1, z.2]; rfl
      have := st true this 1 rfl
      rw [cm] at this; exact this
theorem ys_close (bl : Bool) (hP : rr_Pg sz ks os S) (hE : rr_Ev n T od) (hD : rr_Ye n od dn) {post : SY → Prop} {rl : Nat → Int32}
    (H : ∀ a, (∀ i, i < 8 → ∀ j, j < 8 → a (8 * i + j) = rr_b (decide (j < n) && rr_P (rr_E bl ks os T od) 8 i j)) → post (nI n, fy, dy, ks, os, sz, bg, va, rg, ho, pl, dn, ol, a, sm, kp, tr, fd)) : wpY_close post (nI n, fy, dy, ks, os, sz, bg, va, rg, ho, pl, dn, ol, rl, sm, kp, tr, fd) (rr_b bl) := by
  refine loop_0 (fun N m a => wY_close_2 post (rr_b bl) (nI n) fy dy N (nI m) ks os sz bg va rg ho pl dn ol a sm kp tr fd) (fun m a => ∀ c, c < m → a c = rr_b (rr_cell (rr_E bl ks os T od) n 0 c)) 64 rl (fun c hc => by omega) ?_ ?_
  · intro N a h0
    refine br_t (show (64 : Int32) ≤ nI 64 by decide) ?_
    refine loop_0 (fun N k a => wY_close_176 post (nI n) fy dy N (nI k) ks os sz bg va rg ho pl dn ol a sm kp tr fd) (fun k a => ∀ m, m < 64 → a m = rr_b (rr_cell (rr_E bl ks os T od) n k m)) 8 a h0 ?_ ?_
    · intro N a h1
      refine br_t (show (8 : Int32) ≤ nI 8 by decide) (H a (fun i hi j hj => ?_))
      rw [h1 _ (by omega)]; unfold rr_cell
      rw [show (8 * i + j) / 8 = i by omega, show (8 * i + j) % 8 = j by omega]
    · intro N k a hk h1 ih
      exact br_f (nI_ge (b := 8) hk (by decide)) (ys_war hE.1 hk h1 (fun a' h' => ih a' h'))
  · intro N m a hm h1 ih
    refine ys_base bl hP hE hD hm (ih _ (fun c hc => ?_))
    rcases Nat.decEq c m with z | z
    · rw [pk_un z]; exact h1 c (by omega)
    · rw [z, pk_us]
end
end
section
def rr_od (ks os B : Nat → Int32) (T : Nat → Nat) (i : Nat) : Nat := rr_op (T i) (rr_run ks os B T i)
def rr_Rx (n : Nat) (T : Nat → Nat) (B ks os hi et ek eo mb kb : Nat → Int32) : Prop :=
  (∀ e, e ≤ n → ∀ c, c < 10 → hi (10 * e + c) = rr_run ks os B T e c) ∧ rr_Xe n ks os T (rr_od ks os B T) et ek eo ∧
  (∀ j, j < n → ∀ b, b < 32 → bt (mb j) b = rr_P (rr_E false ks os T (rr_od ks os B T)) 8 b j) ∧
  (∀ j, j < n → ∀ b, b < 32 → bt (kb j) b = rr_P (rr_E true ks os T (rr_od ks os B T)) 8 b j)
def rr_Ry (n : Nat) (T : Nat → Nat) (B ks os bg va rg ho pl dn ol : Nat → Int32) : Prop :=
  (∀ v, v < 2 → bg v = B v) ∧ rr_Yr (rr_run ks os B T n) va rg ho pl ∧
  ∀ i, i < n → dn i = nI (rr_op (T i) (rr_run ks os B T i)) ∧ rr_Ol ks os (T i) (rr_run ks os B T i) (ol i)
def i_Rel (_ : Nat) (u : SX) (v : SY) : Prop := ∃ (S T : Nat → Nat) (n : Nat) (B : Nat → Int32) (fx fy dy : Int32) (sz ks os hi et ek eo mb kb oc pa nt fo bg va rg ho pl dn ol rl sm kp tr fd : Nat → Int32),
  u = (nI n, fx, sz, ks, os, hi, et, ek, eo, mb, kb, oc, pa, nt, fo) ∧ v = (nI n, fy, dy, ks, os, sz, bg, va, rg, ho, pl, dn, ol, rl, sm, kp, tr, fd) ∧ rr_Go sz ks os S B T n ∧ rr_Rx n T B ks os hi et ek eo mb kb ∧ rr_Ry n T B ks os bg va rg ho pl dn ol
theorem i_up {k : Nat} {u : SX} {v : SY} (h : i_Rel k u v) : i_Rel (k + 4) u v := h
section
variable {ec fx cn fy dy : Int32} {sz ks os hi et ek eo mb kb oc pa nt fo bg va rg ho pl dn ol rl sm kp tr fd : Nat → Int32}
variable {S T : Nat → Nat} {n k : Nat} {B : Nat → Int32}
theorem rr_mk (hG : rr_Go sz ks os S B T n) (hX : rr_Rx n T B ks os hi et ek eo mb kb) (hY : rr_Ry n T B ks os bg va rg ho pl dn ol) : i_Rel k (nI n, fx, sz, ks, os, hi, et, ek, eo, mb, kb, oc, pa, nt, fo) (nI n, fy, dy, ks, os, sz, bg, va, rg, ho, pl, dn, ol, rl, sm, kp, tr, fd) :=
  ⟨S, T, n, B, fx, fy, dy, sz, ks, os, hi, et, ek, eo, mb, kb, oc, pa, nt, fo, bg, va, rg, ho, pl, dn, ol, rl, sm, kp, tr, fd, rfl, rfl, hG, hX, hY⟩
theorem rr_Ev_of (hG : rr_Go sz ks os S B T n) : rr_Ev n T (rr_od ks os B T) := by
  refine ⟨rr_Go_8 hG (Nat.le_refl n), fun i hil => ?_⟩
  obtain ⟨a, b⟩ := hG.2.2 i hil
  have hR := (rr_Go_Rk hG i (by omega)).1
  have hl := (rr_lt hG.1 hR a).mp (rr_en_lt b)
  have hS := rr_S4 hG.1 a
  have ho' : rr_od ks os B T i = 4 * T i + rr_ps T i (T i) := rr_opN hG.1 hR a
  rw [ho']
  exact ⟨a, by omega, by omega⟩
theorem rr_Ye_of (hY : rr_Ry n T B ks os bg va rg ho pl dn ol) : rr_Ye n (rr_od ks os B T) dn := fun i hil => (hY.2.2 i hil).1
end
section
variable {ec fx : Int32} {sz ks os hi et ek eo mb kb oc pa nt fo : Nat → Int32}
variable {t : Nat}
theorem xs_thd_f {x : Int32} (hx : x < 0 ∨ nI 3 ≤ x) {post : Int32 → Prop} (h : post 0) : wpX_isThread post x := by
  by_cases z : x < 0
  · exact br_t z h
  · rcases hx with y | y
    · exact absurd y z
    · exact br_f z (br_t y h)
theorem xs_thd_t (ht : t < 3) {post : Int32 → Prop} (h : post 1) : wpX_isThread post (nI t) := br_f (nI_pos (by omega)) (br_f (rr_lt3 ht) h)
theorem xs_var_f {x : Int32} (hx : x < 0 ∨ nI 2 ≤ x) {post : Int32 → Prop} (h : post 0) : wpX_isVariable post x := by
  by_cases z : x < 0
  · exact br_t z h
  · rcases hx with y | y
    · exact absurd y z
    · exact br_f z (br_t y h)
theorem xs_var_t (ht : t < 2) {post : Int32 → Prop} (h : post 1) : wpX_isVariable post (nI t) := br_f (nI_pos (by omega)) (br_f (nI_ge (b := 2) ht (by decide)) h)
theorem xs_lok_f {x : Int32} (hx : x < 0 ∨ nI 2 ≤ x) {post : Int32 → Prop} (h : post 0) : wpX_isLock post x := by
  by_cases z : x < 0
  · exact br_t z h
  · rcases hx with y | y
    · exact absurd y z
    · exact br_f z (br_t y h)
theorem xs_lok_t (ht : t < 2) {post : Int32 → Prop} (h : post 1) : wpX_isLock post (nI t) := br_f (nI_pos (by omega)) (br_f (nI_ge (b := 2) ht (by decide)) h)
end
theorem rr_nar_b (x : Int32) (h : x = 0 ∨ x = 1) : narrow .boolean (.int x) = .int x := by
  rcases h with rfl | rfl <;> rfl
/-- an argument that is no thread, no variable: three ways -/
theorem rr_arg3 (x : Int32) : (x < 0 ∨ nI 3 ≤ x) ∨ ∃ t, t < 3 ∧ x = nI t := by
  rcases pk_ix x (n := 3) (by omega) with h | h | h
  · exact Or.inl (Or.inl h)
  · exact Or.inl (Or.inr h)
  · exact Or.inr h
theorem rr_arg2 (x : Int32) : (x < 0 ∨ nI 2 ≤ x) ∨ ∃ t, t < 2 ∧ x = nI t := by
  rcases pk_ix x (n := 2) (by omega) with h | h | h
  · exact Or.inl (Or.inl h)
  · exact Or.inl (Or.inr h)
  · exact Or.inr h
theorem rr_arg5 (x : Int32) : (x < 0 ∨ nI 5 ≤ x) ∨ ∃ t, t < 5 ∧ x = nI t := by
  rcases pk_ix x (n := 5) (by omega) with h | h | h
  · exact Or.inl (Or.inl h)
  · exact Or.inl (Or.inr h)
  · exact Or.inr h
/-! the constructors -/
theorem rr_Pg0 : rr_Pg (fun _ => 0) (fun _ => 0) (fun _ => 0) (fun _ => 0) :=
  ⟨fun _ _ => ⟨rfl, Nat.zero_le 4⟩, Nat.zero_le 8, fun _ _ => ⟨0, Nat.zero_le 4, rfl, fun _ => ⟨0, by omega, rfl⟩⟩⟩
section
variable {cn fy dy : Int32} {ks os sz bg va rg ho pl dn ol rl sm kp tr fd : Nat → Int32}
theorem ys_again {post : SY → Prop} (H : ∀ va' rg' ho' pl', (∀ v, v < 2 → va' v = bg v ∧ ho' v = -1) → (∀ t, t < 3 → rg' t = 0 ∧ pl' t = 0) → post (0, fy, dy, ks, os, sz, bg, va', rg', ho', pl', dn, ol, rl, sm, kp, tr, fd)) : wpY_again post (cn, fy, dy, ks, os, sz, bg, va, rg, ho, pl, dn, ol, rl, sm, kp, tr, fd) := by
  refine loop_0 (fun N i (s : (Nat → Int32) × (Nat → Int32)) => wY_again_7 post 0 fy dy N (nI i) ks os sz bg va s.1 ho s.2 dn ol rl sm kp tr fd) (fun i s => ∀ c, c < i → s.1 c = 0 ∧ s.2 c = 0) 3 (rg, pl) (fun c hc => by omega) ?_ ?_
  · rintro N ⟨rg1, pl1⟩ h1
    refine br_t (show (3 : Int32) ≤ nI 3 by decide) ?_
    refine loop_0 (fun N i (s : (Nat → Int32) × (Nat → Int32)) => wY_again_34 post 0 fy dy N (nI i) ks os sz bg s.1 rg1 s.2 pl1 dn ol rl sm kp tr fd) (fun i s => ∀ c, c < i → s.1 c = bg c ∧ s.2 c = -1) 2 (va, ho) (fun c hc => by omega) ?_ ?_
    · rintro N ⟨va1, ho1⟩ h2
      exact br_t (show (2 : Int32) ≤ nI 2 by decide) (H va1 rg1 ho1 pl1 h2 h1)
    · rintro N i ⟨va1, ho1⟩ hil h2 ih
      have vi : vp_in (nI i) 2 := pk_in i 2 hil rfl
      have ci : (nI i).toNatClampNeg = i := nI_clamp (by omega)
      refine br_f (nI_ge (b := 2) hil (by decide)) ⟨vi, vi, nm_r (show _ = upd va1 i (bg i) by rw [ci]) ⟨vi, nm_r (show _ = upd ho1 i (-1) by rw [ci]) (nm_r (nI_1 i) (ih (upd va1 i (bg i), upd ho1 i (-1)) (fun c hc => ?_)))⟩⟩
      show upd va1 i (bg i) c = bg c ∧ upd ho1 i (-1) c = -1
      rcases Nat.decEq c i with z | z
      · rw [pk_un z, pk_un z]; exact h2 c (by omega)
      · rw [z, pk_us, pk_us]; exact ⟨rfl, rfl⟩
  · rintro N i ⟨rg1, pl1⟩ hil h1 ih
    have vi : vp_in (nI i) 3 := pk_in i 3 hil rfl
    have ci : (nI i).toNatClampNeg = i := nI_clamp (by omega)
    refine br_f (rr_lt3 hil) ⟨vi, nm_r (show _ = upd pl1 i 0 by rw [ci]) ⟨vi, nm_r (show _ = upd rg1 i 0 by rw [ci]) (nm_r (nI_1 i) (ih (upd rg1 i 0, upd pl1 i 0) (fun c hc => ?_)))⟩⟩
    show upd rg1 i 0 c = 0 ∧ upd pl1 i 0 c = 0
    rcases Nat.decEq c i with z | z
    · rw [pk_un z, pk_un z]; exact h1 c (by omega)
    · rw [z, pk_us, pk_us]; exact ⟨rfl, rfl⟩
end
theorem i_vc0 : wpX_init (fun u => wpY_init (fun v => i_Rel 0 u v)) := by
  refine loop_0 (fun N i (a : Nat → Int32) => wX_init_121 (fun u => wpY_init (fun v => i_Rel 0 u v)) 0 0 N (nI i) (fun _ => 0) (fun _ => 0) (fun _ => 0) a (fun _ => 0) (fun _ => 0) (fun _ => 0) (fun _ => 0) (fun _ => 0) (fun _ => 0) (fun _ => 0) (fun _ => 0) (fun _ => 0)) (fun i a => (∀ c, c < i → a (8 + c) = -1000000004) ∧ ∀ c, c < 8 → a c = 0) 2 (fun _ => 0) ⟨fun c hc => by omega, fun c _ => rfl⟩ ?_ ?_
  · rintro N a ⟨h1, h2⟩
    refine br_t (show (2 : Int32) ≤ nI 2 by decide) ?_
    unfold wpY_init
    refine ys_again (fun va' rg' ho' pl' h3 h4 => ?_)
    refine rr_mk (n := 0) (S := fun _ => 0) (T := fun _ => 0) (B := a) ⟨rr_Pg0, ⟨fun t ht => ⟨h2 _ (by omega), h2 _ (by omega)⟩, fun m hm => h1 m hm⟩, fun i hil => by omega⟩ ⟨fun e he c hc => ?_, fun i hil => by omega, fun i hil => by omega, fun i hil => by omega⟩ ⟨fun v hv => (h2 v (by omega)).symm, ⟨fun v hv => ?_, fun t ht => ⟨?_, ?_⟩, fun m hm => ?_⟩, fun i hil => by omega⟩
    · obtain rfl : e = 0 := by omega
      rw [show 10 * 0 + c = c by omega]; rfl
    · exact (h3 v hv).1.trans (h2 v (by omega)).symm
    · exact (h4 t ht).1.trans (h2 (2 + t) (by omega)).symm
    · exact (h4 t ht).2.trans (h2 (5 + t) (by omega)).symm
    · show ho' m = rr_hm (a (8 + m))
      rw [h1 m hm, rr_hm0]; exact (h3 m hm).2
  · rintro N i a hil ⟨h1, h2⟩ ih
    have e1 : 8 + nI i = nI (8 + i) := nI_add 8 i
    refine br_f (nI_ge (b := 2) hil (by decide)) ⟨pk_in _ _ (by omega) e1, nm_r (show _ = upd a (8 + i) (-1000000004) by rw [e1, nI_clamp (by omega)]) (nm_r (nI_1 i) (ih _ ⟨fun c hc => ?_, fun c hc => ?_⟩))⟩
    · rcases Nat.decEq c i with z | z
      · rw [pk_un (by omega)]; exact h1 c (by omega)
      · rw [z, pk_us]
    · rw [pk_un (by omega)]; exact h2 c hc
end
section
theorem rr_Rx0 {T : Nat → Nat} {B ks os hi et ek eo mb kb : Nat → Int32} (h : ∀ c, c < 10 → hi c = B c) : rr_Rx 0 T B ks os hi et ek eo mb kb := by
  refine ⟨fun e he c hc => ?_, fun i hil => by omega, fun i hil => by omega, fun i hil => by omega⟩
  obtain rfl : e = 0 := by omega
  rw [show 10 * 0 + c = c by omega]; exact h c hc
theorem rr_Rx0' {n : Nat} {T : Nat → Nat} {B ks os hi et ek eo mb kb : Nat → Int32} (h : rr_Rx n T B ks os hi et ek eo mb kb) : ∀ c, c < 10 → hi c = B c := by
  intro c hc
  have := h.1 0 (by omega) c hc
  rw [show 10 * 0 + c = c by omega] at this; exact this
def rr_fit (k x : Int32) : Bool := if k = 2 then decide (¬ x < -9) && decide (¬ 9 < x) else decide (¬ x < 0) && decide (¬ 1 < x)
theorem rr_21 (x : Int32) : nI 2 ≤ x ↔ 1 < x := by
  rw [Int32.le_iff_toInt_le, Int32.lt_iff_toInt_lt, show (nI 2).toInt = 2 from by decide, show (1 : Int32).toInt = 1 from by decide]
  omega
theorem rr_fit_v {k x : Int32} (hk : ¬ k = 2) (h : rr_fit k x = true) : ∃ j, j < 2 ∧ x = nI j := by
  unfold rr_fit at h
  rw [if_neg hk, Bool.and_eq_true] at h
  have h1 := of_decide_eq_true h.1
  have h2 := of_decide_eq_true h.2
  rcases rr_arg2 x with (z | z) | z
  · exact absurd z h1
  · exact absurd ((rr_21 x).mp z) h2
  · exact z
theorem rr_fit_n {k x : Int32} (hk : ¬ k = 2) (h : rr_fit k x = false) : x < 0 ∨ nI 2 ≤ x := by
  unfold rr_fit at h
  rw [if_neg hk] at h
  rcases rr_arg2 x with z | ⟨j, hj, rfl⟩
  · exact z
  · have a : ¬ nI j < 0 := nI_pos (by omega)
    have b : ¬ (1 : Int32) < nI j := fun y => by
      have := (rr_21 (nI j)).mpr y
      rw [nI_leI (by omega) (by omega)] at this; omega
    rw [decide_eq_true a, decide_eq_true b] at h; cases h
section
variable {k : Nat} {x : Int32}
theorem xs_oper_k {p : Int32} (hp : p < 0 ∨ nI 5 ≤ p) {post : Int32 → Prop} (h : post 0) : wpX_isOperation post p x := by
  have key : ∀ m, m < 5 → ¬ p = nI m := by
    intro m hm e
    subst e
    rcases hp with z | z
    · exact nI_pos (by omega) z
    · rw [nI_leI (by omega) (by omega)] at z; omega
  have k0 : ¬ p = 0 := key 0 (by omega)
  have k1 : ¬ p = 1 := key 1 (by omega)
  have k2 : ¬ p = 2 := key 2 (by omega)
  have k3 : ¬ p = 3 := key 3 (by omega)
  have k4 : ¬ p = 4 := key 4 (by omega)
  exact br_f k2 (br_f k0 (br_f k1 (br_t rfl (br_f k3 (br_f k4 (br_t rfl h))))))
theorem xs_oper (hk : k < 5) {post : Int32 → Prop} (h : post (rr_b (rr_fit (nI k) x))) : wpX_isOperation post (nI k) x := by
  by_cases h2 : nI k = 2
  · unfold rr_fit at h
    rw [if_pos h2] at h
    refine br_t h2 ?_
    by_cases a : x < -9
    · rw [decide_eq_false (fun z => z a)] at h; exact br_t a h
    · rw [decide_eq_true a] at h
      refine br_f a ?_
      by_cases b : 9 < x
      · rw [decide_eq_false (fun z => z b)] at h; exact br_t b h
      · rw [decide_eq_true b] at h; exact br_f b h
  · refine br_f h2 (xs_acc (rr_bd (fun z => xs_lck (rr_bd (fun y => ?_) (fun y => ?_))) (fun z => ?_)))
    · exfalso
      have : ∀ k, k < 5 → ¬ nI k = 2 → rr_ac (nI k) = false → rr_lc (nI k) = false → False := by decide +kernel
      exact this k hk h2 z y
    · rcases f : rr_fit (nI k) x with _ | _
      · rw [f] at h
        exact xs_lok_f (rr_fit_n h2 f) (br_t rfl h)
      · rw [f] at h
        obtain ⟨j, hj, rfl⟩ := rr_fit_v h2 f
        exact xs_lok_t hj (br_f (by decide) h)
    · rcases f : rr_fit (nI k) x with _ | _
      · rw [f] at h
        exact xs_var_f (rr_fit_n h2 f) ⟨rr_nar_b 0 (Or.inl rfl), h⟩
      · rw [f] at h
        obtain ⟨j, hj, rfl⟩ := rr_fit_v h2 f
        exact xs_var_t hj ⟨rr_nar_b 1 (Or.inr rfl), h⟩
end
section
variable {cn fy dy : Int32} {ks os sz bg va rg ho pl dn ol rl sm kp tr fd : Nat → Int32}
theorem ys_prog {p0 p1 p2 : Int32} {post : Int32 → SY → Prop} (h : wY_program_31 post p0 p1 p2 (rr_b (rr_fit p1 p2)) cn fy dy ks os sz bg va rg ho pl dn ol rl sm kp tr fd) : wpY_program post (cn, fy, dy, ks, os, sz, bg, va, rg, ho, pl, dn, ol, rl, sm, kp, tr, fd) p0 p1 p2 := by
  by_cases h2 : p1 = 2
  · unfold rr_fit at h
    rw [if_pos h2] at h
    refine br_t h2 ?_
    by_cases a : p2 < -9
    · rw [decide_eq_false (fun z => z a)] at h; exact br_t a h
    · rw [decide_eq_true a] at h
      refine br_f a ?_
      by_cases b : 9 < p2
      · rw [decide_eq_false (fun z => z b)] at h; exact br_t b h
      · rw [decide_eq_true b] at h; exact br_f b h
  · refine br_f h2 ?_
    rcases f : rr_fit p1 p2 with _ | _
    · rw [f] at h
      exact ys_in_f (b := 1) (by omega) (rr_fit_n h2 f) h
    · rw [f] at h
      obtain ⟨j, hj, rfl⟩ := rr_fit_v h2 f
      exact ys_in_t (b := 1) (by omega) (by omega) h
end
theorem i_vc_program {k : Nat} {u : SX} {v : SY} (I : i_Rel k u v) (hk : k + 4 ≤ 2048) (v1 : Int32) (v2 : Int32) (v3 : Int32) : wpX_program (fun r u' => wpY_program (fun r' v' => r' = r ∧ i_Rel (k + 4) u' v') v v1 v2 v3) u v1 v2 v3 := by
  obtain ⟨S, T, n, B, fx, fy, dy, sz, ks, os, hi, et, ek, eo, mb, kb, oc, pa, nt, fo, bg, va, rg, ho, pl, dn, ol, rl, sm, kp, tr, fd, rfl, rfl, hG, hX, hY⟩ := I
  unfold wpX_program
  have same : ∀ x : Int32, x = x ∧ i_Rel (k + 4) (nI n, fx, sz, ks, os, hi, et, ek, eo, mb, kb, oc, pa, nt, fo) (nI n, fy, dy, ks, os, sz, bg, va, rg, ho, pl, dn, ol, rl, sm, kp, tr, fd) := fun x => ⟨rfl, rr_mk hG hX hY⟩
  have n8 := rr_Go_8 hG (Nat.le_refl n)
  rcases rr_arg3 v1 with h | ⟨t, ht, rfl⟩
  · exact xs_thd_f h (br_t rfl (ys_prog (ys_in_f (b := 2) (by omega) h (br_t rfl (same _)))))
  · refine xs_thd_t ht (br_f (by decide) ?_)
    rcases rr_arg5 v2 with h | ⟨q, hq, rfl⟩
    · exact xs_oper_k h (br_t rfl (ys_prog (ys_in_t (b := 2) (by omega) (by omega) (br_f (by decide) (ys_in_f (b := 4) (by omega) h (br_t rfl (same _)))))))
    · refine xs_oper hq (rr_bd (fun f => ?_) (fun f => ?_))
      · exact ys_prog (ys_in_t (b := 2) (by omega) (by omega) (br_f (by decide) (ys_in_t (b := 4) (by omega) (by omega) (br_f (by decide) (rr_bf f (same _))))))
      · rcases Nat.eq_zero_or_pos n with hn | hn
        · subst hn
          have ct : (nI t).toNatClampNeg = t := nI_clamp (by omega)
          have vt : vp_in (nI t) 3 := pk_in t 3 ht rfl
          have hS := rr_S4 hG.1 ht
          have e0 := (hG.1.1 0 (by omega)).1
          have e1 := (hG.1.1 1 (by omega)).1
          have e2 := (hG.1.1 2 (by omega)).1
          have et' := (hG.1.1 t ht).1
          have s8 := hG.1.2.1
          have hsum : sz 0 + sz 1 + sz 2 = nI (S 0 + S 1 + S 2) := by rw [e0, e1, e2, nI_add, nI_add]
          have szt : sz (nI t).toNatClampNeg = nI (S t) := by rw [ct]; exact et'
          refine br_t (show nI 0 ≤ 0 by decide) ⟨vt, ?_⟩
          rw [szt, hsum]
          have yw : ∀ post : Int32 → SY → Prop, (S t = 4 → post (-1000000002) (nI 0, fy, dy, ks, os, sz, bg, va, rg, ho, pl, dn, ol, rl, sm, kp, tr, fd)) → (S t ≠ 4 → S 0 + S 1 + S 2 = 8 → post (-1000000002) (nI 0, fy, dy, ks, os, sz, bg, va, rg, ho, pl, dn, ol, rl, sm, kp, tr, fd)) → (S t ≠ 4 → S 0 + S 1 + S 2 ≠ 8 → post (nI (S t)) (nI 0, fy, dy, (upd ks (4 * t + S t) (nI q)), (upd os (4 * t + S t) v3), (upd sz t (nI (S t + 1))), bg, va, rg, ho, pl, dn, ol, rl, sm, kp, tr, fd)) → wpY_program post (nI 0, fy, dy, ks, os, sz, bg, va, rg, ho, pl, dn, ol, rl, sm, kp, tr, fd) (nI t) (nI q) v3 := by
            intro post a b c
            refine ys_prog (ys_in_t (b := 2) (by omega) (by omega) (br_f (by decide) (ys_in_t (b := 4) (by omega) (by omega) (br_f (by decide) (rr_bt f (br_t (show nI 0 ≤ 0 by decide) ⟨vt, ?_⟩))))))
            rw [szt, hsum]
            refine pk_eq (S t) 4 a (fun h4 => pk_eq (S 0 + S 1 + S 2) 8 (b h4) (fun h8 => ?_))
            have ix : 4 * nI t + nI (S t) = nI (4 * t + S t) := by rw [show (4 : Int32) = nI 4 from rfl, pk_mul, nI_add]
            have cix : (nI (4 * t + S t)).toNatClampNeg = 4 * t + S t := nI_clamp (by omega)
            rw [ix]
            refine ⟨vt, pk_in _ _ (by omega) rfl, nm_r (show _ = upd ks (4 * t + S t) (nI q) by rw [cix]) ⟨vt, pk_in _ _ (by omega) rfl, nm_r (show _ = upd os (4 * t + S t) v3 by rw [cix]) ⟨vt, vt, nm_r (show _ = upd sz t (nI (S t + 1)) by rw [ct, nI_1]) ⟨vt, ?_⟩⟩⟩⟩
            have : upd sz t (nI (S t + 1)) (nI t).toNatClampNeg - 1 = nI (S t) := by rw [ct, pk_us, nI_pred]
            rw [this]; exact c h4 h8
          refine pk_le 4 (S t) (fun h4 => yw _ (fun _ => same _) (fun z => by omega) (fun z => by omega)) (fun h4 => ?_)
          refine pk_lt (S 0 + S 1 + S 2) 8 (fun h8 => ?_) (fun h8 => yw _ (fun z => by omega) (fun _ _ => same _) (fun _ z => by omega))
          have ix : nI t * 4 + nI (S t) = nI (4 * t + S t) := by rw [show (4 : Int32) = nI 4 from rfl, pk_mul, nI_add, Nat.mul_comm]
          have cix : (nI (4 * t + S t)).toNatClampNeg = 4 * t + S t := nI_clamp (by omega)
          have vix : vp_in (nI t * 4 + nI (S t)) 12 := pk_in _ _ (by omega) ix
          refine ⟨vt, nm_e ⟨vix, nm_r (show _ = upd ks (4 * t + S t) (nI q) by rw [ix, cix]) ⟨vix, nm_r (show _ = upd os (4 * t + S t) v3 by rw [ix, cix]) ⟨vt, nm_r (show _ = upd sz t (nI (S t + 1)) by rw [ct, nI_1]) (yw _ (fun z => by omega) (fun _ z => by omega) (fun _ _ => ⟨rfl, ?_⟩))⟩⟩⟩⟩
          have hP' : rr_Pg (upd sz t (nI (S t + 1))) (upd ks (4 * t + S t) (nI q)) (upd os (4 * t + S t) v3) (rr_inc t S) := by
            refine ⟨fun s hs => ?_, by rw [rr_inc_sum ht]; omega, fun j hj => ?_⟩
            · unfold rr_inc
              rcases Nat.decEq s t with z | z
              · rw [pk_un z, if_neg z]; exact hG.1.1 s hs
              · rw [z, pk_us, if_pos rfl]; exact ⟨rfl, by omega⟩
            · rcases Nat.decEq j (4 * t + S t) with z | z
              · rw [pk_un z, pk_un z]; exact hG.1.2.2 j hj
              · rw [z, pk_us, pk_us]
                refine ⟨q, by omega, rfl, fun h2 => rr_fit_v (fun y => h2 ?_) f⟩
                exact (nI_eq (a := q) (b := 2) (by omega) (by omega)).mp y
          exact rr_mk (n := 0) (S := rr_inc t S) (T := T) (B := B) ⟨hP', hG.2.1, fun i hil => by omega⟩ (rr_Rx0 (rr_Rx0' hX)) ⟨hY.1, hY.2.1, fun i hil => by omega⟩
        · refine br_f (nI_nle hn (by omega)) (ys_prog (ys_in_t (b := 2) (by omega) (by omega) (br_f (by decide) (ys_in_t (b := 4) (by omega) (by omega) (br_f (by decide) (rr_bt f (br_f (nI_nle hn (by omega)) (same _))))))))
theorem i_vc_begin {k : Nat} {u : SX} {v : SY} (I : i_Rel k u v) (hk : k + 4 ≤ 2048) (v1 : Int32) (v2 : Int32) : wpX_begin (fun r u' => wpY_begin (fun r' v' => r' = r ∧ i_Rel (k + 4) u' v') v v1 v2) u v1 v2 := by
  obtain ⟨S, T, n, B, fx, fy, dy, sz, ks, os, hi, et, ek, eo, mb, kb, oc, pa, nt, fo, bg, va, rg, ho, pl, dn, ol, rl, sm, kp, tr, fd, rfl, rfl, hG, hX, hY⟩ := I
  unfold wpX_begin wpY_begin
  have same : ∀ x : Int32, x = x ∧ i_Rel (k + 4) (nI n, fx, sz, ks, os, hi, et, ek, eo, mb, kb, oc, pa, nt, fo) (nI n, fy, dy, ks, os, sz, bg, va, rg, ho, pl, dn, ol, rl, sm, kp, tr, fd) := fun x => ⟨rfl, rr_mk hG hX hY⟩
  have n8 := rr_Go_8 hG (Nat.le_refl n)
  rcases rr_arg2 v1 with h | ⟨t, ht, rfl⟩
  · exact xs_var_f h (br_t rfl (ys_in_f (b := 1) (by omega) h (br_t rfl (same _))))
  · refine xs_var_t ht (br_f (by decide) ?_)
    have ct : (nI t).toNatClampNeg = t := nI_clamp (by omega)
    have vt : vp_in (nI t) 2 := pk_in t 2 ht rfl
    rcases Nat.eq_zero_or_pos n with hn | hn
    · subst hn
      have v90 : vp_in (nI t) 90 := pk_in t 90 (by omega) rfl
      have hh : hi t = B t := by
        have := hX.1 0 (by omega) t (by omega)
        rw [show 10 * 0 + t = t by omega] at this; exact this
      refine br_t (show nI 0 ≤ 0 by decide) ⟨v90, nm_r (show _ = B t by rw [ct]; exact hh) ⟨v90, nm_r (show _ = upd hi t v2 by rw [ct]) (ys_in_t (b := 1) (by omega) (by omega) (br_f (by decide) (br_t (show nI 0 ≤ 0 by decide) ⟨vt, nm_r (show _ = B t by rw [ct]; exact hY.1 t ht) ⟨vt, nm_r (show _ = upd bg t v2 by rw [ct]) ⟨vt, nm_r (show _ = upd va t v2 by rw [ct]) ⟨rfl, ?_⟩⟩⟩⟩)))⟩⟩
      have ub : ∀ c, c ≠ t → upd B t v2 c = B c := fun c hc => pk_un hc
      refine rr_mk (n := 0) (S := S) (T := T) (B := upd B t v2) ⟨hG.1, ⟨fun s hs => ?_, fun m hm => ?_⟩, fun i hil => by omega⟩ ⟨fun e he c hc => ?_, fun i hil => by omega, fun i hil => by omega, fun i hil => by omega⟩ ⟨fun w hw => ?_, ⟨fun w hw => ?_, fun s hs => ?_, fun m hm => ?_⟩, fun i hil => by omega⟩
      · rw [ub _ (by omega), ub _ (by omega)]; exact hG.2.1.1 s hs
      · rw [ub _ (by omega)]; exact hG.2.1.2 m hm
      · obtain rfl : e = 0 := by omega
        have := hX.1 0 (by omega) c hc
        rw [show 10 * 0 + c = c by omega] at this ⊢
        show upd hi t v2 c = upd B t v2 c
        rcases Nat.decEq c t with z | z
        · rw [pk_un z, pk_un z]; exact this
        · rw [z, pk_us, pk_us]
      · rcases Nat.decEq w t with z | z
        · rw [pk_un z, pk_un z]; exact hY.1 w hw
        · rw [z, pk_us, pk_us]
      · show upd va t v2 w = upd B t v2 w
        rcases Nat.decEq w t with z | z
        · rw [pk_un z, pk_un z]; exact hY.2.1.1 w hw
        · rw [z, pk_us, pk_us]
      · show rg s = upd B t v2 (2 + s) ∧ pl s = upd B t v2 (5 + s)
        rw [ub _ (by omega), ub _ (by omega)]; exact hY.2.1.2.1 s hs
      · show ho m = rr_hm (upd B t v2 (8 + m))
        rw [ub _ (by omega)]; exact hY.2.1.2.2 m hm
    · exact br_f (nI_nle hn (by omega)) (ys_in_t (b := 1) (by omega) (by omega) (br_f (by decide) (br_f (nI_nle hn (by omega)) (same _))))
theorem i_vc_unprogram {k : Nat} {u : SX} {v : SY} (I : i_Rel k u v) (hk : k + 4 ≤ 2048) (v1 : Int32) : wpX_unprogram (fun r u' => wpY_unprogram (fun r' v' => r' = r ∧ i_Rel (k + 4) u' v') v v1) u v1 := by
  obtain ⟨S, T, n, B, fx, fy, dy, sz, ks, os, hi, et, ek, eo, mb, kb, oc, pa, nt, fo, bg, va, rg, ho, pl, dn, ol, rl, sm, kp, tr, fd, rfl, rfl, hG, hX, hY⟩ := I
  unfold wpX_unprogram wpY_unprogram
  have same : ∀ x : Int32, x = x ∧ i_Rel (k + 4) (nI n, fx, sz, ks, os, hi, et, ek, eo, mb, kb, oc, pa, nt, fo) (nI n, fy, dy, ks, os, sz, bg, va, rg, ho, pl, dn, ol, rl, sm, kp, tr, fd) := fun x => ⟨rfl, rr_mk hG hX hY⟩
  have n8 := rr_Go_8 hG (Nat.le_refl n)
  rcases rr_arg3 v1 with h | ⟨t, ht, rfl⟩
  · exact xs_thd_f h (br_t rfl (ys_in_f (b := 2) (by omega) h (br_t rfl (same _))))
  · refine xs_thd_t ht (br_f (by decide) ?_)
    have ct : (nI t).toNatClampNeg = t := nI_clamp (by omega)
    have vt : vp_in (nI t) 3 := pk_in t 3 ht rfl
    rcases Nat.eq_zero_or_pos n with hn | hn
    · subst hn
      have hS := rr_S4 hG.1 ht
      have szt : sz (nI t).toNatClampNeg = nI (S t) := by rw [ct]; exact (hG.1.1 t ht).1
      have s8 := hG.1.2.1
      by_cases h0 : S t = 0
      · have z : sz (nI t).toNatClampNeg = 0 := by rw [szt, h0]; rfl
        exact br_t (show nI 0 ≤ 0 by decide) ⟨vt, br_t z (ys_in_t (b := 2) (by omega) (by omega) (br_f (by decide) (br_t (show nI 0 ≤ 0 by decide) ⟨vt, br_t z (same _)⟩)))⟩
      · have z : ¬ sz (nI t).toNatClampNeg = 0 := by rw [szt]; exact nI_ne0 (by omega) (by omega)
        have up : upd sz (nI t).toNatClampNeg (sz (nI t).toNatClampNeg - 1) = upd sz t (nI (S t - 1)) := by
          rw [szt, ct]
          have : nI (S t) - 1 = nI (S t - 1) := pk_sub (b := 1) (by omega)
          rw [this]
        refine br_t (show nI 0 ≤ 0 by decide) ⟨vt, br_f z ⟨vt, vt, nm_r up ⟨vt, ys_in_t (b := 2) (by omega) (by omega) (br_f (by decide) (br_t (show nI 0 ≤ 0 by decide) ⟨vt, br_f z ⟨vt, vt, nm_r up ⟨vt, rfl, ?_⟩⟩⟩))⟩⟩⟩
        have hP' : rr_Pg (upd sz t (nI (S t - 1))) ks os (rr_dec t S) := by
          refine ⟨fun s hs => ?_, ?_, hG.1.2.2⟩
          · unfold rr_dec
            rcases Nat.decEq s t with z | z
            · rw [pk_un z, if_neg z]; exact hG.1.1 s hs
            · rw [z, pk_us, if_pos rfl]; exact ⟨rfl, by omega⟩
          · unfold rr_dec
            rcases (show t = 0 ∨ t = 1 ∨ t = 2 by omega) with rfl | rfl | rfl <;> simp <;> omega
        exact rr_mk (n := 0) (S := rr_dec t S) (T := T) (B := B) ⟨hP', hG.2.1, fun i hil => by omega⟩ ⟨hX.1, fun i hil => by omega, fun i hil => by omega, fun i hil => by omega⟩ ⟨hY.1, hY.2.1, fun i hil => by omega⟩
    · exact br_f (nI_nle hn (by omega)) (ys_in_t (b := 2) (by omega) (by omega) (br_f (by decide) (br_f (nI_nle hn (by omega)) (same _))))
end
section
def rr_Tx (T : Nat → Nat) (n t : Nat) : Nat → Nat := fun i => if i = n then t else T i
section
variable {ec fx cn fy dy : Int32} {sz ks os hi et ek eo mb kb oc pa nt fo bg va rg ho pl dn ol rl sm kp tr fd : Nat → Int32}
variable {S T : Nat → Nat} {n k t : Nat} {B : Nat → Int32}
theorem rr_Tx_lt {i : Nat} (h : i < n) : rr_Tx T n t i = T i := if_neg (by omega)
theorem rr_Tx_n : rr_Tx T n t n = t := if_pos rfl
theorem rr_run_x {e : Nat} (h : e ≤ n) : rr_run ks os B (rr_Tx T n t) e = rr_run ks os B T e := rr_run_congr e (fun i hil => rr_Tx_lt (by omega))
theorem rr_run_xn : rr_run ks os B (rr_Tx T n t) (n + 1) = rr_st ks os t (rr_run ks os B T n) := by
  show rr_st ks os (rr_Tx T n t n) (rr_run ks os B (rr_Tx T n t) n) = _
  rw [rr_Tx_n, rr_run_x (Nat.le_refl n)]
theorem rr_od_x {i : Nat} (h : i < n) : rr_od ks os B (rr_Tx T n t) i = rr_od ks os B T i := by
  unfold rr_od; rw [rr_Tx_lt h, rr_run_x (by omega)]
theorem rr_od_xn : rr_od ks os B (rr_Tx T n t) n = rr_op t (rr_run ks os B T n) := by
  unfold rr_od; rw [rr_Tx_n, rr_run_x (Nat.le_refl n)]
theorem rr_Go_x (hG : rr_Go sz ks os S B T n) (ht : t < 3) (hen : rr_en sz ks os t (rr_run ks os B T n) = true) : rr_Go sz ks os S B (rr_Tx T n t) (n + 1) := by
  refine ⟨hG.1, hG.2.1, fun i hil => ?_⟩
  rcases Nat.decEq i n with z | z
  · rw [rr_Tx_lt (by omega), rr_run_x (by omega)]; exact hG.2.2 i (by omega)
  · rw [z, rr_Tx_n, rr_run_x (Nat.le_refl n)]; exact ⟨ht, hen⟩
theorem rr_P_x (bl : Bool) {b j : Nat} (hj : j < n) : rr_P (rr_E bl ks os (rr_Tx T n t) (rr_od ks os B (rr_Tx T n t))) 8 b j = rr_P (rr_E bl ks os T (rr_od ks os B T)) 8 b j :=
  rr_P_congr (rr_E_congr (fun i hil => rr_Tx_lt hil) (fun i hil => rr_od_x hil)) 8 b j hj
end
theorem i_vc_step {k : Nat} {u : SX} {v : SY} (I : i_Rel k u v) (hk : k + 4 ≤ 2048) (v1 : Int32) : wpX_step (fun r u' => wpY_step (fun r' v' => r' = r ∧ i_Rel (k + 4) u' v') v v1) u v1 := by
  obtain ⟨S, T, n, B, fx, fy, dy, sz, ks, os, hi, et, ek, eo, mb, kb, oc, pa, nt, fo, bg, va, rg, ho, pl, dn, ol, rl, sm, kp, tr, fd, rfl, rfl, hG, hX, hY⟩ := I
  unfold wpX_step wpY_step
  have same : ∀ x : Int32, x = x ∧ i_Rel (k + 4) (nI n, fx, sz, ks, os, hi, et, ek, eo, mb, kb, oc, pa, nt, fo) (nI n, fy, dy, ks, os, sz, bg, va, rg, ho, pl, dn, ol, rl, sm, kp, tr, fd) := fun x => ⟨rfl, rr_mk hG hX hY⟩
  have n8 := rr_Go_8 hG (Nat.le_refl n)
  rcases rr_arg3 v1 with h | ⟨t, ht, rfl⟩
  · exact xs_thd_f h (br_t rfl (ys_in_f (b := 2) (by omega) h (br_t rfl (same _))))
  · have hR := (rr_Go_Rk hG n (Nat.le_refl n)).1
    have hr := hX.1 n (Nat.le_refl n)
    refine xs_thd_t ht (br_f (by decide) (xs_can_history hG.1 hR n8 ht hr (rr_bd (fun z => ?_) (fun hen => ?_))))
    · exact ys_in_t (b := 2) (by omega) (by omega) (br_f (by decide) (ys_en hG.1 hR ht hY.2.1 (rr_bf z (same _))))
    · have n7 := rr_Go_lt hG ht hen
      have cn' : (nI n).toNatClampNeg = n := nI_clamp (by omega)
      have vn : vp_in (nI n) 8 := pk_in n 8 n7 rfl
      have hl := rr_en_lt hen
      have ho12 := rr_op12 hG.1 hR ht hl
      have co : (nI (rr_op t (rr_run ks os B T n))).toNatClampNeg = rr_op t (rr_run ks os B T n) := nI_clamp (by omega)
      have vo : vp_in (nI (rr_op t (rr_run ks os B T n))) 12 := pk_in _ _ ho12 rfl
      have hG' := rr_Go_x hG ht hen
      have hE' := rr_Ev_of hG'
      refine xs_nop_history hG.1 hR n8 ht hr (xs_take_history hG.1 hR n7 ht hr hl (fun a ha hfr => ?_))
      refine ⟨vn, nm_r (show _ = upd et n (nI t) by rw [cn']) ⟨vo, vn, nm_r (show _ = upd ek n (ks (rr_op t (rr_run ks os B T n))) by rw [cn', co]) ⟨vo, vn, nm_r (show _ = upd eo n (os (rr_op t (rr_run ks os B T n))) by rw [cn', co]) ?_⟩⟩⟩
      have hX' : rr_Xe (n + 1) ks os (rr_Tx T n t) (rr_od ks os B (rr_Tx T n t)) (upd et n (nI t)) (upd ek n (ks (rr_op t (rr_run ks os B T n)))) (upd eo n (os (rr_op t (rr_run ks os B T n)))) := by
        intro i hil
        rcases Nat.decEq i n with z | z
        · rw [pk_un z, pk_un z, pk_un z, rr_Tx_lt (by omega), rr_od_x (by omega)]; exact hX.2.1 i (by omega)
        · rw [z, pk_us, pk_us, pk_us, rr_Tx_n, rr_od_xn]; exact ⟨rfl, rfl, rfl⟩
      refine xs_bef_Must false rfl hE' hX' (Nat.lt_succ_self n) (fun j hj b hb => by rw [rr_P_x false hj]; exact hX.2.2.1 j hj b hb) (fun v hv => ⟨vn, nm_r (show _ = upd mb n v by rw [cn']) ?_⟩)
      refine xs_bef_Known true rfl hE' hX' (Nat.lt_succ_self n) (fun j hj b hb => by rw [rr_P_x true hj]; exact hX.2.2.2 j hj b hb) (fun w hw => ⟨vn, nm_r (show _ = upd kb n w by rw [cn']) (nm_r (nI_1 n) ?_)⟩)
      refine ys_in_t (b := 2) (by omega) (by omega) (br_f (by decide) (ys_en hG.1 hR ht hY.2.1 (rr_bt hen (ys_go hG.1 hR ht hen n7 hY.2.1 (fun va1 rg1 ho1 pl1 dn1 ol1 hY1 hd1 ho1' hfr1 => ⟨nI_pred n, ?_⟩)))))
      refine rr_mk hG' ⟨fun e he c hc => ?_, hX', fun j hj b hb => ?_, fun j hj b hb => ?_⟩ ⟨hY.1, by rw [rr_run_xn]; exact hY1, fun i hil => ?_⟩
      · rcases Nat.decEq e (n + 1) with z | z
        · rw [hfr _ (by omega), rr_run_x (by omega)]; exact hX.1 e (by omega) c hc
        · rw [z, rr_run_xn]; exact ha c hc
      · rcases Nat.decEq j n with z | z
        · rw [pk_un z, rr_P_x false (by omega)]; exact hX.2.2.1 j (by omega) b hb
        · rw [z, pk_us]; exact hv b hb
      · rcases Nat.decEq j n with z | z
        · rw [pk_un z, rr_P_x true (by omega)]; exact hX.2.2.2 j (by omega) b hb
        · rw [z, pk_us]; exact hw b hb
      · rcases Nat.decEq i n with z | z
        · rw [rr_Tx_lt (by omega), rr_run_x (by omega), (hfr1 i z).1, (hfr1 i z).2]; exact hY.2.2 i (by omega)
        · rw [z, rr_Tx_n, rr_run_x (Nat.le_refl n)]; exact ⟨hd1, ho1'⟩
theorem i_vc_back {k : Nat} {u : SX} {v : SY} (I : i_Rel k u v) (hk : k + 4 ≤ 2048) : wpX_back (fun r u' => wpY_back (fun r' v' => r' = r ∧ i_Rel (k + 4) u' v') v) u := by
  obtain ⟨S, T, n, B, fx, fy, dy, sz, ks, os, hi, et, ek, eo, mb, kb, oc, pa, nt, fo, bg, va, rg, ho, pl, dn, ol, rl, sm, kp, tr, fd, rfl, rfl, hG, hX, hY⟩ := I
  have n8 := rr_Go_8 hG (Nat.le_refl n)
  cases n with
  | zero => exact br_t rfl (br_t rfl ⟨rfl, rr_mk hG hX hY⟩)
  | succ n =>
    have nz : ¬ nI (n + 1) = 0 := nI_ne0 (by omega) (by omega)
    obtain ⟨ht, hen⟩ := hG.2.2 n (by omega)
    have hR := (rr_Go_Rk hG n (by omega)).1
    obtain ⟨hd, hol⟩ := hY.2.2 n (by omega)
    refine br_f nz (nm_r (nI_pred n) ⟨pk_in n 8 (by omega) rfl, br_f nz (ys_undo hG.1 hR ht hen (by omega) hY.2.1 hd hol (fun va' rg' ho' pl' hY' => ⟨?_, ?_⟩))⟩)
    · rw [nI_clamp (by omega)]; exact (hX.2.1 n (by omega)).1.symm
    · exact rr_mk (rr_Go_mono hG (by omega)) ⟨fun e he => hX.1 e (by omega), fun i hil => hX.2.1 i (by omega), fun j hj => hX.2.2.1 j (by omega), fun j hj => hX.2.2.2 j (by omega)⟩ ⟨hY.1, hY', fun i hil => hY.2.2 i (by omega)⟩
theorem i_vc_again {k : Nat} {u : SX} {v : SY} (I : i_Rel k u v) (hk : k + 4 ≤ 2048) : wpX_again (fun u' => wpY_again (fun v' => i_Rel (k + 4) u' v') v) u := by
  obtain ⟨S, T, n, B, fx, fy, dy, sz, ks, os, hi, et, ek, eo, mb, kb, oc, pa, nt, fo, bg, va, rg, ho, pl, dn, ol, rl, sm, kp, tr, fd, rfl, rfl, hG, hX, hY⟩ := I
  refine ys_again (cn := nI n) (fun va' rg' ho' pl' h1 h2 => ?_)
  refine rr_mk (n := 0) (rr_Go_mono hG (Nat.zero_le n)) (rr_Rx0 (rr_Rx0' hX)) ⟨hY.1, ⟨fun w hw => (h1 w hw).1.trans (hY.1 w hw), fun s hs => ⟨(h2 s hs).1.trans (hG.2.1.1 s hs).1.symm, (h2 s hs).2.trans (hG.2.1.1 s hs).2.symm⟩, fun m hm => ?_⟩, fun i hil => by omega⟩
  show ho' m = rr_hm (B (8 + m))
  rw [hG.2.1.2 m hm, rr_hm0]; exact (h1 m hm).2
theorem i_vc_events {k : Nat} {u : SX} {v : SY} (I : i_Rel k u v) (hk : k + 4 ≤ 2048) : wpX_events (fun r => wpY_events (fun r' => r' = r ∧ i_Rel (k + 4) u v) v) u := by
  obtain ⟨S, T, n, B, fx, fy, dy, sz, ks, os, hi, et, ek, eo, mb, kb, oc, pa, nt, fo, bg, va, rg, ho, pl, dn, ol, rl, sm, kp, tr, fd, rfl, rfl, hG, hX, hY⟩ := I
  exact ⟨rfl, rr_mk hG hX hY⟩
theorem i_vc_thread {k : Nat} {u : SX} {v : SY} (I : i_Rel k u v) (hk : k + 4 ≤ 2048) (v1 : Int32) : wpX_thread (fun r => wpY_thread (fun r' => r' = r ∧ i_Rel (k + 4) u v) v v1) u v1 := by
  obtain ⟨S, T, n, B, fx, fy, dy, sz, ks, os, hi, et, ek, eo, mb, kb, oc, pa, nt, fo, bg, va, rg, ho, pl, dn, ol, rl, sm, kp, tr, fd, rfl, rfl, hG, hX, hY⟩ := I
  unfold wpX_thread
  have same : i_Rel (k + 4) (nI n, fx, sz, ks, os, hi, et, ek, eo, mb, kb, oc, pa, nt, fo) (nI n, fy, dy, ks, os, sz, bg, va, rg, ho, pl, dn, ol, rl, sm, kp, tr, fd) := rr_mk hG hX hY
  have n8 := rr_Go_8 hG (Nat.le_refl n)
  rcases pk_ix v1 (n := n) (by omega) with h | h | ⟨i, hil, rfl⟩
  · exact br_t h (br_t rfl (br_t h ⟨rfl, same⟩))
  · by_cases z : v1 < 0
    · exact br_t z (br_t rfl (br_t z ⟨rfl, same⟩))
    · exact br_f z (br_t h (br_t rfl (br_f z (br_t h ⟨rfl, same⟩))))
  · have z : ¬ nI i < 0 := nI_pos (by omega)
    have y : ¬ nI n ≤ nI i := nI_ge hil (by omega)
    have vi : vp_in (nI i) 8 := pk_in i 8 (by omega) rfl
    have d := (ys_div (rr_Ev_of hG) (rr_Ye_of hY) hil).1
    refine br_f z (br_f y (br_f (by decide) ⟨vi, br_f z (br_f y ⟨vi, by decide, ?_, same⟩)⟩))
    rw [d, nI_clamp (by omega), (hX.2.1 i hil).1]
section
variable {cn fy dy : Int32} {ks os sz bg va rg ho pl dn ol rl sm kp tr fd : Nat → Int32}
variable {S p : Nat → Nat} {r : Nat → Int32} {t : Nat}
theorem ys_en1 (hP : rr_Pg sz ks os S) (hR : rr_Rk S r p) (hY : rr_Yr r va rg ho pl) (ht : t < 3) {post : Int32 → Prop} {n : Nat} {x : Int32} (h : wY_enabled_4 post cn fy dy ks os sz bg va rg ho pl dn ol rl sm kp tr fd n (rr_m1 sz ks os r t x) (nI (t + 1))) : wY_enabled_4 post cn fy dy ks os sz bg va rg ho pl dn ol rl sm kp tr fd (n + 1) x (nI t) := by
  refine br_f (rr_lt3 ht) (ys_en hP hR ht hY ?_)
  unfold rr_m1 at h
  refine rr_bd (fun z => ?_) (fun z => ?_)
  · rw [z] at h; exact nm_r (nI_1 t) h
  · rw [z] at h; exact nm_e (nm_r (nI_1 t) h)
theorem ys_enabled (hP : rr_Pg sz ks os S) (hR : rr_Rk S r p) (hY : rr_Yr r va rg ho pl) {post : Int32 → Prop} (h : post (rr_msk sz ks os r)) : wpY_enabled post (cn, fy, dy, ks, os, sz, bg, va, rg, ho, pl, dn, ol, rl, sm, kp, tr, fd) :=
  ⟨4, ys_en1 (t := 0) hP hR hY (by omega) (ys_en1 (t := 1) hP hR hY (by omega) (ys_en1 (t := 2) hP hR hY (by omega) (br_t (by decide) h)))⟩
end
theorem i_vc_enabled {k : Nat} {u : SX} {v : SY} (I : i_Rel k u v) (hk : k + 4 ≤ 2048) : wpX_enabled (fun r => wpY_enabled (fun r' => r' = r ∧ i_Rel (k + 4) u v) v) u := by
  obtain ⟨S, T, n, B, fx, fy, dy, sz, ks, os, hi, et, ek, eo, mb, kb, oc, pa, nt, fo, bg, va, rg, ho, pl, dn, ol, rl, sm, kp, tr, fd, rfl, rfl, hG, hX, hY⟩ := I
  unfold wpX_enabled
  have n8 := rr_Go_8 hG (Nat.le_refl n)
  have hR := (rr_Go_Rk hG n (Nat.le_refl n)).1
  exact xs_thr_history hG.1 hR n8 (hX.1 n (Nat.le_refl n)) (ys_enabled hG.1 hR hY.2.1 ⟨rfl, rr_mk hG hX hY⟩)
theorem i_vc_value {k : Nat} {u : SX} {v : SY} (I : i_Rel k u v) (hk : k + 4 ≤ 2048) (v1 : Int32) : wpX_value (fun r => wpY_value (fun r' => r' = r ∧ i_Rel (k + 4) u v) v v1) u v1 := by
  obtain ⟨S, T, n, B, fx, fy, dy, sz, ks, os, hi, et, ek, eo, mb, kb, oc, pa, nt, fo, bg, va, rg, ho, pl, dn, ol, rl, sm, kp, tr, fd, rfl, rfl, hG, hX, hY⟩ := I
  unfold wpX_value wpY_value
  have same : i_Rel (k + 4) (nI n, fx, sz, ks, os, hi, et, ek, eo, mb, kb, oc, pa, nt, fo) (nI n, fy, dy, ks, os, sz, bg, va, rg, ho, pl, dn, ol, rl, sm, kp, tr, fd) := rr_mk hG hX hY
  have n8 := rr_Go_8 hG (Nat.le_refl n)
  rcases rr_arg2 v1 with h | ⟨t, ht, rfl⟩
  · exact xs_var_f h (br_t rfl (ys_in_f (b := 1) (by omega) h (br_t rfl ⟨rfl, same⟩)))
  · have e1 := rr_ix0 n t
    refine xs_var_t ht (br_f (by decide) ⟨pk_in _ _ (by omega) e1, ys_in_t (b := 1) (by omega) (by omega) (br_f (by decide) ⟨pk_in t 2 ht rfl, ?_, same⟩)⟩)
    rw [e1, nI_clamp (by omega), nI_clamp (by omega), hX.1 n (Nat.le_refl n) t (by omega)]; exact hY.2.1.1 t ht
theorem i_vc_register {k : Nat} {u : SX} {v : SY} (I : i_Rel k u v) (hk : k + 4 ≤ 2048) (v1 : Int32) : wpX_register (fun r => wpY_register (fun r' => r' = r ∧ i_Rel (k + 4) u v) v v1) u v1 := by
  obtain ⟨S, T, n, B, fx, fy, dy, sz, ks, os, hi, et, ek, eo, mb, kb, oc, pa, nt, fo, bg, va, rg, ho, pl, dn, ol, rl, sm, kp, tr, fd, rfl, rfl, hG, hX, hY⟩ := I
  unfold wpX_register wpY_register
  have same : i_Rel (k + 4) (nI n, fx, sz, ks, os, hi, et, ek, eo, mb, kb, oc, pa, nt, fo) (nI n, fy, dy, ks, os, sz, bg, va, rg, ho, pl, dn, ol, rl, sm, kp, tr, fd) := rr_mk hG hX hY
  have n8 := rr_Go_8 hG (Nat.le_refl n)
  rcases rr_arg3 v1 with h | ⟨t, ht, rfl⟩
  · exact xs_thd_f h (br_t rfl (ys_in_f (b := 2) (by omega) h (br_t rfl ⟨rfl, same⟩)))
  · have e1 := rr_ix2 n t
    refine xs_thd_t ht (br_f (by decide) ⟨pk_in _ _ (by omega) e1, ys_in_t (b := 2) (by omega) (by omega) (br_f (by decide) ⟨pk_in t 3 ht rfl, ?_, same⟩)⟩)
    rw [e1, nI_clamp (by omega), nI_clamp (by omega), hX.1 n (Nat.le_refl n) (2 + t) (by omega)]; exact (hY.2.1.2.1 t ht).1
theorem i_vc_holder {k : Nat} {u : SX} {v : SY} (I : i_Rel k u v) (hk : k + 4 ≤ 2048) (v1 : Int32) : wpX_holder (fun r => wpY_holder (fun r' => r' = r ∧ i_Rel (k + 4) u v) v v1) u v1 := by
  obtain ⟨S, T, n, B, fx, fy, dy, sz, ks, os, hi, et, ek, eo, mb, kb, oc, pa, nt, fo, bg, va, rg, ho, pl, dn, ol, rl, sm, kp, tr, fd, rfl, rfl, hG, hX, hY⟩ := I
  unfold wpX_holder wpY_holder
  have same : i_Rel (k + 4) (nI n, fx, sz, ks, os, hi, et, ek, eo, mb, kb, oc, pa, nt, fo) (nI n, fy, dy, ks, os, sz, bg, va, rg, ho, pl, dn, ol, rl, sm, kp, tr, fd) := rr_mk hG hX hY
  have n8 := rr_Go_8 hG (Nat.le_refl n)
  rcases rr_arg2 v1 with h | ⟨t, ht, rfl⟩
  · exact xs_lok_f h (br_t rfl (ys_in_f (b := 1) (by omega) h (br_t rfl ⟨rfl, same⟩)))
  · have e1 := rr_ix8 n t
    have vt : vp_in (nI t) 2 := pk_in t 2 ht rfl
    have ct : (nI t).toNatClampNeg = t := nI_clamp (by omega)
    refine xs_lok_t ht (br_f (by decide) ⟨pk_in _ _ (by omega) e1, ys_in_t (b := 1) (by omega) (by omega) (br_f (by decide) ⟨vt, ?_⟩)⟩)
    have ch : hi (nI n * 10 + 8 + nI t).toNatClampNeg = rr_run ks os B T n (8 + t) := by rw [e1, nI_clamp (by omega)]; exact hX.1 n (Nat.le_refl n) (8 + t) (by omega)
    rw [ch, ct, hY.2.1.2.2 t ht]
    rcases (rr_Go_Rk hG n (Nat.le_refl n)).1.2 t ht with z | ⟨s, hs, z⟩
    · rw [z, rr_hm0]; exact br_f (by decide) ⟨rfl, same⟩
    · rw [z, rr_hmt hs]; exact br_t (nI_pos' (by omega)) ⟨vt, rfl, same⟩
end
section
theorem rr_b1b : ∀ i, i < 32 → bt (1 : Int32) i = decide (i = 0) := by decide +kernel
theorem rr_bit0 (y : Int32) : y &&& 1 = 1 ↔ bt y 0 = true := by
  constructor
  · intro h
    have : bt (y &&& 1) 0 = bt 1 0 := congrArg (fun z => bt z 0) h
    rw [b_and, rr_b1b 0 (by omega), decide_eq_true rfl, Bool.and_true] at this
    exact this
  · intro h
    refine b_ext (fun i hil => ?_)
    rw [b_and, rr_b1b i hil]
    rcases Nat.decEq i 0 with z | z
    · rw [decide_eq_false z, Bool.and_false]
    · rw [z, h]; rfl
theorem rr_bitb (x : Int32) {b : Nat} (hb : b < 32) : (x >>> (nI b &&& 31)) &&& 1 = 1 ↔ bt x b = true := by
  rw [rr_bit0, b_sshr b hb x (show 0 < 32 by omega), if_pos (by omega)]; exact Iff.rfl
theorem xs_cont {x : Int32} {b : Nat} (hb : b < 32) {post : Int32 → Prop} (h : post (rr_b (bt x b))) : wpX_contains post x (nI b) := by
  have q := rr_bitb x hb
  rcases z : bt x b with _ | _
  · rw [z] at h q; exact br_f (fun y => absurd (q.mp y) (by decide)) h
  · rw [z] at h q; exact br_t (q.mpr rfl) h
section
variable {ec fx : Int32} {sz ks os hi et ek eo mb kb oc pa nt fo : Nat → Int32}
variable {n : Nat}
theorem xs_ev_f {x : Int32} (hx : x < 0 ∨ nI n ≤ x) {post : Int32 → Prop} (h : post 0) : wpX_isEvent post (nI n, fx, sz, ks, os, hi, et, ek, eo, mb, kb, oc, pa, nt, fo) x := by
  by_cases z : x < 0
  · exact br_t z h
  · rcases hx with y | y
    · exact absurd y z
    · exact br_f z (br_t y h)
theorem xs_ev_t {i : Nat} (hil : i < n) (hn : n < 2 ^ 31) {post : Int32 → Prop} (h : post 1) : wpX_isEvent post (nI n, fx, sz, ks, os, hi, et, ek, eo, mb, kb, oc, pa, nt, fo) (nI i) := br_f (nI_pos (by omega)) (br_f (nI_ge hil hn) h)
end
section
variable {cn fy dy : Int32} {ks os sz bg va rg ho pl dn ol rl sm kp tr fd : Nat → Int32}
variable {n : Nat}
theorem ys_pair_f {x y : Int32} (hx : (x < 0 ∨ nI n ≤ x) ∨ (y < 0 ∨ nI n ≤ y)) {post : Int32 → Prop} (h : post 0) : wpY_isPair post (nI n, fy, dy, ks, os, sz, bg, va, rg, ho, pl, dn, ol, rl, sm, kp, tr, fd) x y := by
  refine br_c (fun _ => h) (fun a => br_c (fun _ => h) (fun b => br_c (fun _ => h) (fun c => br_c (fun _ => h) (fun d => ?_))))
  rcases hx with (z | z) | (z | z)
  · exact absurd z a
  · exact absurd z c
  · exact absurd z b
  · exact absurd z d
theorem ys_pair_t {i j : Nat} (hil : i < n) (hj : j < n) (hn : n < 2 ^ 31) {post : Int32 → Prop} (h : post 1) : wpY_isPair post (nI n, fy, dy, ks, os, sz, bg, va, rg, ho, pl, dn, ol, rl, sm, kp, tr, fd) (nI i) (nI j) :=
  br_f (nI_pos (by omega)) (br_f (nI_pos (by omega)) (br_f (nI_ge hil hn) (br_f (nI_ge hj hn) h)))
end
theorem rr_ixr (i j : Nat) : 8 * nI i + nI j = nI (8 * i + j) := by rw [show (8 : Int32) = nI 8 from rfl, pk_mul, nI_add]
theorem i_vc_must {k : Nat} {u : SX} {v : SY} (I : i_Rel k u v) (hk : k + 4 ≤ 2048) (v1 : Int32) (v2 : Int32) : wpX_must (fun r => wpY_must (fun r' v' => r' = r ∧ i_Rel (k + 4) u v') v v1 v2) u v1 v2 := by
  obtain ⟨S, T, n, B, fx, fy, dy, sz, ks, os, hi, et, ek, eo, mb, kb, oc, pa, nt, fo, bg, va, rg, ho, pl, dn, ol, rl, sm, kp, tr, fd, rfl, rfl, hG, hX, hY⟩ := I
  unfold wpX_must wpY_must
  have n8 := rr_Go_8 hG (Nat.le_refl n)
  have fin : ∀ r : Int32, ((v1 < 0 ∨ nI n ≤ v1) ∨ (v2 < 0 ∨ nI n ≤ v2) → r = 0) → (∀ i j, i < n → j < n → v1 = nI i → v2 = nI j → r = rr_b (rr_P (rr_E false ks os T (rr_od ks os B T)) 8 i j)) → wpY_must (fun r' v' => r' = r ∧ i_Rel (k + 4) (nI n, fx, sz, ks, os, hi, et, ek, eo, mb, kb, oc, pa, nt, fo) v') (nI n, fy, dy, ks, os, sz, bg, va, rg, ho, pl, dn, ol, rl, sm, kp, tr, fd) v1 v2 := by
    intro r h0 h1
    unfold wpY_must
    refine ys_close false hG.1 (rr_Ev_of hG) (rr_Ye_of hY) (fun a ha => ?_)
    have same : i_Rel (k + 4) (nI n, fx, sz, ks, os, hi, et, ek, eo, mb, kb, oc, pa, nt, fo) (nI n, fy, dy, ks, os, sz, bg, va, rg, ho, pl, dn, ol, a, sm, kp, tr, fd) := rr_mk hG hX hY
    rcases pk_ix v1 (n := n) (by omega) with h | h | ⟨i, hil, e1⟩
    · exact ys_pair_f (Or.inl (Or.inl h)) (br_t rfl ⟨(h0 (Or.inl (Or.inl h))).symm, same⟩)
    · exact ys_pair_f (Or.inl (Or.inr h)) (br_t rfl ⟨(h0 (Or.inl (Or.inr h))).symm, same⟩)
    · rcases pk_ix v2 (n := n) (by omega) with h | h | ⟨j, hj, e2⟩
      · exact ys_pair_f (Or.inr (Or.inl h)) (br_t rfl ⟨(h0 (Or.inr (Or.inl h))).symm, same⟩)
      · exact ys_pair_f (Or.inr (Or.inr h)) (br_t rfl ⟨(h0 (Or.inr (Or.inr h))).symm, same⟩)
      · have hr := h1 i j hil hj e1 e2
        subst e1 e2
        have ix := rr_ixr i j
        refine ys_pair_t hil hj (by omega) (br_f (by decide) ⟨pk_in _ _ (by omega) ix, ?_⟩)
        rw [ix, nI_clamp (by omega), ha i (by omega) j (by omega), decide_eq_true hj, Bool.true_and]
        refine rr_bd (fun z => ?_) (fun z => ?_)
        · rw [z] at hr; exact ⟨hr.symm, same⟩
        · rw [z] at hr; exact ⟨hr.symm, same⟩
  unfold wpY_must at fin
  rcases pk_ix v1 (n := n) (by omega) with h | h | ⟨i, hil, e1⟩
  · exact xs_ev_f (Or.inl h) (br_t rfl (fin 0 (fun _ => rfl) (fun i j a _ b _ => by subst b; exact absurd h (nI_pos (by omega)))))
  · exact xs_ev_f (Or.inr h) (br_t rfl (fin 0 (fun _ => rfl) (fun i j a _ b _ => by subst b; exact absurd h (nI_ge a (by omega)))))
  · subst e1
    refine xs_ev_t hil (by omega) (br_f (by decide) ?_)
    rcases pk_ix v2 (n := n) (by omega) with h | h | ⟨j, hj, e2⟩
    · exact xs_ev_f (Or.inl h) (br_t rfl (fin 0 (fun _ => rfl) (fun i j _ a _ b => by subst b; exact absurd h (nI_pos (by omega)))))
    · exact xs_ev_f (Or.inr h) (br_t rfl (fin 0 (fun _ => rfl) (fun i j _ a _ b => by subst b; exact absurd h (nI_ge a (by omega)))))
    · subst e2
      refine xs_ev_t hj (by omega) (br_f (by decide) ⟨pk_in j 8 (by omega) rfl, ?_⟩)
      rw [nI_clamp (by omega)]
      have f2 : ∀ b : Bool, b = rr_P (rr_E false ks os T (rr_od ks os B T)) 8 i j → ∀ r, r = rr_b b → (r = 0 ∨ True) → wpY_must (fun r' v' => r' = r ∧ i_Rel (k + 4) (nI n, fx, sz, ks, os, hi, et, ek, eo, mb, kb, oc, pa, nt, fo) v') (nI n, fy, dy, ks, os, sz, bg, va, rg, ho, pl, dn, ol, rl, sm, kp, tr, fd) (nI i) (nI j) := by
        intro b hb r hr _
        unfold wpY_must
        refine fin r (fun z => ?_) (fun i' j' _ _ a b' => ?_)
        · rcases z with (z | z) | (z | z)
          · exact absurd z (nI_pos (by omega))
          · exact absurd z (nI_ge hil (by omega))
          · exact absurd z (nI_pos (by omega))
          · exact absurd z (nI_ge hj (by omega))
        · rw [nI_eq (by omega) (by omega)] at a b'
          rw [← a, ← b', hr, hb]
      unfold wpY_must at f2
      refine xs_cont (by omega) ?_
      rw [hX.2.2.1 j hj i (by omega)]
      exact rr_bd (fun z => f2 false z.symm 0 rfl (Or.inr trivial)) (fun z => f2 true z.symm 1 rfl (Or.inr trivial))
theorem i_vc_known {k : Nat} {u : SX} {v : SY} (I : i_Rel k u v) (hk : k + 4 ≤ 2048) (v1 : Int32) (v2 : Int32) : wpX_known (fun r => wpY_known (fun r' v' => r' = r ∧ i_Rel (k + 4) u v') v v1 v2) u v1 v2 := by
  obtain ⟨S, T, n, B, fx, fy, dy, sz, ks, os, hi, et, ek, eo, mb, kb, oc, pa, nt, fo, bg, va, rg, ho, pl, dn, ol, rl, sm, kp, tr, fd, rfl, rfl, hG, hX, hY⟩ := I
  unfold wpX_known wpY_known
  have n8 := rr_Go_8 hG (Nat.le_refl n)
  have fin : ∀ r : Int32, ((v1 < 0 ∨ nI n ≤ v1) ∨ (v2 < 0 ∨ nI n ≤ v2) → r = 0) → (∀ i j, i < n → j < n → v1 = nI i → v2 = nI j → r = rr_b (rr_P (rr_E true ks os T (rr_od ks os B T)) 8 i j)) → wpY_known (fun r' v' => r' = r ∧ i_Rel (k + 4) (nI n, fx, sz, ks, os, hi, et, ek, eo, mb, kb, oc, pa, nt, fo) v') (nI n, fy, dy, ks, os, sz, bg, va, rg, ho, pl, dn, ol, rl, sm, kp, tr, fd) v1 v2 := by
    intro r h0 h1
    unfold wpY_known
    refine ys_close true hG.1 (rr_Ev_of hG) (rr_Ye_of hY) (fun a ha => ?_)
    have same : i_Rel (k + 4) (nI n, fx, sz, ks, os, hi, et, ek, eo, mb, kb, oc, pa, nt, fo) (nI n, fy, dy, ks, os, sz, bg, va, rg, ho, pl, dn, ol, a, sm, kp, tr, fd) := rr_mk hG hX hY
    rcases pk_ix v1 (n := n) (by omega) with h | h | ⟨i, hil, e1⟩
    · exact ys_pair_f (Or.inl (Or.inl h)) (br_t rfl ⟨(h0 (Or.inl (Or.inl h))).symm, same⟩)
    · exact ys_pair_f (Or.inl (Or.inr h)) (br_t rfl ⟨(h0 (Or.inl (Or.inr h))).symm, same⟩)
    · rcases pk_ix v2 (n := n) (by omega) with h | h | ⟨j, hj, e2⟩
      · exact ys_pair_f (Or.inr (Or.inl h)) (br_t rfl ⟨(h0 (Or.inr (Or.inl h))).symm, same⟩)
      · exact ys_pair_f (Or.inr (Or.inr h)) (br_t rfl ⟨(h0 (Or.inr (Or.inr h))).symm, same⟩)
      · have hr := h1 i j hil hj e1 e2
        subst e1 e2
        have ix := rr_ixr i j
        refine ys_pair_t hil hj (by omega) (br_f (by decide) ⟨pk_in _ _ (by omega) ix, ?_⟩)
        rw [ix, nI_clamp (by omega), ha i (by omega) j (by omega), decide_eq_true hj, Bool.true_and]
        refine rr_bd (fun z => ?_) (fun z => ?_)
        · rw [z] at hr; exact ⟨hr.symm, same⟩
        · rw [z] at hr; exact ⟨hr.symm, same⟩
  unfold wpY_known at fin
  rcases pk_ix v1 (n := n) (by omega) with h | h | ⟨i, hil, e1⟩
  · exact xs_ev_f (Or.inl h) (br_t rfl (fin 0 (fun _ => rfl) (fun i j a _ b _ => by subst b; exact absurd h (nI_pos (by omega)))))
  · exact xs_ev_f (Or.inr h) (br_t rfl (fin 0 (fun _ => rfl) (fun i j a _ b _ => by subst b; exact absurd h (nI_ge a (by omega)))))
  · subst e1
    refine xs_ev_t hil (by omega) (br_f (by decide) ?_)
    rcases pk_ix v2 (n := n) (by omega) with h | h | ⟨j, hj, e2⟩
    · exact xs_ev_f (Or.inl h) (br_t rfl (fin 0 (fun _ => rfl) (fun i j _ a _ b => by subst b; exact absurd h (nI_pos (by omega)))))
    · exact xs_ev_f (Or.inr h) (br_t rfl (fin 0 (fun _ => rfl) (fun i j _ a _ b => by subst b; exact absurd h (nI_ge a (by omega)))))
    · subst e2
      refine xs_ev_t hj (by omega) (br_f (by decide) ⟨pk_in j 8 (by omega) rfl, ?_⟩)
      rw [nI_clamp (by omega)]
      have f2 : ∀ b : Bool, b = rr_P (rr_E true ks os T (rr_od ks os B T)) 8 i j → ∀ r, r = rr_b b → (r = 0 ∨ True) → wpY_known (fun r' v' => r' = r ∧ i_Rel (k + 4) (nI n, fx, sz, ks, os, hi, et, ek, eo, mb, kb, oc, pa, nt, fo) v') (nI n, fy, dy, ks, os, sz, bg, va, rg, ho, pl, dn, ol, rl, sm, kp, tr, fd) (nI i) (nI j) := by
        intro b hb r hr _
        unfold wpY_known
        refine fin r (fun z => ?_) (fun i' j' _ _ a b' => ?_)
        · rcases z with (z | z) | (z | z)
          · exact absurd z (nI_pos (by omega))
          · exact absurd z (nI_ge hil (by omega))
          · exact absurd z (nI_pos (by omega))
          · exact absurd z (nI_ge hj (by omega))
        · rw [nI_eq (by omega) (by omega)] at a b'
          rw [← a, ← b', hr, hb]
      unfold wpY_known at f2
      refine xs_cont (by omega) ?_
      rw [hX.2.2.2 j hj i (by omega)]
      exact rr_bd (fun z => f2 false z.symm 0 rfl (Or.inr trivial)) (fun z => f2 true z.symm 1 rfl (Or.inr trivial))
end
section
def rr_cs (g : Nat → Bool) : Nat → Nat
  | 0 => 0
  | m + 1 => rr_cs g m + (if g m then 1 else 0)
def rr_ct (f : Nat → Nat → Bool) : Nat → Nat
  | 0 => 0
  | m + 1 => rr_ct f m + rr_cs (fun i => f i m) m
theorem rr_cs_le (g : Nat → Bool) : ∀ m, rr_cs g m ≤ m := by
  intro m
  induction m with
  | zero => exact Nat.le_refl 0
  | succ m ih => show rr_cs g m + _ ≤ m + 1; cases g m <;> simp <;> omega
theorem rr_cs0 {g : Nat → Bool} : ∀ m, rr_cs g m = 0 ↔ ∀ i, i < m → g i = false := by
  intro m
  induction m with
  | zero => exact ⟨fun _ i hil => by omega, fun _ => rfl⟩
  | succ m ih =>
    have e : rr_cs g (m + 1) = rr_cs g m + (if g m then 1 else 0) := rfl
    rw [e]
    constructor
    · intro h i hil
      have h1 : rr_cs g m = 0 := by omega
      have h2 : (if g m then 1 else 0) = 0 := by omega
      rcases Nat.decEq i m with z | z
      · exact ih.mp h1 i (by omega)
      · rw [z]
        rcases y : g m with _ | _
        · rfl
        · rw [y] at h2; exact absurd h2 (by decide)
    · intro h
      rw [ih.mpr (fun i hil => h i (by omega)), h m (by omega)]; rfl
theorem rr_cs_t {g : Nat → Bool} {m : Nat} (h : g m = true) : rr_cs g (m + 1) = rr_cs g m + 1 := by
  show rr_cs g m + (if g m then 1 else 0) = _; rw [h]; rfl
theorem rr_cs_f {g : Nat → Bool} {m : Nat} (h : g m = false) : rr_cs g (m + 1) = rr_cs g m := by
  show rr_cs g m + (if g m then 1 else 0) = _; rw [h]; rfl
/-- one counting loop -/
theorem rr_one {j : Nat} {g : Nat → Bool} {K : Int32 → Prop} (V : Nat → Int32 → Int32 → Prop) (a : Nat)
    (v0 : ∀ M x, K x → V (M + 1) x (nI j))
    (vs : ∀ M i x, i < j → (g i = true → V M (x + 1) (nI (i + 1))) → (g i = false → V M x (nI (i + 1))) → V (M + 1) x (nI i))
    (h : K (nI (a + rr_cs g j))) : ∃ M, V M (nI a) 0 := by
  refine loop_0 (fun M i (x : Int32) => V M x (nI i)) (fun i x => x = nI (a + rr_cs g i)) j (nI a) rfl ?_ ?_
  · intro M x hx; exact v0 M x (by rw [hx]; exact h)
  · intro M i x hil hx ih
    refine vs M i x hil (fun z => ih _ ?_) (fun z => ih _ ?_)
    · rw [hx, nI_1, rr_cs_t z, Nat.add_assoc]
    · rw [hx, rr_cs_f z]
/-- a counting loop in a loop -/
theorem rr_dbl {n : Nat} {f : Nat → Nat → Bool} {K : Int32 → Prop} (W : Nat → Int32 → Int32 → Prop) (V : (Int32 → Int32 → Prop) → Nat → Nat → Int32 → Int32 → Prop)
    (w0 : ∀ N x, K x → W (N + 1) x (nI n))
    (ws : ∀ N j x, j < n → (∃ M, V (W N) j M x 0) → W (N + 1) x (nI j))
    (v0 : ∀ J j M x, j < n → J x (nI (j + 1)) → V J j (M + 1) x (nI j))
    (vs : ∀ J j M i x, i < j → j < n → (f i j = true → V J j M (x + 1) (nI (i + 1))) → (f i j = false → V J j M x (nI (i + 1))) → V J j (M + 1) x (nI i))
    (h : K (nI (rr_ct f n))) : ∃ N, W N 0 0 := by
  refine loop_0 (fun N j (x : Int32) => W N x (nI j)) (fun j x => x = nI (rr_ct f j)) n 0 rfl ?_ ?_
  · intro N x hx; exact w0 N x (by rw [hx]; exact h)
  · intro N j x hj hx ih
    subst hx
    refine ws N j _ hj (rr_one (g := fun i => f i j) (K := fun x => W N x (nI (j + 1))) (V (W N) j) (rr_ct f j) (fun M x hK => v0 (W N) j M x hj hK) (fun M i x hil h1 h2 => vs (W N) j M i x hil hj h1 h2) (ih _ rfl))
def rr_bw (P : Nat → Nat → Bool) (i j : Nat) : Bool := (List.range 8).any (fun a => P i a && P a j)
theorem rr_bw_t {P : Nat → Nat → Bool} {i j : Nat} : rr_bw P i j = true ↔ ∃ a, a < 8 ∧ P i a = true ∧ P a j = true := by
  unfold rr_bw; rw [List.any_eq_true]
  constructor
  · rintro ⟨a, ha, h⟩
    rw [Bool.and_eq_true] at h
    exact ⟨a, List.mem_range.mp ha, h.1, h.2⟩
  · rintro ⟨a, ha, h1, h2⟩
    exact ⟨a, List.mem_range.mpr ha, by rw [h1, h2]; rfl⟩
section
variable {ec fx cn fy dy : Int32} {sz ks os hi et ek eo mb kb oc pa nt fo bg va rg ho pl dn ol rl sm kp tr fd : Nat → Int32}
variable {S T od : Nat → Nat} {n : Nat}
theorem xs_conflicts (hE : rr_Ev n T od) (hX : rr_Xe n ks os T od et ek eo) {post : Int32 → Prop} (h : post (nI (rr_ct (rr_cf ks os T od) n))) : wpX_conflicts post (nI n, fx, sz, ks, os, hi, et, ek, eo, mb, kb, oc, pa, nt, fo) := by
  have n8 := hE.1
  refine rr_dbl (n := n) (f := rr_cf ks os T od) (K := post) (fun N x j => wX_conflicts_4 post (nI n) fx sz ks os hi et ek eo mb kb oc pa nt fo N x j) (fun J j M x i => wX_conflicts_14 post J (nI j) (nI n) fx sz ks os hi et ek eo mb kb oc pa nt fo M x i) (fun N x hp => br_t (nI_le (Nat.le_refl n) (by omega)) hp) (fun N j x hj hv => br_f (nI_ge hj (by omega)) hv) (fun J j M x hj hJ => br_t (nI_le (Nat.le_refl j) (by omega)) (nm_r (nI_1 j) hJ)) (fun J j M i x hil hj h1 h2 => br_f (nI_ge hil (by omega)) (xs_conf hE hX (by omega) hj (rr_bd (fun z => nm_r (nI_1 i) (h2 z)) (fun z => nm_e (nm_r (nI_1 i) (h1 z)))))) h
theorem ys_conflicts (hP : rr_Pg sz ks os S) (hE : rr_Ev n T od) (hD : rr_Ye n od dn) {post : Int32 → Prop} (h : post (nI (rr_ct (rr_cf ks os T od) n))) : wpY_conflicts post (nI n, fy, dy, ks, os, sz, bg, va, rg, ho, pl, dn, ol, rl, sm, kp, tr, fd) := by
  have n8 := hE.1
  refine rr_dbl (n := n) (f := rr_cf ks os T od) (K := post) (fun N x j => wY_conflicts_4 post (nI n) fy dy ks os sz bg va rg ho pl dn ol rl sm kp tr fd N x j) (fun J j M x i => wY_conflicts_14 post J (nI j) (nI n) fy dy ks os sz bg va rg ho pl dn ol rl sm kp tr fd M x i) (fun N x hp => br_t (nI_le (Nat.le_refl n) (by omega)) hp) (fun N j x hj hv => br_f (nI_ge hj (by omega)) hv) (fun J j M x hj hJ => br_t (nI_le (Nat.le_refl j) (by omega)) (nm_r (nI_1 j) hJ)) (fun J j M i x hil hj h1 h2 => br_f (nI_ge hil (by omega)) (ys_conf hP hE hD (by omega) hj (rr_bd (fun z => nm_r (nI_1 i) (h2 z)) (fun z => nm_e (nm_r (nI_1 i) (h1 z)))))) h
theorem xs_through (n8 : n ≤ 8) {i j : Nat} (hil : i < j) (hj : j < n) {P : Nat → Nat → Bool} (hlt : ∀ a b, P a b = true → a < b) (hM : ∀ j, j < n → ∀ b, b < 32 → bt (mb j) b = P b j) {post : Int32 → Prop} (h : post (rr_b (rr_bw P i j))) : wpX_mustThroughAnother post (nI n, fx, sz, ks, os, hi, et, ek, eo, mb, kb, oc, pa, nt, fo) (nI i) (nI j) := by
  have vj : vp_in (nI j) 8 := pk_in j 8 (by omega) rfl
  have key : ∀ d m, m + d = j → i < m → (∀ a, a < m → ¬ (P i a = true ∧ P a j = true)) → wX_mustThroughAnother_4 post (nI i) (nI j) (nI n) fx sz ks os hi et ek eo mb kb oc pa nt fo (d + 1) (nI m) := by
    intro d
    induction d with
    | zero =>
      intro m hm him hno
      obtain rfl : m = j := by omega
      have : rr_bw P i m = false := by
        rcases z : rr_bw P i m with _ | _
        · rfl
        · obtain ⟨a, _, h1, h2⟩ := rr_bw_t.mp z
          exact absurd ⟨h1, h2⟩ (hno a (hlt a m h2))
      rw [this] at h
      exact br_t (nI_le (Nat.le_refl m) (by omega)) h
    | succ d ih =>
      intro m hm him hno
      have cont : ¬ (P i m = true ∧ P m j = true) → wX_mustThroughAnother_4 post (nI i) (nI j) (nI n) fx sz ks os hi et ek eo mb kb oc pa nt fo (d + 1) (nI (m + 1)) := fun q => ih (m + 1) (by omega) (by omega) (fun a ha => by
        rcases Nat.decEq a m with z | z
        · exact hno a (by omega)
        · rw [z]; exact q)
      refine br_f (nI_ge (by omega) (by omega)) ⟨pk_in m 8 (by omega) rfl, xs_cont (by omega) ?_⟩
      rw [nI_clamp (by omega), hM m (by omega) i (by omega)]
      refine rr_bd (fun z => nm_r (nI_1 m) (cont (fun q => by rw [z] at q; cases q.1))) (fun z => ⟨vj, xs_cont (by omega) ?_⟩)
      rw [nI_clamp (by omega), hM j hj m (by omega)]
      refine rr_bd (fun y => nm_r (nI_1 m) (cont (fun q => by rw [y] at q; cases q.2))) (fun y => ?_)
      rw [rr_bw_t.mpr ⟨m, by omega, z, y⟩] at h
      exact h
  refine nm_r (nI_1 i) ⟨j - (i + 1) + 1, key (j - (i + 1)) (i + 1) (by omega) (by omega) (fun a ha q => ?_)⟩
  have := hlt i a q.1; omega
theorem ys_between (n8 : n ≤ 8) {i j : Nat} (hil : i < j) (hj : j < n) {P : Nat → Nat → Bool} (hlt : ∀ a b, P a b = true → a < b) (hM : ∀ i, i < 8 → ∀ j, j < 8 → rl (8 * i + j) = rr_b (decide (j < n) && P i j)) {post : Int32 → Prop} (h : post (rr_b (rr_bw P i j))) : wpY_isBetween post (nI n, fy, dy, ks, os, sz, bg, va, rg, ho, pl, dn, ol, rl, sm, kp, tr, fd) (nI i) (nI j) := by
  have key : ∀ d m, m + d = n → (∀ a, a < m → ¬ (P i a = true ∧ P a j = true)) → wY_isBetween_2 post (nI i) (nI j) (nI n) fy dy ks os sz bg va rg ho pl dn ol rl sm kp tr fd (d + 1) (nI m) := by
    intro d
    induction d with
    | zero =>
      intro m hm hno
      obtain rfl : m = n := by omega
      have : rr_bw P i j = false := by
        rcases z : rr_bw P i j with _ | _
        · rfl
        · obtain ⟨a, _, h1, h2⟩ := rr_bw_t.mp z
          have := hlt a j h2
          exact absurd ⟨h1, h2⟩ (hno a (by omega))
      rw [this] at h
      exact br_t (nI_le (Nat.le_refl m) (by omega)) h
    | succ d ih =>
      intro m hm hno
      have cont : ¬ (P i m = true ∧ P m j = true) → wY_isBetween_2 post (nI i) (nI j) (nI n) fy dy ks os sz bg va rg ho pl dn ol rl sm kp tr fd (d + 1) (nI (m + 1)) := fun q => ih (m + 1) (by omega) (fun a ha => by
        rcases Nat.decEq a m with z | z
        · exact hno a (by omega)
        · rw [z]; exact q)
      have e1 := rr_ixr i m
      have e2 := rr_ixr m j
      refine br_f (nI_ge (by omega) (by omega)) ⟨pk_in _ _ (by omega) e1, ?_⟩
      rw [e1, nI_clamp (by omega), hM i (by omega) m (by omega), decide_eq_true (show m < n by omega), Bool.true_and]
      refine rr_bd (fun z => nm_r (nI_1 m) (cont (fun q => by rw [z] at q; cases q.1))) (fun z => ⟨pk_in _ _ (by omega) e2, ?_⟩)
      rw [e2, nI_clamp (by omega), hM m (by omega) j (by omega), decide_eq_true hj, Bool.true_and]
      refine rr_bd (fun y => nm_r (nI_1 m) (cont (fun q => by rw [y] at q; cases q.2))) (fun y => ?_)
      rw [rr_bw_t.mpr ⟨m, by omega, z, y⟩] at h
      exact h
  exact ⟨n + 1, key n 0 (by omega) (fun a ha => by omega)⟩
theorem xs_needed (hE : rr_Ev n T od) (hX : rr_Xe n ks os T od et ek eo) {P : Nat → Nat → Bool} (hlt : ∀ a b, P a b = true → a < b) (hM : ∀ j, j < n → ∀ b, b < 32 → bt (mb j) b = P b j) {post : Int32 → Prop} (h : post (nI (rr_ct (fun i j => rr_cf ks os T od i j && !(rr_bw P i j)) n))) : wpX_needed post (nI n, fx, sz, ks, os, hi, et, ek, eo, mb, kb, oc, pa, nt, fo) := by
  have n8 := hE.1
  refine rr_dbl (n := n) (f := fun i j => rr_cf ks os T od i j && !(rr_bw P i j)) (K := post) (fun N x j => wX_needed_4 post (nI n) fx sz ks os hi et ek eo mb kb oc pa nt fo N x j) (fun J j M x i => wX_needed_14 post J (nI j) (nI n) fx sz ks os hi et ek eo mb kb oc pa nt fo M x i) (fun N x hp => br_t (nI_le (Nat.le_refl n) (by omega)) hp) (fun N j x hj hv => br_f (nI_ge hj (by omega)) hv) (fun J j M x hj hJ => br_t (nI_le (Nat.le_refl j) (by omega)) (nm_r (nI_1 j) hJ)) (fun J j M i x hil hj h1 h2 => br_f (nI_ge hil (by omega)) (xs_conf hE hX (by omega) hj (rr_bd (fun z => nm_r (nI_1 i) (h2 ?_)) (fun z => xs_through n8 hil hj hlt hM (rr_bd (fun y => nm_e (nm_r (nI_1 i) (h1 ?_))) (fun y => nm_r (nI_1 i) (h2 ?_))))))) h
  · show (rr_cf ks os T od i j && !(rr_bw P i j)) = false; rw [z]; rfl
  · show (rr_cf ks os T od i j && !(rr_bw P i j)) = true; rw [z, y]; rfl
  · show (rr_cf ks os T od i j && !(rr_bw P i j)) = false; rw [z, y]; rfl
theorem ys_needed9 (hP : rr_Pg sz ks os S) (hE : rr_Ev n T od) (hD : rr_Ye n od dn) {P : Nat → Nat → Bool} (hlt : ∀ a b, P a b = true → a < b) (hM : ∀ i, i < 8 → ∀ j, j < 8 → rl (8 * i + j) = rr_b (decide (j < n) && P i j)) {post : Int32 → SY → Prop} (h : post (nI (rr_ct (fun i j => rr_cf ks os T od i j && !(rr_bw P i j)) n)) (nI n, fy, dy, ks, os, sz, bg, va, rg, ho, pl, dn, ol, rl, sm, kp, tr, fd)) : ∃ N, wY_needed_9 post (nI n) fy dy ks os sz bg va rg ho pl dn ol rl sm kp tr fd N 0 0 := by
  have n8 := hE.1
  refine rr_dbl (n := n) (f := fun i j => rr_cf ks os T od i j && !(rr_bw P i j)) (K := fun x => post x (nI n, fy, dy, ks, os, sz, bg, va, rg, ho, pl, dn, ol, rl, sm, kp, tr, fd)) (fun N x j => wY_needed_9 post (nI n) fy dy ks os sz bg va rg ho pl dn ol rl sm kp tr fd N x j) (fun J j M x i => wY_needed_19 post J (nI j) (nI n) fy dy ks os sz bg va rg ho pl dn ol rl sm kp tr fd M x i) (fun N x hp => br_t (nI_le (Nat.le_refl n) (by omega)) hp) (fun N j x hj hv => br_f (nI_ge hj (by omega)) hv) (fun J j M x hj hJ => br_t (nI_le (Nat.le_refl j) (by omega)) (nm_r (nI_1 j) hJ)) (fun J j M i x hil hj h1 h2 => br_f (nI_ge hil (by omega)) (ys_conf hP hE hD (by omega) hj (rr_bd (fun z => nm_r (nI_1 i) (h2 ?_)) (fun z => ys_between n8 hil hj hlt hM (rr_bd (fun y => nm_e (nm_r (nI_1 i) (h1 ?_))) (fun y => nm_r (nI_1 i) (h2 ?_))))))) h
  · show (rr_cf ks os T od i j && !(rr_bw P i j)) = false; rw [z]; rfl
  · show (rr_cf ks os T od i j && !(rr_bw P i j)) = true; rw [z, y]; rfl
  · show (rr_cf ks os T od i j && !(rr_bw P i j)) = false; rw [z, y]; rfl
end
theorem i_vc_conflicts {k : Nat} {u : SX} {v : SY} (I : i_Rel k u v) (hk : k + 4 ≤ 2048) : wpX_conflicts (fun r => wpY_conflicts (fun r' => r' = r ∧ i_Rel (k + 4) u v) v) u := by
  obtain ⟨S, T, n, B, fx, fy, dy, sz, ks, os, hi, et, ek, eo, mb, kb, oc, pa, nt, fo, bg, va, rg, ho, pl, dn, ol, rl, sm, kp, tr, fd, rfl, rfl, hG, hX, hY⟩ := I
  exact xs_conflicts (rr_Ev_of hG) hX.2.1 (ys_conflicts hG.1 (rr_Ev_of hG) (rr_Ye_of hY) ⟨rfl, rr_mk hG hX hY⟩)
theorem i_vc_needed {k : Nat} {u : SX} {v : SY} (I : i_Rel k u v) (hk : k + 4 ≤ 2048) : wpX_needed (fun r => wpY_needed (fun r' v' => r' = r ∧ i_Rel (k + 4) u v') v) u := by
  obtain ⟨S, T, n, B, fx, fy, dy, sz, ks, os, hi, et, ek, eo, mb, kb, oc, pa, nt, fo, bg, va, rg, ho, pl, dn, ol, rl, sm, kp, tr, fd, rfl, rfl, hG, hX, hY⟩ := I
  refine xs_needed (P := rr_P (rr_E false ks os T (rr_od ks os B T)) 8) (rr_Ev_of hG) hX.2.1 (fun a b => rr_P_lt 8 a b) hX.2.2.1 ?_
  unfold wpY_needed
  exact ys_close false hG.1 (rr_Ev_of hG) (rr_Ye_of hY) (fun a ha => ys_needed9 (P := rr_P (rr_E false ks os T (rr_od ks os B T)) 8) hG.1 (rr_Ev_of hG) (rr_Ye_of hY) (fun a b => rr_P_lt 8 a b) ha ⟨rfl, rr_mk hG hX hY⟩)
end
section
theorem rr_rk : ∀ a, a < 5 → ∀ b, b < 5 → rr_cfk (nI a) (nI b) = true → rr_ac (nI b) = !(decide (¬ nI a ≤ 2)) := by decide +kernel
def rr_rc (ks os : Nat → Int32) (T od : Nat → Nat) (P : Nat → Nat → Bool) (i j : Nat) : Bool := rr_ac (ks (od j)) && (rr_cf ks os T od i j && !(P i j))
def rr_fst (f : Nat → Nat → Bool) : Nat → Nat → Int32
  | 0, _ => -1000000004
  | d + 1, j => if rr_cs (fun i => f i j) j = 0 then rr_fst f d (j + 1) else nI j
section
variable {ec fx cn fy dy : Int32} {sz ks os hi et ek eo mb kb oc pa nt fo bg va rg ho pl dn ol rl sm kp tr fd : Nat → Int32}
variable {S T od : Nat → Nat} {n : Nat} {P : Nat → Nat → Bool}
theorem xs_ending (hE : rr_Ev n T od) (hX : rr_Xe n ks os T od et ek eo) (hM : ∀ j, j < n → ∀ b, b < 32 → bt (kb j) b = P b j) {j : Nat} (hj : j < n) {post : Int32 → Prop} (h : post (nI (rr_cs (fun i => rr_rc ks os T od P i j) j))) : wpX_racesEndingAt post (nI n, fx, sz, ks, os, hi, et, ek, eo, mb, kb, oc, pa, nt, fo) (nI j) := by
  have n8 := hE.1
  have vj : vp_in (nI j) 8 := pk_in j 8 (by omega) rfl
  have cj : (nI j).toNatClampNeg = j := nI_clamp (by omega)
  refine rr_one (j := j) (g := fun i => rr_rc ks os T od P i j) (K := post) (fun M x i => wX_racesEndingAt_4 post (nI j) (nI n) fx sz ks os hi et ek eo mb kb oc pa nt fo M x i) 0 (fun M x hK => br_t (nI_le (Nat.le_refl j) (by omega)) hK) (fun M i x hil h1 h2 => br_f (nI_ge hil (by omega)) ⟨vj, ?_⟩) (by rw [Nat.zero_add]; exact h)
  rw [cj, (hX j hj).2.1]
  have hf : rr_rc ks os T od P i j = (rr_ac (ks (od j)) && (rr_cf ks os T od i j && !(P i j))) := rfl
  rw [hf] at h1 h2
  refine xs_acc (rr_bd (fun z => nm_r (nI_1 i) (h2 (by rw [z]; rfl))) (fun z => xs_conf hE hX (by omega) hj (rr_bd (fun y => nm_r (nI_1 i) (h2 (by rw [y]; simp))) (fun y => ⟨vj, xs_cont (by omega) ?_⟩))))
  rw [hM j hj i (by omega)]
  exact rr_bd (fun w => nm_e (nm_r (nI_1 i) (h1 (by rw [z, y, w]; rfl)))) (fun w => nm_r (nI_1 i) (h2 (by rw [w]; simp)))
theorem ys_isRace (hP : rr_Pg sz ks os S) (hE : rr_Ev n T od) (hD : rr_Ye n od dn) (hM : ∀ i, i < 8 → ∀ j, j < 8 → rl (8 * i + j) = rr_b (decide (j < n) && P i j)) {i j : Nat} (hil : i < n) (hj : j < n) {post : Int32 → Prop} (h : post (rr_b (rr_rc ks os T od P i j))) : wpY_isRace post (nI n, fy, dy, ks, os, sz, bg, va, rg, ho, pl, dn, ol, rl, sm, kp, tr, fd) (nI i) (nI j) := by
  have n8 := hE.1
  unfold wpY_isRace
  obtain ⟨k1, hk1, e1, _⟩ := hP.2.2 (od i) (hE.2 i hil).2.1
  obtain ⟨k2, hk2, e2, _⟩ := hP.2.2 (od j) (hE.2 j hj).2.1
  unfold rr_rc at h
  refine ys_conf hP hE hD hil hj (rr_bd (fun z => ?_) (fun z => ys_lock hE hD hil ?_))
  · rw [z, Bool.false_and, Bool.and_false] at h; exact h
  · have hk : rr_cfk (ks (od i)) (ks (od j)) = true := by
      unfold rr_cf at z
      rw [Bool.and_eq_true, Bool.and_eq_true] at z; exact z.2.2
    have q : rr_ac (ks (od j)) = !(decide (¬ ks (od i) ≤ 2)) := by
      rw [e1, e2] at hk ⊢; exact rr_rk k1 (by omega) k2 (by omega) hk
    rw [q, z, Bool.true_and] at h
    refine rr_bd (fun y => ⟨pk_in _ _ (by omega) (rr_ixr i j), ?_⟩) (fun y => ?_)
    · rw [rr_ixr, nI_clamp (by omega), hM i (by omega) j (by omega), decide_eq_true hj, Bool.true_and]
      rw [y] at h
      refine rr_bd (fun w => ?_) (fun w => ?_)
      · rw [w] at h; exact h
      · rw [w] at h; exact h
    · rw [y] at h; exact h
theorem xs_races (hE : rr_Ev n T od) (hX : rr_Xe n ks os T od et ek eo) (hM : ∀ j, j < n → ∀ b, b < 32 → bt (kb j) b = P b j) {post : Int32 → Prop} (h : post (nI (rr_ct (rr_rc ks os T od P) n))) : wpX_races post (nI n, fx, sz, ks, os, hi, et, ek, eo, mb, kb, oc, pa, nt, fo) := by
  have n8 := hE.1
  refine loop_0 (fun N j (x : Int32) => wX_races_4 post (nI n) fx sz ks os hi et ek eo mb kb oc pa nt fo N x (nI j)) (fun j x => x = nI (rr_ct (rr_rc ks os T od P) j)) n 0 rfl ?_ ?_
  · intro N x hx; subst hx; exact br_t (nI_le (Nat.le_refl n) (by omega)) h
  · intro N j x hj hx ih
    subst hx
    exact br_f (nI_ge hj (by omega)) (xs_ending hE hX hM hj (nm_r (nI_add _ _) (nm_r (nI_1 j) (ih _ rfl))))
theorem ys_races9 (hP : rr_Pg sz ks os S) (hE : rr_Ev n T od) (hD : rr_Ye n od dn) (hM : ∀ i, i < 8 → ∀ j, j < 8 → rl (8 * i + j) = rr_b (decide (j < n) && P i j)) {post : Int32 → SY → Prop} (h : post (nI (rr_ct (rr_rc ks os T od P) n)) (nI n, fy, dy, ks, os, sz, bg, va, rg, ho, pl, dn, ol, rl, sm, kp, tr, fd)) : ∃ N, wY_races_9 post (nI n) fy dy ks os sz bg va rg ho pl dn ol rl sm kp tr fd N 0 0 := by
  have n8 := hE.1
  exact rr_dbl (n := n) (f := rr_rc ks os T od P) (K := fun x => post x (nI n, fy, dy, ks, os, sz, bg, va, rg, ho, pl, dn, ol, rl, sm, kp, tr, fd)) (fun N x j => wY_races_9 post (nI n) fy dy ks os sz bg va rg ho pl dn ol rl sm kp tr fd N x j) (fun J j M x i => wY_races_19 post J (nI j) (nI n) fy dy ks os sz bg va rg ho pl dn ol rl sm kp tr fd M x i) (fun N x hp => br_t (nI_le (Nat.le_refl n) (by omega)) hp) (fun N j x hj hv => br_f (nI_ge hj (by omega)) hv) (fun J j M x hj hJ => br_t (nI_le (Nat.le_refl j) (by omega)) (nm_r (nI_1 j) hJ)) (fun J j M i x hil hj h1 h2 => br_f (nI_ge hil (by omega)) (ys_isRace hP hE hD hM (by omega) hj (rr_bd (fun z => nm_r (nI_1 i) (h2 z)) (fun z => nm_e (nm_r (nI_1 i) (h1 z)))))) h
theorem xs_first (hE : rr_Ev n T od) (hX : rr_Xe n ks os T od et ek eo) (hM : ∀ j, j < n → ∀ b, b < 32 → bt (kb j) b = P b j) {post : Int32 → Prop} (h : post (rr_fst (rr_rc ks os T od P) n 0)) : wpX_firstRace post (nI n, fx, sz, ks, os, hi, et, ek, eo, mb, kb, oc, pa, nt, fo) := by
  have n8 := hE.1
  have key : ∀ d j, j + d = n → post (rr_fst (rr_rc ks os T od P) d j) → wX_firstRace_2 post (nI n) fx sz ks os hi et ek eo mb kb oc pa nt fo (d + 1) (nI j) := by
    intro d
    induction d with
    | zero =>
      intro j hj hp
      obtain rfl : j = n := by omega
      exact br_t (nI_le (Nat.le_refl _) (by omega)) hp
    | succ d ih =>
      intro j hj hp
      have hle := rr_cs_le (fun i => rr_rc ks os T od P i j) j
      have e : rr_fst (rr_rc ks os T od P) (d + 1) j = if rr_cs (fun i => rr_rc ks os T od P i j) j = 0 then rr_fst (rr_rc ks os T od P) d (j + 1) else nI j := rfl
      rw [e] at hp
      refine br_f (nI_ge (by omega) (by omega)) (xs_ending hE hX hM (by omega) ?_)
      rcases Nat.decEq (rr_cs (fun i => rr_rc ks os T od P i j) j) 0 with z | z
      · rw [if_neg z] at hp
        exact br_f (nI_nle (by omega) (by omega)) hp
      · rw [if_pos z] at hp
        rw [z]
        exact br_t (show nI 0 ≤ 0 by decide) (nm_r (nI_1 j) (ih (j + 1) (by omega) hp))
  exact ⟨n + 1, key n 0 (by omega) h⟩
theorem ys_first7 (hP : rr_Pg sz ks os S) (hE : rr_Ev n T od) (hD : rr_Ye n od dn) (hM : ∀ i, i < 8 → ∀ j, j < 8 → rl (8 * i + j) = rr_b (decide (j < n) && P i j)) {post : Int32 → SY → Prop} (h : post (rr_fst (rr_rc ks os T od P) n 0) (nI n, fy, dy, ks, os, sz, bg, va, rg, ho, pl, dn, ol, rl, sm, kp, tr, fd)) : ∃ N, wY_firstRace_7 post (nI n) fy dy ks os sz bg va rg ho pl dn ol rl sm kp tr fd N 0 := by
  have n8 := hE.1
  have key : ∀ d j, j + d = n → post (rr_fst (rr_rc ks os T od P) d j) (nI n, fy, dy, ks, os, sz, bg, va, rg, ho, pl, dn, ol, rl, sm, kp, tr, fd) → wY_firstRace_7 post (nI n) fy dy ks os sz bg va rg ho pl dn ol rl sm kp tr fd (d + 1) (nI j) := by
    intro d
    induction d with
    | zero =>
      intro j hj hp
      obtain rfl : j = n := by omega
      exact br_t (nI_le (Nat.le_refl _) (by omega)) hp
    | succ d ih =>
      intro j hj hp
      have e : rr_fst (rr_rc ks os T od P) (d + 1) j = if rr_cs (fun i => rr_rc ks os T od P i j) j = 0 then rr_fst (rr_rc ks os T od P) d (j + 1) else nI j := rfl
      rw [e] at hp
      have inner : ∀ c i, i + c = j → (∀ a, a < i → rr_rc ks os T od P a j = false) → wY_firstRace_17 post (wY_firstRace_7 post (nI n) fy dy ks os sz bg va rg ho pl dn ol rl sm kp tr fd (d + 1)) (nI j) (nI n) fy dy ks os sz bg va rg ho pl dn ol rl sm kp tr fd (c + 1) (nI i) := by
        intro c
        induction c with
        | zero =>
          intro i hi' hno
          obtain rfl : i = j := by omega
          rw [if_pos ((rr_cs0 i).mpr hno)] at hp
          exact br_t (nI_le (Nat.le_refl _) (by omega)) (nm_r (nI_1 i) (ih (i + 1) (by omega) hp))
        | succ c ihc =>
          intro i hi' hno
          refine br_f (nI_ge (by omega) (by omega)) (ys_isRace hP hE hD hM (by omega) (by omega) (rr_bd (fun z => nm_r (nI_1 i) (ihc (i + 1) (by omega) (fun a ha => ?_))) (fun z => ?_)))
          · rcases Nat.decEq a i with y | y
            · exact hno a (by omega)
            · rw [y]; exact z
          · rw [if_neg (fun y => by rw [(rr_cs0 j).mp y i (by omega)] at z; cases z)] at hp
            exact hp
      exact br_f (nI_ge (by omega) (by omega)) ⟨j + 1, inner j 0 (by omega) (fun a ha => by omega)⟩
  exact ⟨n + 1, key n 0 (by omega) h⟩
end
theorem i_vc_races {k : Nat} {u : SX} {v : SY} (I : i_Rel k u v) (hk : k + 4 ≤ 2048) : wpX_races (fun r => wpY_races (fun r' v' => r' = r ∧ i_Rel (k + 4) u v') v) u := by
  obtain ⟨S, T, n, B, fx, fy, dy, sz, ks, os, hi, et, ek, eo, mb, kb, oc, pa, nt, fo, bg, va, rg, ho, pl, dn, ol, rl, sm, kp, tr, fd, rfl, rfl, hG, hX, hY⟩ := I
  refine xs_races (P := rr_P (rr_E true ks os T (rr_od ks os B T)) 8) (rr_Ev_of hG) hX.2.1 hX.2.2.2 ?_
  unfold wpY_races
  exact ys_close true hG.1 (rr_Ev_of hG) (rr_Ye_of hY) (fun a ha => ys_races9 (P := rr_P (rr_E true ks os T (rr_od ks os B T)) 8) hG.1 (rr_Ev_of hG) (rr_Ye_of hY) ha ⟨rfl, rr_mk hG hX hY⟩)
theorem i_vc_firstRace {k : Nat} {u : SX} {v : SY} (I : i_Rel k u v) (hk : k + 4 ≤ 2048) : wpX_firstRace (fun r => wpY_firstRace (fun r' v' => r' = r ∧ i_Rel (k + 4) u v') v) u := by
  obtain ⟨S, T, n, B, fx, fy, dy, sz, ks, os, hi, et, ek, eo, mb, kb, oc, pa, nt, fo, bg, va, rg, ho, pl, dn, ol, rl, sm, kp, tr, fd, rfl, rfl, hG, hX, hY⟩ := I
  refine xs_first (P := rr_P (rr_E true ks os T (rr_od ks os B T)) 8) (rr_Ev_of hG) hX.2.1 hX.2.2.2 ?_
  unfold wpY_firstRace
  exact ys_close true hG.1 (rr_Ev_of hG) (rr_Ye_of hY) (fun a ha => ys_first7 (P := rr_P (rr_E true ks os T (rr_od ks os B T)) 8) hG.1 (rr_Ev_of hG) (rr_Ye_of hY) ha ⟨rfl, rr_mk hG hX hY⟩)
end
section
def rr_h2 (a b : Bool) : Int32 := (if a then 1 else 0) ||| (if b then 2 else 0)
def rr_hd (r : Nat → Int32) (t : Nat) : Int32 := rr_h2 (decide (r 8 = nI t)) (decide (r 9 = nI t))
theorem rr_h2x (a b : Bool) : (if b then (if a then (0 : Int32) ||| ((1 : Int32) <<< (nI 0 &&& 31)) else 0) ||| ((1 : Int32) <<< (nI 1 &&& 31)) else (if a then (0 : Int32) ||| ((1 : Int32) <<< (nI 0 &&& 31)) else 0)) = rr_h2 a b := by
  cases a <;> cases b <;> decide
def rr_set (m : Nat) (c a b : Bool) : Int32 := if m = 0 then rr_h2 c b else rr_h2 a c
theorem rr_h2or : ∀ m, m < 2 → ∀ a b : Bool, rr_h2 a b ||| ((1 : Int32) <<< (nI m &&& 31)) = rr_set m true a b := by decide +kernel
theorem rr_h2an : ∀ m, m < 2 → ∀ a b : Bool, rr_h2 a b &&& (((1 : Int32) <<< (nI m &&& 31)) ^^^ (-1)) = rr_set m false a b := by decide +kernel
theorem rr_h2ne : ∀ a b : Bool, rr_h2 a b = 0 ↔ (a || b) = false := by decide +kernel
theorem rr_h23 : ∀ a b : Bool, rr_h2 a b = 3 ↔ (a && b) = true := by decide +kernel
section
variable {sz ks os B : Nat → Int32} {S T : Nat → Nat} {n : Nat}
/-- what event k does to the set of the locks that thread t holds -/
theorem rr_hd_step (hG : rr_Go sz ks os S B T n) {k t : Nat} (hk : k < n) (ht : t < 3) :
    (T k = t → ¬ ks (rr_od ks os B T k) ≤ 2 → ∃ m, m < 2 ∧ os (rr_od ks os B T k) = nI m ∧ (ks (rr_od ks os B T k) = 3 → rr_hd (rr_run ks os B T k) t ||| ((1 : Int32) <<< (nI m &&& 31)) = rr_hd (rr_run ks os B T (k + 1)) t) ∧ (¬ ks (rr_od ks os B T k) = 3 → rr_hd (rr_run ks os B T k) t &&& (((1 : Int32) <<< (nI m &&& 31)) ^^^ (-1)) = rr_hd (rr_run ks os B T (k + 1)) t)) ∧
    ((¬ T k = t ∨ ks (rr_od ks os B T k) ≤ 2) → rr_hd (rr_run ks os B T (k + 1)) t = rr_hd (rr_run ks os B T k) t) := by
  obtain ⟨hs, hen⟩ := hG.2.2 k hk
  have hR := (rr_Go_Rk hG k (by omega)).1
  have hl := rr_en_lt hen
  have st0 : rr_run ks os B T (k + 1) 8 = _ := rr_st_hold hG.1 hR hs hl (m := 0) (by omega)
  have st1 : rr_run ks os B T (k + 1) 9 = _ := rr_st_hold hG.1 hR hs hl (m := 1) (by omega)
  have ho : rr_od ks os B T k = rr_op (T k) (rr_run ks os B T k) := rfl
  rw [ho]
  have r0 : rr_run ks os B T k (8 + 0) = rr_run ks os B T k 8 := rfl
  have r1 : rr_run ks os B T k (8 + 1) = rr_run ks os B T k 9 := rfl
  rw [r0] at st0
  rw [r1] at st1
  have e3 := rr_en_3 hen
  have e4 := rr_en_4 hen
  have nt : ∀ s, s < 3 → nI s ≠ -1000000004 := rr_none_ne
  have tt : nI (T k) = nI t ↔ T k = t := rr_nIT hs ht
  have dnn : decide ((-1000000004 : Int32) = nI t) = false := decide_eq_false (fun y => nt t ht y.symm)
  have quiet : ks (rr_op (T k) (rr_run ks os B T k)) ≤ 2 → ¬ ks (rr_op (T k) (rr_run ks os B T k)) = 3 ∧ ¬ ks (rr_op (T k) (rr_run ks os B T k)) = 4 := by
    intro z
    exact ⟨fun y => by rw [y] at z; exact absurd z (by decide), fun y => by rw [y] at z; exact absurd z (by decide)⟩
  rcases rr_views hG.1 hR hs hl with ⟨h, hx, ex⟩ | ⟨h, hx, ex⟩ | h | ⟨h, hx, ex⟩ | ⟨h, hx, ex⟩
  · have q := quiet (by rw [h]; decide)
    rw [if_neg (fun z => q.1 z.1), if_neg (fun z => q.2 z.1)] at st0 st1
    refine ⟨fun _ z => absurd (by rw [h]; decide) z, fun _ => ?_⟩
    unfold rr_hd; rw [st0, st1]
  · have q := quiet (by rw [h]; decide)
    rw [if_neg (fun z => q.1 z.1), if_neg (fun z => q.2 z.1)] at st0 st1
    refine ⟨fun _ z => absurd (by rw [h]; decide) z, fun _ => ?_⟩
    unfold rr_hd; rw [st0, st1]
  · have q := quiet (by rw [h]; decide)
    rw [if_neg (fun z => q.1 z.1), if_neg (fun z => q.2 z.1)] at st0 st1
    refine ⟨fun _ z => absurd (by rw [h]; decide) z, fun _ => ?_⟩
    unfold rr_hd; rw [st0, st1]
  · have h4 : ¬ ks (rr_op (T k) (rr_run ks os B T k)) = 4 := by rw [h]; decide
    rw [if_neg (c := ks (rr_op (T k) (rr_run ks os B T k)) = 4 ∧ _) (fun z => h4 z.1)] at st0 st1
    have e3 := e3 h
    refine ⟨fun z _ => ⟨_, hx, ex, fun _ => ?_, fun y => absurd h y⟩, fun z => ?_⟩
    · unfold rr_hd
      rw [rr_h2or _ hx, st0, st1]
      unfold rr_set
      rcases (show rr_ox os (T k) (rr_run ks os B T k) = 0 ∨ rr_ox os (T k) (rr_run ks os B T k) = 1 by omega) with w | w
      · rw [w, if_pos rfl, if_pos ⟨h, rfl⟩, if_neg (fun y => absurd y.2 (by decide)), decide_eq_true (tt.mpr z)]
      · rw [w, if_neg (by decide), if_neg (fun y => absurd y.2 (by decide)), if_pos ⟨h, rfl⟩, decide_eq_true (tt.mpr z)]
    · have z : ¬ T k = t := by
        rcases z with z | z
        · exact z
        · rw [h] at z; exact absurd z (by decide)
      unfold rr_hd
      rw [st0, st1]
      rcases (show rr_ox os (T k) (rr_run ks os B T k) = 0 ∨ rr_ox os (T k) (rr_run ks os B T k) = 1 by omega) with w | w
      · rw [w] at e3 ⊢
        have e3' : rr_run ks os B T k 8 = -1000000004 := e3
        rw [if_pos ⟨h, rfl⟩, if_neg (fun y => absurd y.2 (by decide)), e3', show decide (nI (T k) = nI t) = false from decide_eq_false (fun y => z (tt.mp y)), dnn]
      · rw [w] at e3 ⊢
        have e3' : rr_run ks os B T k 9 = -1000000004 := e3
        rw [if_neg (fun y => absurd y.2 (by decide)), if_pos ⟨h, rfl⟩, e3', show decide (nI (T k) = nI t) = false from decide_eq_false (fun y => z (tt.mp y)), dnn]
  · have h3 : ¬ ks (rr_op (T k) (rr_run ks os B T k)) = 3 := by rw [h]; decide
    rw [if_neg (c := ks (rr_op (T k) (rr_run ks os B T k)) = 3 ∧ _) (fun z => h3 z.1)] at st0 st1
    have e4 := e4 h
    refine ⟨fun z _ => ⟨_, hx, ex, fun y => absurd y h3, fun _ => ?_⟩, fun z => ?_⟩
    · unfold rr_hd
      rw [rr_h2an _ hx, st0, st1]
      unfold rr_set
      rcases (show rr_ox os (T k) (rr_run ks os B T k) = 0 ∨ rr_ox os (T k) (rr_run ks os B T k) = 1 by omega) with w | w
      · rw [w, if_pos rfl, if_pos ⟨h, rfl⟩, if_neg (fun y => absurd y.2 (by decide)), dnn]
      · rw [w, if_neg (by decide), if_neg (fun y => absurd y.2 (by decide)), if_pos ⟨h, rfl⟩, dnn]
    · have z : ¬ T k = t := by
        rcases z with z | z
        · exact z
        · rw [h] at z; exact absurd z (by decide)
      unfold rr_hd
      rw [st0, st1]
      rcases (show rr_ox os (T k) (rr_run ks os B T k) = 0 ∨ rr_ox os (T k) (rr_run ks os B T k) = 1 by omega) with w | w
      · rw [w] at e4 ⊢
        have e4' : rr_run ks os B T k 8 = nI (T k) := e4
        rw [if_pos ⟨h, rfl⟩, if_neg (fun y => absurd y.2 (by decide)), e4', show decide (nI (T k) = nI t) = false from decide_eq_false (fun y => z (tt.mp y)), dnn]
      · rw [w] at e4 ⊢
        have e4' : rr_run ks os B T k 9 = nI (T k) := e4
        rw [if_neg (fun y => absurd y.2 (by decide)), if_pos ⟨h, rfl⟩, e4', show decide (nI (T k) = nI t) = false from decide_eq_false (fun y => z (tt.mp y)), dnn]
end
section
variable {ec fx cn fy dy : Int32} {sz ks os hi et ek eo mb kb oc pa nt fo bg va rg ho pl dn ol rl sm kp tr fd : Nat → Int32}
variable {S T : Nat → Nat} {n : Nat} {B : Nat → Int32}
theorem xs_held (hG : rr_Go sz ks os S B T n) (hX : rr_Rx n T B ks os hi et ek eo mb kb) {i : Nat} (hil : i < n) {post : Int32 → Prop} (h : post (rr_hd (rr_run ks os B T i) (T i))) : wpX_locksHeldAt post (nI n, fx, sz, ks, os, hi, et, ek, eo, mb, kb, oc, pa, nt, fo) (nI i) := by
  have n8 := rr_Go_8 hG (Nat.le_refl n)
  have vi : vp_in (nI i) 8 := pk_in i 8 (by omega) rfl
  have ci : (nI i).toNatClampNeg = i := nI_clamp (by omega)
  have one : ∀ m, m < 2 → ∀ N x, wX_locksHeldAt_4 post (nI i) (nI n) fx sz ks os hi et ek eo mb kb oc pa nt fo N (if decide (rr_run ks os B T i (8 + m) = nI (T i)) then x ||| ((1 : Int32) <<< (nI m &&& 31)) else x) (nI (m + 1)) → wX_locksHeldAt_4 post (nI i) (nI n) fx sz ks os hi et ek eo mb kb oc pa nt fo (N + 1) x (nI m) := by
    intro m hm N x hw
    have e1 := rr_ix8 i m
    refine br_f (nI_ge (b := 2) hm (by decide)) ⟨pk_in _ _ (by omega) e1, vi, ?_⟩
    rw [e1, ci, nI_clamp (by omega), hX.1 i (by omega) (8 + m) (by omega), (hX.2.1 i hil).1]
    by_cases z : rr_run ks os B T i (8 + m) = nI (T i)
    · rw [decide_eq_true z] at hw; exact br_t z (nm_e (nm_r (nI_1 m) hw))
    · rw [decide_eq_false z] at hw; exact br_f z (nm_r (nI_1 m) hw)
  unfold rr_hd at h
  rw [← rr_h2x] at h
  exact ⟨3, one 0 (by omega) 2 0 (one 1 (by omega) 1 _ (br_t (by decide) h))⟩
theorem ys_held (hG : rr_Go sz ks os S B T n) (hY : rr_Ry n T B ks os bg va rg ho pl dn ol) {i : Nat} (hil : i < n) {post : Int32 → Prop} (h : post (rr_hd (rr_run ks os B T i) (T i))) : wpY_heldAt post (nI n, fy, dy, ks, os, sz, bg, va, rg, ho, pl, dn, ol, rl, sm, kp, tr, fd) (nI i) := by
  have n8 := rr_Go_8 hG (Nat.le_refl n)
  have hE := rr_Ev_of hG
  have hD := rr_Ye_of hY
  have vi : vp_in (nI i) 8 := pk_in i 8 (by omega) rfl
  have ht := (hE.2 i hil).1
  obtain ⟨b1, b2, b3⟩ := ys_div hE hD hil
  refine loop_0 (fun N k (x : Int32) => wY_heldAt_4 post (nI i) (nI n) fy dy ks os sz bg va rg ho pl dn ol rl sm kp tr fd N x (nI k)) (fun k x => x = rr_hd (rr_run ks os B T k) (T i)) i 0 ?_ ?_ ?_
  · show (0 : Int32) = rr_hd B (T i)
    have a0 : B 8 = -1000000004 := hG.2.1.2 0 (by omega)
    have a1 : B 9 = -1000000004 := hG.2.1.2 1 (by omega)
    unfold rr_hd
    rw [a0, a1, decide_eq_false (fun y => rr_none_ne (T i) ht y.symm)]; rfl
  · intro N x hx; subst hx; exact br_t (nI_le (Nat.le_refl i) (by omega)) h
  · intro N k x hkl hx ih
    subst hx
    have vk : vp_in (nI k) 8 := pk_in k 8 (by omega) rfl
    obtain ⟨a1, a2, a3⟩ := ys_div hE hD (show k < n by omega)
    obtain ⟨s1, s2⟩ := rr_hd_step hG (show k < n by omega) ht
    have hT := rr_nIT (hE.2 k (by omega)).1 ht
    refine br_f (nI_ge hkl (by omega)) ⟨vk, by decide, vi, by decide, ?_⟩
    rw [a1, b1]
    by_cases t : T k = T i
    · refine br_t (hT.mpr t) (ys_lock hE hD (by omega) (rr_bd (fun z => nm_r (nI_1 k) (ih _ (s2 (Or.inr (by simpa using z))).symm)) (fun z => ?_)))
      have z' : ¬ ks (rr_od ks os B T k) ≤ 2 := of_decide_eq_true z
      obtain ⟨m, hm, em, f1, f2⟩ := s1 t z'
      refine ⟨vk, a2, nm_r (show _ = (1 : Int32) <<< (nI m &&& 31) by rw [a3, em]) ⟨vk, a2, ?_⟩⟩
      rw [a3]
      by_cases q : ks (rr_od ks os B T k) = 3
      · exact br_t q (nm_r (f1 q) (nm_r (nI_1 k) (ih _ rfl)))
      · exact br_f q (nm_r (f2 q) (nm_r (nI_1 k) (ih _ rfl)))
    · exact br_f (fun z => t (hT.mp z)) (nm_r (nI_1 k) (ih _ (s2 (Or.inl t)).symm))
end
def rr_gd (u : Nat → Bool) (g : Nat → Int32) : Nat → Int32
  | 0 => 3
  | m + 1 => if u m then rr_gd u g m &&& g m else rr_gd u g m
theorem rr_ac2 : ∀ a, a < 5 → (rr_ac (nI a) = true ↔ ¬ 2 ≤ nI a) := by decide +kernel
theorem i_vc_guard {k : Nat} {u : SX} {v : SY} (I : i_Rel k u v) (hk : k + 4 ≤ 2048) (v1 : Int32) : wpX_guard (fun r => wpY_guard (fun r' => r' = r ∧ i_Rel (k + 4) u v) v v1) u v1 := by
  obtain ⟨S, T, n, B, fx, fy, dy, sz, ks, os, hi, et, ek, eo, mb, kb, oc, pa, nt, fo, bg, va, rg, ho, pl, dn, ol, rl, sm, kp, tr, fd, rfl, rfl, hG, hX, hY⟩ := I
  unfold wpX_guard wpY_guard
  have same : i_Rel (k + 4) (nI n, fx, sz, ks, os, hi, et, ek, eo, mb, kb, oc, pa, nt, fo) (nI n, fy, dy, ks, os, sz, bg, va, rg, ho, pl, dn, ol, rl, sm, kp, tr, fd) := rr_mk hG hX hY
  have n8 := rr_Go_8 hG (Nat.le_refl n)
  have hE := rr_Ev_of hG
  have hD := rr_Ye_of hY
  rcases rr_arg2 v1 with h | ⟨t, ht, rfl⟩
  · exact xs_var_f h (br_t rfl (ys_in_f (b := 1) (by omega) h (br_t rfl ⟨rfl, same⟩)))
  · refine xs_var_t ht (br_f (by decide) ?_)
    let us : Nat → Bool := fun i => rr_ac (ks (rr_od ks os B T i)) && decide (os (rr_od ks os B T i) = nI t)
    let g : Nat → Int32 := fun i => rr_hd (rr_run ks os B T i) (T i)
    have gt : ∀ m, us m = true → rr_gd us g (m + 1) = rr_gd us g m &&& g m := fun m z => if_pos z
    have gf : ∀ m, us m = false → rr_gd us g (m + 1) = rr_gd us g m := fun m z => if_neg (by rw [z]; decide)
    have yy : ∃ N, wY_guard_16 (fun r' => r' = rr_gd us g n ∧ i_Rel (k + 4) (nI n, fx, sz, ks, os, hi, et, ek, eo, mb, kb, oc, pa, nt, fo) (nI n, fy, dy, ks, os, sz, bg, va, rg, ho, pl, dn, ol, rl, sm, kp, tr, fd)) (nI t) (nI n) fy dy ks os sz bg va rg ho pl dn ol rl sm kp tr fd N 3 0 := by
      refine loop_0 (fun N i (x : Int32) => wY_guard_16 (fun r' => r' = rr_gd us g n ∧ i_Rel (k + 4) (nI n, fx, sz, ks, os, hi, et, ek, eo, mb, kb, oc, pa, nt, fo) (nI n, fy, dy, ks, os, sz, bg, va, rg, ho, pl, dn, ol, rl, sm, kp, tr, fd)) (nI t) (nI n) fy dy ks os sz bg va rg ho pl dn ol rl sm kp tr fd N x (nI i)) (fun i x => x = rr_gd us g i) n 3 rfl ?_ ?_
      · intro N x hx; subst hx; exact br_t (nI_le (Nat.le_refl n) (by omega)) ⟨rfl, same⟩
      · intro N i x hil hx ih
        subst hx
        have vi : vp_in (nI i) 8 := pk_in i 8 (by omega) rfl
        obtain ⟨a1, a2, a3⟩ := ys_div hE hD hil
        obtain ⟨k1, hk1, e1, _⟩ := hG.1.2.2 (rr_od ks os B T i) (hE.2 i hil).2.1
        have q := rr_ac2 k1 (by omega)
        rw [← e1] at q
        have no : us i = false → wY_guard_58 (fun r' => r' = rr_gd us g n ∧ i_Rel (k + 4) (nI n, fx, sz, ks, os, hi, et, ek, eo, mb, kb, oc, pa, nt, fo) (nI n, fy, dy, ks, os, sz, bg, va, rg, ho, pl, dn, ol, rl, sm, kp, tr, fd)) (wY_guard_16 (fun r' => r' = rr_gd us g n ∧ i_Rel (k + 4) (nI n, fx, sz, ks, os, hi, et, ek, eo, mb, kb, oc, pa, nt, fo) (nI n, fy, dy, ks, os, sz, bg, va, rg, ho, pl, dn, ol, rl, sm, kp, tr, fd)) (nI t) (nI n) fy dy ks os sz bg va rg ho pl dn ol rl sm kp tr fd N) (nI t) (rr_gd us g i) (nI i) (nI n) fy dy ks os sz bg va rg ho pl dn ol rl sm kp tr fd := fun z => br_t rfl (nm_r (nI_1 i) (ih _ (gf i z).symm))
        refine br_f (nI_ge hil (by omega)) ⟨vi, a2, ?_⟩
        rw [a3]
        by_cases z : 2 ≤ ks (rr_od ks os B T i)
        · refine br_t z (no ?_)
          show (rr_ac (ks (rr_od ks os B T i)) && decide (os (rr_od ks os B T i) = nI t)) = false
          rcases y : rr_ac (ks (rr_od ks os B T i)) with _ | _
          · rfl
          · exact absurd z (q.mp y)
        · refine br_f z ⟨vi, a2, ?_⟩
          by_cases y : os (rr_od ks os B T i) = nI t
          · have hu : us i = true := by
              show (rr_ac (ks (rr_od ks os B T i)) && decide (os (rr_od ks os B T i) = nI t)) = true
              rw [q.mpr z, decide_eq_true y]; rfl
            refine br_t y (br_f (by decide) (ys_held hG hY hil (nm_e (nm_r (nI_1 i) (ih _ (gt i hu).symm)))))
          · refine br_f y (no ?_)
            show (rr_ac (ks (rr_od ks os B T i)) && decide (os (rr_od ks os B T i) = nI t)) = false
            rw [decide_eq_false y, Bool.and_false]
    refine loop_0 (fun N i (x : Int32) => wX_guard_14 _ (nI t) (nI n) fx sz ks os hi et ek eo mb kb oc pa nt fo N x (nI i)) (fun i x => x = rr_gd us g i) n 3 rfl ?_ ?_
    · intro N x hx; subst hx
      exact br_t (nI_le (Nat.le_refl n) (by omega)) (ys_in_t (b := 1) (by omega) (by omega) (br_f (by decide) yy))
    · intro N i x hil hx ih
      subst hx
      have vi : vp_in (nI i) 8 := pk_in i 8 (by omega) rfl
      have ci : (nI i).toNatClampNeg = i := nI_clamp (by omega)
      refine br_f (nI_ge hil (by omega)) ⟨vi, ?_⟩
      rw [ci, (hX.2.1 i hil).2.1, (hX.2.1 i hil).2.2]
      refine xs_acc (rr_bd (fun z => nm_r (nI_1 i) (ih _ (gf i ?_).symm)) (fun z => ⟨vi, ?_⟩))
      · show (rr_ac (ks (rr_od ks os B T i)) && decide (os (rr_od ks os B T i) = nI t)) = false
        rw [z]; rfl
      · by_cases y : os (rr_od ks os B T i) = nI t
        · have hu : us i = true := by
            show (rr_ac (ks (rr_od ks os B T i)) && decide (os (rr_od ks os B T i) = nI t)) = true
            rw [z, decide_eq_true y]; rfl
          exact br_t y (xs_held hG hX hil (nm_e (nm_r (nI_1 i) (ih _ (gt i hu).symm))))
        · refine br_f y (nm_r (nI_1 i) (ih _ (gf i ?_).symm))
          show (rr_ac (ks (rr_od ks os B T i)) && decide (os (rr_od ks os B T i) = nI t)) = false
          rw [decide_eq_false y, Bool.and_false]
end
section
def rr_an (g : Nat → Bool) : Nat → Bool
  | 0 => false
  | m + 1 => rr_an g m || g m
def rr_cx (ks os B : Nat → Int32) (T : Nat → Nat) (m i : Nat) : Bool := decide (ks (rr_od ks os B T i) = 3) && (decide (os (rr_od ks os B T i) = nI m) && !(decide (rr_hd (rr_run ks os B T i) (T i) = 0)))
theorem rr_an_t {g : Nat → Bool} : ∀ n i, i < n → g i = true → rr_an g n = true := by
  intro n
  induction n with
  | zero => intro i hil; omega
  | succ n ih =>
    intro i hil h
    show (rr_an g n || g n) = true
    rcases Nat.decEq i n with z | z
    · rw [ih i (by omega) h]; rfl
    · rw [z] at h; rw [h]; simp
theorem rr_sete : ∀ m, m < 2 → ∀ a b : Bool, rr_set m true a b = rr_h2 (a || decide (m = 0)) (b || decide (m = 1)) := by decide +kernel
theorem rr_m01 : ∀ m, m < 2 → (nI m = nI 0 ↔ m = 0) ∧ (nI m = nI 1 ↔ m = 1) := by decide +kernel
section
variable {ec fx cn fy dy : Int32} {sz ks os hi et ek eo mb kb oc pa nt fo bg va rg ho pl dn ol rl sm kp tr fd : Nat → Int32}
variable {S T : Nat → Nat} {n : Nat} {B : Nat → Int32}
theorem xs_under (hG : rr_Go sz ks os S B T n) (hX : rr_Rx n T B ks os hi et ek eo mb kb) {m : Nat} {post : Int32 → Prop} (h : post (rr_b (rr_an (rr_cx ks os B T m) n))) : wpX_lockedUnderTheOther post (nI n, fx, sz, ks, os, hi, et, ek, eo, mb, kb, oc, pa, nt, fo) (nI m) := by
  have n8 := rr_Go_8 hG (Nat.le_refl n)
  have key : ∀ d i, i + d = n → rr_an (rr_cx ks os B T m) i = false → wX_lockedUnderTheOther_2 post (nI m) (nI n) fx sz ks os hi et ek eo mb kb oc pa nt fo (d + 1) (nI i) := by
    intro d
    induction d with
    | zero =>
      intro i hi' hno
      obtain rfl : i = n := by omega
      rw [hno] at h
      exact br_t (nI_le (Nat.le_refl _) (by omega)) h
    | succ d ih =>
      intro i hi' hno
      have vi : vp_in (nI i) 8 := pk_in i 8 (by omega) rfl
      have ci : (nI i).toNatClampNeg = i := nI_clamp (by omega)
      have no : rr_cx ks os B T m i = false → wX_lockedUnderTheOther_2 post (nI m) (nI n) fx sz ks os hi et ek eo mb kb oc pa nt fo (d + 1) (nI (i + 1)) := fun z => ih (i + 1) (by omega) (by show (rr_an _ i || _) = false; rw [hno, z]; rfl)
      have hc : rr_cx ks os B T m i = (decide (ks (rr_od ks os B T i) = 3) && (decide (os (rr_od ks os B T i) = nI m) && !(decide (rr_hd (rr_run ks os B T i) (T i) = 0)))) := rfl
      rw [hc] at no
      refine br_f (nI_ge (by omega) (by omega)) ⟨vi, ?_⟩
      rw [ci, (hX.2.1 i (by omega)).2.1, (hX.2.1 i (by omega)).2.2]
      by_cases a : ks (rr_od ks os B T i) = 3
      · refine br_t a ⟨vi, ?_⟩
        by_cases b : os (rr_od ks os B T i) = nI m
        · refine br_t b (xs_held hG hX (by omega) (br_c (fun z => nm_r (nI_1 i) (no (by rw [decide_eq_true z]; simp))) (fun z => ?_)))
          rw [rr_an_t n i (by omega) (by rw [hc, decide_eq_true a, decide_eq_true b, decide_eq_false z]; rfl)] at h
          exact h
        · exact br_f b (nm_r (nI_1 i) (no (by rw [decide_eq_false b]; simp)))
      · exact br_f a (nm_r (nI_1 i) (no (by rw [decide_eq_false a]; rfl)))
  exact ⟨n + 1, key n 0 (by omega) rfl⟩
theorem ys_crossed (hG : rr_Go sz ks os S B T n) (hY : rr_Ry n T B ks os bg va rg ho pl dn ol) {post : Int32 → Prop} (h : post (rr_b (rr_an (rr_cx ks os B T 0) n && rr_an (rr_cx ks os B T 1) n))) : wpY_crossed post (nI n, fy, dy, ks, os, sz, bg, va, rg, ho, pl, dn, ol, rl, sm, kp, tr, fd) := by
  have n8 := rr_Go_8 hG (Nat.le_refl n)
  have hE := rr_Ev_of hG
  have hD := rr_Ye_of hY
  refine loop_0 (fun N i (x : Int32) => wY_crossed_4 post (nI n) fy dy ks os sz bg va rg ho pl dn ol rl sm kp tr fd N x (nI i)) (fun i x => x = rr_h2 (rr_an (rr_cx ks os B T 0) i) (rr_an (rr_cx ks os B T 1) i)) n 0 (show (0 : Int32) = rr_h2 false false by decide) ?_ ?_
  · intro N x hx
    subst hx
    refine br_t (nI_le (Nat.le_refl n) (by omega)) ?_
    have q := rr_h23 (rr_an (rr_cx ks os B T 0) n) (rr_an (rr_cx ks os B T 1) n)
    rcases z : (rr_an (rr_cx ks os B T 0) n && rr_an (rr_cx ks os B T 1) n) with _ | _
    · rw [z] at h q; exact br_f (fun y => absurd (q.mp y) (by decide)) h
    · rw [z] at h q; exact br_t (q.mpr rfl) h
  · intro N i x hil hx ih
    subst hx
    have vi : vp_in (nI i) 8 := pk_in i 8 (by omega) rfl
    obtain ⟨a1, a2, a3⟩ := ys_div hE hD hil
    have hc : ∀ m, rr_cx ks os B T m i = (decide (ks (rr_od ks os B T i) = 3) && (decide (os (rr_od ks os B T i) = nI m) && !(decide (rr_hd (rr_run ks os B T i) (T i) = 0)))) := fun _ => rfl
    have no : (rr_cx ks os B T 0 i = false ∧ rr_cx ks os B T 1 i = false) → wY_crossed_39 post (wY_crossed_4 post (nI n) fy dy ks os sz bg va rg ho pl dn ol rl sm kp tr fd N) (rr_h2 (rr_an (rr_cx ks os B T 0) i) (rr_an (rr_cx ks os B T 1) i)) (nI i) (nI n) fy dy ks os sz bg va rg ho pl dn ol rl sm kp tr fd := fun z => br_t rfl (nm_r (nI_1 i) (ih _ (by show _ = rr_h2 (rr_an _ i || _) (rr_an _ i || _); rw [z.1, z.2, Bool.or_false, Bool.or_false])))
    refine br_f (nI_ge hil (by omega)) ⟨vi, a2, ?_⟩
    rw [a3]
    by_cases a : ks (rr_od ks os B T i) = 3
    · refine br_t a (ys_held hG hY hil (br_c (fun z => no ?_) (fun z => ?_)))
      · rw [hc, hc, decide_eq_true z]; simp
      · obtain ⟨m, hm, em⟩ : ∃ m, m < 2 ∧ os (rr_od ks os B T i) = nI m := by
          rcases rr_kinds hG.1 (hE.2 i hil).2.1 with ⟨y, _⟩ | ⟨y, _⟩ | y | ⟨_, y⟩ | ⟨y, _⟩
          · rw [a] at y; exact absurd y (by decide)
          · rw [a] at y; exact absurd y (by decide)
          · rw [a] at y; exact absurd y (by decide)
          · exact y
          · rw [a] at y; exact absurd y (by decide)
        refine br_f (by decide) ⟨vi, a2, nm_r (show _ = rr_set m true (rr_an (rr_cx ks os B T 0) i) (rr_an (rr_cx ks os B T 1) i) by rw [a3, em, rr_h2or m hm]) (nm_r (nI_1 i) (ih _ ?_))⟩
        show _ = rr_h2 (rr_an _ i || _) (rr_an _ i || _)
        rw [rr_sete m hm, hc, hc, em, decide_eq_true a, decide_eq_false z]
        have q := rr_m01 m hm
        rcases (show m = 0 ∨ m = 1 by omega) with rfl | rfl
        · simp [q.2]
        · simp [q.1]
    · exact br_f a (no (by rw [hc, hc, decide_eq_false a]; exact ⟨rfl, rfl⟩))
end
theorem i_vc_crossed {k : Nat} {u : SX} {v : SY} (I : i_Rel k u v) (hk : k + 4 ≤ 2048) : wpX_crossed (fun r => wpY_crossed (fun r' => r' = r ∧ i_Rel (k + 4) u v) v) u := by
  obtain ⟨S, T, n, B, fx, fy, dy, sz, ks, os, hi, et, ek, eo, mb, kb, oc, pa, nt, fo, bg, va, rg, ho, pl, dn, ol, rl, sm, kp, tr, fd, rfl, rfl, hG, hX, hY⟩ := I
  unfold wpX_crossed
  have same : i_Rel (k + 4) (nI n, fx, sz, ks, os, hi, et, ek, eo, mb, kb, oc, pa, nt, fo) (nI n, fy, dy, ks, os, sz, bg, va, rg, ho, pl, dn, ol, rl, sm, kp, tr, fd) := rr_mk hG hX hY
  have fin : ∀ r : Int32, rr_b (rr_an (rr_cx ks os B T 0) n && rr_an (rr_cx ks os B T 1) n) = r → wpY_crossed (fun r' => r' = r ∧ i_Rel (k + 4) (nI n, fx, sz, ks, os, hi, et, ek, eo, mb, kb, oc, pa, nt, fo) (nI n, fy, dy, ks, os, sz, bg, va, rg, ho, pl, dn, ol, rl, sm, kp, tr, fd)) (nI n, fy, dy, ks, os, sz, bg, va, rg, ho, pl, dn, ol, rl, sm, kp, tr, fd) := fun r hr => ys_crossed hG hY ⟨hr, same⟩
  refine xs_under (m := 0) hG hX (rr_bd (fun z => fin 0 (by rw [z]; rfl)) (fun z => xs_under (m := 1) hG hX (rr_bd (fun y => fin 0 (by rw [y, Bool.and_false]; rfl)) (fun y => fin 1 (by rw [z, y]; rfl)))))
end
section
theorem rr_btN {x b : Nat} (hx : x < 2 ^ 32) (hb : b < 32) : bt (nI x) b = x.testBit b := by
  show (BitVec.ofNat 32 x).getLsbD b = _
  rw [BitVec.getLsbD_ofNat]; simp [hb]
def rr_clr (s j : Nat) : Nat := if s.testBit j then s - 2 ^ j else s
theorem rr_clr1 : ∀ s, s < 256 → ∀ j, j < 8 → nI s &&& (((1 : Int32) <<< (nI j &&& 31)) ^^^ (-1)) = nI (rr_clr s j) := by decide +kernel
theorem rr_clr2 : ∀ s, s < 256 → ∀ j, j < 8 → rr_clr s j ≤ s ∧ (s.testBit j = true → rr_clr s j < s) ∧ (s.testBit j = false → rr_clr s j = s) := by decide +kernel
theorem rr_clr3 {s j b : Nat} (hs : s < 256) (hj : j < 8) (hb : b < 8) : (rr_clr s j).testBit b = (s.testBit b && !(decide (b = j))) := by
  have h2 := (rr_clr2 s hs j hj).1
  rw [← rr_btN (x := rr_clr s j) (by omega) (by omega), ← rr_clr1 s hs j hj, b_and, b_xor, b_m1 b (by omega), rr_bshl (by omega) (by omega), rr_btN (by omega) (by omega)]
  simp
theorem rr_pw : ∀ n, n ≤ 8 → (1 : Int32) <<< (nI n &&& 31) = nI (2 ^ n) ∧ 2 ^ n ≤ 256 ∧ 1 ≤ 2 ^ n := by decide +kernel
theorem rr_bitS {s b : Nat} (hs : s < 256) (hb : b < 8) : (nI s >>> (nI b &&& 31)) &&& 1 = 1 ↔ s.testBit b = true := by
  rw [rr_bitb _ (by omega), rr_btN (by omega) (by omega)]
theorem rr_sub0 (x y : Int32) : x &&& (y ^^^ (-1)) = 0 ↔ ∀ b, b < 32 → bt x b = true → bt y b = true := by
  constructor
  · intro h b hb hx
    have e : bt (x &&& (y ^^^ (-1))) b = bt 0 b := congrArg (fun z => bt z b) h
    rw [b_and, b_xor, b_m1 b hb, b_0, hx] at e
    rcases z : bt y b with _ | _
    · rw [z] at e; cases e
    · rfl
  · intro h
    refine b_ext (fun b hb => ?_)
    rw [b_and, b_xor, b_m1 b hb, b_0]
    rcases z : bt x b with _ | _
    · rfl
    · rw [h b hb z]; rfl
def rr_lst (M : Nat → Nat → Bool) (n s m : Nat) : Bool := (List.range n).all (fun a => !(s.testBit a && M m a))
def rr_prd (M : Nat → Nat → Bool) (s m : Nat) : Bool := (List.range 8).all (fun b => !(M b m) || (rr_clr s m).testBit b)
theorem rr_lst_t {M : Nat → Nat → Bool} {n s m : Nat} : rr_lst M n s m = true ↔ ∀ a, a < n → s.testBit a = true → M m a = false := by
  unfold rr_lst; rw [List.all_eq_true]
  constructor
  · intro h a ha hs
    have := h a (List.mem_range.mpr ha)
    rw [hs] at this; simpa using this
  · intro h a ha
    have := h a (List.mem_range.mp ha)
    rcases z : s.testBit a with _ | _
    · rfl
    · rw [this z]; rfl
theorem rr_prd_t {M : Nat → Nat → Bool} {s m : Nat} : rr_prd M s m = true ↔ ∀ b, b < 8 → M b m = true → (rr_clr s m).testBit b = true := by
  unfold rr_prd; rw [List.all_eq_true]
  constructor
  · intro h b hb hm
    have := h b (List.mem_range.mpr hb)
    rw [hm] at this; simpa using this
  · intro h b hb
    have := h b (List.mem_range.mp hb)
    rcases z : M b m with _ | _
    · rfl
    · rw [this z]; rfl
def rr_sf (u : Nat → Bool) (c : Nat → Int32) (s : Nat) : Nat → Int32
  | 0 => 0
  | m + 1 => if s.testBit m && u m then rr_sf u c s m + c (rr_clr s m) else rr_sf u c s m
theorem rr_sf_t {u : Nat → Bool} {c : Nat → Int32} {s m : Nat} (h : s.testBit m = true) (h2 : u m = true) : rr_sf u c s (m + 1) = rr_sf u c s m + c (rr_clr s m) := if_pos (by rw [h, h2]; rfl)
theorem rr_sf_f {u : Nat → Bool} {c : Nat → Int32} {s m : Nat} (h : s.testBit m = false ∨ u m = false) : rr_sf u c s (m + 1) = rr_sf u c s m := if_neg (by
  rcases h with h | h
  · rw [h]; simp
  · rw [h]; simp)
theorem rr_sf_congr {u : Nat → Bool} {c c' : Nat → Int32} {s : Nat} (hs : s < 256) (h : ∀ a, a < s → c' a = c a) : ∀ m, m ≤ 8 → rr_sf u c' s m = rr_sf u c s m := by
  intro m
  induction m with
  | zero => intro _; rfl
  | succ m ih =>
    intro hm
    rcases z : s.testBit m with _ | _
    · rw [rr_sf_f (Or.inl z), rr_sf_f (Or.inl z), ih (by omega)]
    · rcases y : u m with _ | _
      · rw [rr_sf_f (Or.inr y), rr_sf_f (Or.inr y), ih (by omega)]
      · rw [rr_sf_t z y, rr_sf_t z y, ih (by omega), h _ ((rr_clr2 s hs m (by omega)).2.1 z)]
def rr_cl (M : Nat → Nat → Bool) (n s : Nat) : Prop := ∀ j, j < n → s.testBit j = true → ∀ b, M b j = true → s.testBit b = true
theorem rr_ord {M : Nat → Nat → Bool} {n : Nat} (n8 : n ≤ 8) (hlt : ∀ a b, M a b = true → a < b) {a c : Nat → Int32} (a0 : a 0 = 1) (c0 : c 0 = 1)
    (ha : ∀ s, 1 ≤ s → s < 2 ^ n → a s = rr_sf (rr_prd M s) a s n) (hc : ∀ s, 1 ≤ s → s < 2 ^ n → c s = rr_sf (rr_lst M n s) c s n) :
    ∀ s, s < 2 ^ n → (rr_cl M n s → a s = c s) ∧ (¬ rr_cl M n s → a s = 0) := by
  have p8 := (rr_pw n n8).2.1
  intro s
  induction s using Nat.strongRecOn with
  | _ s ih =>
  intro hs
  rcases Nat.eq_zero_or_pos s with z | z
  · subst z
    refine ⟨fun _ => by rw [a0, c0], fun h => absurd (fun j hj hb => ?_) h⟩
    rw [Nat.zero_testBit] at hb; cases hb
  · rw [ha s z hs, hc s z hs]
    have s256 : s < 256 := by omega
    constructor
    · intro hcl
      have key : ∀ m, m ≤ n → rr_sf (rr_prd M s) a s m = rr_sf (rr_lst M n s) c s m := by
        intro m
        induction m with
        | zero => intro _; rfl
        | succ m ihm =>
          intro hm
          have ihm := ihm (by omega)
          rcases y : s.testBit m with _ | _
          · rw [rr_sf_f (Or.inl y), rr_sf_f (Or.inl y), ihm]
          · have hp : rr_prd M s m = true := rr_prd_t.mpr (fun b hb hM => by
              rw [rr_clr3 s256 (by omega) hb, hcl m (by omega) y b hM, decide_eq_false (by have := hlt b m hM; omega)]; rfl)
            have hlt' := (rr_clr2 s s256 m (by omega)).2.1 y
            obtain ⟨i1, i2⟩ := ih (rr_clr s m) hlt' (by omega)
            rw [rr_sf_t y hp]
            rcases w : rr_lst M n s m with _ | _
            · have : ¬ rr_cl M n (rr_clr s m) := by
                intro q
                have : rr_lst M n s m = true := rr_lst_t.mpr (fun k hk hb => by
                  rcases e : M m k with _ | _
                  · rfl
                  · have hmk := hlt m k e
                    have h1 : (rr_clr s m).testBit k = true := by
                      rw [rr_clr3 s256 (by omega) (by omega), hb, decide_eq_false (by omega)]; rfl
                    have h2 := q k hk h1 m e
                    rw [rr_clr3 s256 (by omega) (by omega), decide_eq_true rfl] at h2
                    simp at h2)
                rw [this] at w; cases w
              rw [rr_sf_f (Or.inr w), i2 this, Int32.add_zero, ihm]
            · have : rr_cl M n (rr_clr s m) := by
                intro j hj hb b hM
                rw [rr_clr3 s256 (by omega) (by omega), Bool.and_eq_true] at hb
                have h1 := hcl j hj hb.1 b hM
                have hbj := hlt b j hM
                rw [rr_clr3 s256 (by omega) (by omega), h1]
                have : b ≠ m := by
                  intro e
                  subst e
                  have := rr_lst_t.mp w j hj hb.1
                  rw [this] at hM; cases hM
                rw [decide_eq_false this]; rfl
              rw [rr_sf_t y w, i1 this, ihm]
      exact key n (Nat.le_refl n)
    · intro hncl
      obtain ⟨j, hj, hb, b, hM, hnb⟩ : ∃ j, j < n ∧ s.testBit j = true ∧ ∃ b, M b j = true ∧ s.testBit b = false := by
        refine Classical.byContradiction (fun q => hncl (fun j hj hb b hM => ?_))
        rcases e : s.testBit b with _ | _
        · exact absurd ⟨j, hj, hb, b, hM, e⟩ q
        · rfl
      have hbj := hlt b j hM
      have key : ∀ m, m ≤ n → rr_sf (rr_prd M s) a s m = 0 := by
        intro m
        induction m with
        | zero => intro _; rfl
        | succ m ihm =>
          intro hm
          have ihm := ihm (by omega)
          rcases y : s.testBit m with _ | _
          · rw [rr_sf_f (Or.inl y), ihm]
          · rcases w : rr_prd M s m with _ | _
            · rw [rr_sf_f (Or.inr w), ihm]
            · have hlt' := (rr_clr2 s s256 m (by omega)).2.1 y
              have nb : (rr_clr s m).testBit b = false := by rw [rr_clr3 s256 (by omega) (by omega), hnb]; rfl
              have hmj : j ≠ m := by
                intro e
                subst e
                have := rr_prd_t.mp w b (by omega) hM
                rw [nb] at this; cases this
              have : ¬ rr_cl M n (rr_clr s m) := by
                intro q
                have h1 : (rr_clr s m).testBit j = true := by
                  rw [rr_clr3 s256 (by omega) (by omega), hb, decide_eq_false hmj]; rfl
                have := q j hj h1 b hM
                rw [nb] at this; cases this
              rw [rr_sf_t y w, (ih (rr_clr s m) hlt' (by omega)).2 this, ihm]; rfl
      exact key n (Nat.le_refl n)
theorem rr_full : ∀ n, n ≤ 8 → ∀ b, b < n → (2 ^ n - 1).testBit b = true := by decide +kernel
section
variable {ec fx : Int32} {sz ks os hi et ek eo mb kb oc pa nt fo : Nat → Int32}
variable {n : Nat} {M : Nat → Nat → Bool}
theorem xs_ordersOf (n8 : n ≤ 8) (hlt : ∀ a b, M a b = true → a < b) (hM : ∀ j, j < n → ∀ b, b < 32 → bt (mb j) b = M b j) {s : Nat} (hs : s < 2 ^ n) {post : Int32 → Prop} (h : post (rr_sf (rr_prd M s) oc s n)) : wpX_ordersOf post (nI n, fx, sz, ks, os, hi, et, ek, eo, mb, kb, oc, pa, nt, fo) (nI s) := by
  have p8 := (rr_pw n n8).2.1
  refine loop_0 (fun N m (x : Int32) => wX_ordersOf_4 post (nI s) (nI n) fx sz ks os hi et ek eo mb kb oc pa nt fo N x (nI m)) (fun m x => x = rr_sf (rr_prd M s) oc s m) n 0 rfl ?_ ?_
  · intro N x hx; subst hx; exact br_t (nI_le (Nat.le_refl n) (by omega)) h
  · intro N m x hm hx ih
    subst hx
    have c2 := rr_clr2 s (by omega) m (by omega)
    refine br_f (nI_ge hm (by omega)) (nm_r (rr_clr1 s (by omega) m (by omega)) ?_)
    rcases y : s.testBit m with _ | _
    · exact br_t (by rw [c2.2.2 y]) (nm_r (nI_1 m) (ih _ (rr_sf_f (Or.inl y)).symm))
    · have hl := c2.2.1 y
      refine br_f (fun z => by rw [nI_eq (by omega) (by omega)] at z; omega) ⟨pk_in m 8 (by omega) rfl, ?_⟩
      rw [nI_clamp (show m < 2 ^ 31 by omega)]
      have q : (mb m &&& (nI (rr_clr s m) ^^^ (-1)) = 0) ↔ rr_prd M s m = true := by
        rw [rr_sub0, rr_prd_t]
        constructor
        · intro h b hb hMb
          have := h b (by omega) (by rw [hM m hm b (by omega)]; exact hMb)
          rw [rr_btN (by omega) (by omega)] at this; exact this
        · intro h b hb hbt
          rw [hM m hm b hb] at hbt
          have := hlt b m hbt
          rw [rr_btN (by omega) hb]; exact h b (by omega) hbt
      by_cases w : mb m &&& (nI (rr_clr s m) ^^^ (-1)) = 0
      · refine br_t w ⟨pk_in _ _ (by omega) rfl, nm_r (show _ = rr_sf (rr_prd M s) oc s (m + 1) by rw [nI_clamp (by omega), rr_sf_t y (q.mp w)]) (nm_r (nI_1 m) (ih _ rfl))⟩
      · refine br_f w (nm_r (nI_1 m) (ih _ (rr_sf_f (Or.inr ?_)).symm))
        rcases e : rr_prd M s m with _ | _
        · rfl
        · exact absurd (q.mpr e) w
theorem xs_orders (n8 : n ≤ 8) (hlt : ∀ a b, M a b = true → a < b) (hM : ∀ j, j < n → ∀ b, b < 32 → bt (mb j) b = M b j) {post : Int32 → SX → Prop}
    (H : ∀ a, a 0 = 1 → (∀ s, 1 ≤ s → s < 2 ^ n → a s = rr_sf (rr_prd M s) a s n) → post (a (2 ^ n - 1)) (nI n, fx, sz, ks, os, hi, et, ek, eo, mb, kb, a, pa, nt, fo)) : wpX_orders post (nI n, fx, sz, ks, os, hi, et, ek, eo, mb, kb, oc, pa, nt, fo) := by
  obtain ⟨e1, p8, p1⟩ := rr_pw n n8
  refine nm_r (show _ = nI (2 ^ n - 1) by rw [e1]; exact pk_sub (b := 1) p1) (nm_e ?_)
  refine pk_loop (fun N s a => wX_orders_18 post (nI (2 ^ n - 1)) (nI n) fx N (nI s) sz ks os hi et ek eo mb kb a pa nt fo) (fun s a => 1 ≤ s ∧ a 0 = 1 ∧ ∀ i, 1 ≤ i → i < s → a i = rr_sf (rr_prd M i) a i n) (2 ^ n) 1 (upd oc 0 1) p1 ⟨Nat.le_refl 1, rfl, fun i h1 h2 => by omega⟩ ?_ ?_
  · intro N a ⟨_, h0, h1⟩
    refine br_t (nI_lt (by omega) (by omega)) ⟨pk_in _ _ (by omega) rfl, ?_⟩
    rw [nI_clamp (by omega)]; exact H a h0 h1
  · intro N s a hs ⟨s1, h0, h1⟩ ih
    refine br_f (nI_nlt (by omega) (by omega)) (xs_ordersOf n8 hlt hM hs ⟨pk_in _ _ (by omega) rfl, nm_r (show _ = upd a s (rr_sf (rr_prd M s) a s n) by rw [nI_clamp (by omega)]) (nm_r (nI_1 s) ?_)⟩)
    refine ih _ ⟨by omega, by rw [pk_un (by omega)]; exact h0, fun i g1 g2 => ?_⟩
    rw [rr_sf_congr (c := a) (show i < 256 by omega) (fun b hb => pk_un (by omega)) n n8]
    rcases Nat.decEq i s with z | z
    · rw [pk_un z]; exact h1 i g1 (by omega)
    · rw [z, pk_us]
end
section
variable {cn fy dy : Int32} {ks os sz bg va rg ho pl dn ol rl sm kp tr fd : Nat → Int32}
variable {n : Nat} {M : Nat → Nat → Bool}
theorem ys_last (n8 : n ≤ 8) (hM : ∀ i, i < 8 → ∀ j, j < 8 → rl (8 * i + j) = rr_b (decide (j < n) && M i j)) {s m : Nat} (hs : s < 256) (hm : m < n) {post : Int32 → Prop} (h : post (rr_b (rr_lst M n s m))) : wpY_canBeLast post (nI n, fy, dy, ks, os, sz, bg, va, rg, ho, pl, dn, ol, rl, sm, kp, tr, fd) (nI m) (nI s) := by
  have key : ∀ d i, i + d = n → (∀ a, a < i → s.testBit a = true → M m a = false) → wY_canBeLast_2 post (nI m) (nI s) (nI n) fy dy ks os sz bg va rg ho pl dn ol rl sm kp tr fd (d + 1) (nI i) := by
    intro d
    induction d with
    | zero =>
      intro i hi' hno
      obtain rfl : i = n := by omega
      rw [rr_lst_t.mpr hno] at h
      exact br_t (nI_le (Nat.le_refl _) (by omega)) h
    | succ d ih =>
      intro i hi' hno
      have cont : (s.testBit i = true → M m i = false) → wY_canBeLast_2 post (nI m) (nI s) (nI n) fy dy ks os sz bg va rg ho pl dn ol rl sm kp tr fd (d + 1) (nI (i + 1)) := fun q => ih (i + 1) (by omega) (fun a ha hb => by
        rcases Nat.decEq a i with z | z
        · exact hno a (by omega) hb
        · rw [z] at hb ⊢; exact q hb)
      have bb := rr_bitS hs (show i < 8 by omega)
      have e1 := rr_ixr m i
      refine br_f (nI_ge (by omega) (by omega)) ?_
      rcases y : s.testBit i with _ | _
      · exact br_f (fun z => by rw [bb, y] at z; cases z) (nm_r (nI_1 i) (cont (fun z => by rw [y] at z; cases z)))
      · refine br_t (bb.mpr y) ⟨pk_in _ _ (by omega) e1, ?_⟩
        rw [e1, nI_clamp (by omega), hM m (by omega) i (by omega), decide_eq_true (show i < n by omega), Bool.true_and]
        refine rr_bd (fun z => nm_r (nI_1 i) (cont (fun _ => z))) (fun z => ?_)
        have : rr_lst M n s m = false := by
          rcases e : rr_lst M n s m with _ | _
          · rfl
          · have := rr_lst_t.mp e i (by omega) y
            rw [this] at z; cases z
        rw [this] at h; exact h
  exact ⟨n + 1, key n 0 (by omega) (fun a ha => by omega)⟩
theorem ys_orders14 (n8 : n ≤ 8) (hM : ∀ i, i < 8 → ∀ j, j < 8 → rl (8 * i + j) = rr_b (decide (j < n) && M i j)) {post : Int32 → SY → Prop}
    (H : ∀ a, a 0 = 1 → (∀ s, 1 ≤ s → s < 2 ^ n → a s = rr_sf (rr_lst M n s) a s n) → post (a (2 ^ n - 1)) (nI n, fy, dy, ks, os, sz, bg, va, rg, ho, pl, dn, ol, rl, a, kp, tr, fd)) : ∃ N, wY_orders_14 post (nI n) fy dy N 1 ks os sz bg va rg ho pl dn ol rl ((upd sm 0 1)) kp tr fd := by
  obtain ⟨e1, p8, p1⟩ := rr_pw n n8
  have e2 : nI (2 ^ n) - 1 = nI (2 ^ n - 1) := pk_sub (b := 1) p1
  refine pk_loop (fun N s a => wY_orders_14 post (nI n) fy dy N (nI s) ks os sz bg va rg ho pl dn ol rl a kp tr fd) (fun s a => 1 ≤ s ∧ a 0 = 1 ∧ ∀ i, 1 ≤ i → i < s → a i = rr_sf (rr_lst M n i) a i n) (2 ^ n) 1 (upd sm 0 1) p1 ⟨Nat.le_refl 1, rfl, fun i h1 h2 => by omega⟩ ?_ ?_
  · intro N a ⟨_, h0, h1⟩
    refine br_t (by rw [e1]; exact nI_le (Nat.le_refl _) (by omega)) ⟨by rw [e1, e2]; exact pk_in _ _ (by omega) rfl, ?_⟩
    rw [e1, e2, nI_clamp (by omega)]; exact H a h0 h1
  · intro N s a hs ⟨s1, h0, h1⟩ ih
    have cs : (nI s).toNatClampNeg = s := nI_clamp (by omega)
    have vs : vp_in (nI s) 256 := pk_in s 256 (by omega) rfl
    refine br_f (by rw [e1]; exact nI_ge hs (by omega)) ⟨vs, nm_r (show _ = upd a s 0 by rw [cs]) ?_⟩
    refine loop_0 (fun L m b => wY_orders_33 post (wY_orders_14 post (nI n) fy dy N) (nI s) (nI n) fy dy L (nI m) ks os sz bg va rg ho pl dn ol rl b kp tr fd) (fun m b => b s = rr_sf (rr_lst M n s) a s m ∧ ∀ i, i ≠ s → b i = a i) n (upd a s 0) ⟨pk_us, fun i hil => pk_un hil⟩ ?_ ?_
    · intro L b ⟨b1, b2⟩
      refine br_t (nI_le (Nat.le_refl n) (by omega)) (nm_r (nI_1 s) (ih b ⟨by omega, by rw [b2 0 (by omega)]; exact h0, fun i g1 g2 => ?_⟩))
      rw [rr_sf_congr (c := a) (show i < 256 by omega) (fun c hc => b2 c (by omega)) n n8]
      rcases Nat.decEq i s with z | z
      · rw [b2 i z]; exact h1 i g1 (by omega)
      · rw [z, b1]
    · intro L m b hm ⟨b1, b2⟩ ihb
      have bb := rr_bitS (show s < 256 by omega) (show m < 8 by omega)
      have c1 := rr_clr1 s (by omega) m (by omega)
      have c2 := rr_clr2 s (by omega) m (by omega)
      have st : ∀ (x : Int32), x = rr_sf (rr_lst M n s) a s (m + 1) → wY_orders_33 post (wY_orders_14 post (nI n) fy dy N) (nI s) (nI n) fy dy L (nI (m + 1)) ks os sz bg va rg ho pl dn ol rl ((upd b s x)) kp tr fd := fun x hx => ihb _ ⟨by rw [pk_us]; exact hx, fun i hil => by rw [pk_un hil]; exact b2 i hil⟩
      have no : (s.testBit m = false ∨ rr_lst M n s m = false) → wY_orders_63 post (wY_orders_14 post (nI n) fy dy N) (wY_orders_33 post (wY_orders_14 post (nI n) fy dy N) (nI s) (nI n) fy dy L) (nI s) (nI m) (nI n) fy dy ks os sz bg va rg ho pl dn ol rl b kp tr fd := by
        intro z
        refine br_t rfl ⟨vs, vs, nm_r (show _ = upd b s (b s) by rw [cs]) (nm_r (nI_1 m) (st _ (by rw [rr_sf_f z]; exact b1)))⟩
      refine br_f (nI_ge hm (by omega)) ?_
      rcases y : s.testBit m with _ | _
      · exact br_f (fun z => by rw [bb, y] at z; cases z) (no (Or.inl y))
      · have hl := c2.2.1 y
        refine br_t (bb.mpr y) (ys_last n8 hM (by omega) hm (rr_bd (fun w => no (Or.inr w)) (fun w => br_f (by decide) ⟨vs, by rw [c1]; exact pk_in _ _ (by omega) rfl, vs, nm_r (show _ = upd b s (rr_sf (rr_lst M n s) a s (m + 1)) by rw [cs, c1, nI_clamp (by omega), b1, b2 _ (by omega), rr_sf_t y w]) (nm_r (nI_1 m) (st _ rfl))⟩)))
end
theorem i_vc_orders {k : Nat} {u : SX} {v : SY} (I : i_Rel k u v) (hk : k + 4 ≤ 2048) : wpX_orders (fun r u' => wpY_orders (fun r' v' => r' = r ∧ i_Rel (k + 4) u' v') v) u := by
  obtain ⟨S, T, n, B, fx, fy, dy, sz, ks, os, hi, et, ek, eo, mb, kb, oc, pa, nt, fo, bg, va, rg, ho, pl, dn, ol, rl, sm, kp, tr, fd, rfl, rfl, hG, hX, hY⟩ := I
  have n8 := rr_Go_8 hG (Nat.le_refl n)
  obtain ⟨e1, p8, p1⟩ := rr_pw n n8
  refine xs_orders (M := rr_P (rr_E false ks os T (rr_od ks os B T)) 8) n8 (fun a b => rr_P_lt 8 a b) hX.2.2.1 (fun a a0 ha => ?_)
  unfold wpY_orders
  refine ys_close false hG.1 (rr_Ev_of hG) (rr_Ye_of hY) (fun rl' hrl => nm_e (ys_orders14 (M := rr_P (rr_E false ks os T (rr_od ks os B T)) 8) n8 hrl (fun c c0 hc => ⟨?_, rr_mk hG hX hY⟩)))
  refine ((rr_ord n8 (fun a b => rr_P_lt 8 a b) a0 c0 ha hc (2 ^ n - 1) (by omega)).1 (fun j hj _ b hM => ?_)).symm
  exact rr_full n n8 b (by have := rr_P_lt 8 b j hM; omega)
end
section
theorem i_vc_outcomes {k : Nat} {u : SX} {v : SY} (I : i_Rel k u v) (hk : k + 4 ≤ 2048) : wpX_outcomes (fun r u' => wpY_outcomes (fun r' v' => r' = r ∧ i_Rel (k + 4) u' v') v) u := by
  obtain ⟨S, T, n, B, fx, fy, dy, sz, ks, os, hi, et, ek, eo, mb, kb, oc, pa, nt, fo, bg, va, rg, ho, pl, dn, ol, rl, sm, kp, tr, fd, rfl, rfl, hG, hX, hY⟩ := I
  have hR := (rr_Go_Rk hG 0 (Nat.zero_le n)).1
  unfold wpX_outcomes wpY_outcomes
  exact xs_find (e := 0) hG.1 hR (by omega) (hX.1 0 (Nat.zero_le n)) (fun pa' nt' fo' _ => ys_all hG hY.2.1 hY.2.2 (fun va rg ho pl dn ol kp tr fd hY1 hd1 _ => ⟨rfl, rr_mk hG hX ⟨hY.1, hY1, hd1⟩⟩))
theorem i_vc_ahead {k : Nat} {u : SX} {v : SY} (I : i_Rel k u v) (hk : k + 4 ≤ 2048) : wpX_ahead (fun r u' => wpY_ahead (fun r' v' => r' = r ∧ i_Rel (k + 4) u' v') v) u := by
  obtain ⟨S, T, n, B, fx, fy, dy, sz, ks, os, hi, et, ek, eo, mb, kb, oc, pa, nt, fo, bg, va, rg, ho, pl, dn, ol, rl, sm, kp, tr, fd, rfl, rfl, hG, hX, hY⟩ := I
  have n8 := rr_Go_8 hG (Nat.le_refl n)
  obtain ⟨hR, hs⟩ := rr_Go_Rk hG n (Nat.le_refl n)
  unfold wpX_ahead wpY_ahead
  exact xs_find hG.1 hR n8 (hX.1 n (Nat.le_refl n)) (fun pa' nt' fo' _ => ys_through hG.1 hR hs hY.2.1 (fun va' rg' ho' pl' dn' ol' tr' fd' hY1 _ hfr => ⟨rfl, rr_mk hG hX ⟨hY.1, hY1, fun i hil => by rw [(hfr i hil).1, (hfr i hil).2]; exact hY.2.2 i hil⟩⟩))
section
variable {ec fx : Int32} {sz ks os hi et ek eo mb kb oc pa nt fo : Nat → Int32}
variable {S p : Nat → Nat} {o : Nat → Int32} {L : List (Nat → Int32)} {k : Nat}
theorem xs_opleft (hP : rr_Pg sz ks os S) (hR : rr_Rk S o p) (hk : k < 560) (hf : ∀ c, c < 8 → fo (8 * k + c) = o c) {post : Int32 → Prop} (h : post (rr_b (rr_dead sz o))) : wpX_hasOperationLeft post (ec, fx, sz, ks, os, hi, et, ek, eo, mb, kb, oc, pa, nt, fo) (nI k) := by
  have b0 := (hR.1 0 (by omega)).2
  have b1 := (hR.1 1 (by omega)).2
  have b2 := (hR.1 2 (by omega)).2
  have a0 := rr_S4 hP (show 0 < 3 by omega)
  have a1 := rr_S4 hP (show 1 < 3 by omega)
  have a2 := rr_S4 hP (show 2 < 3 by omega)
  have hd : rr_dead sz o = true ↔ p 0 < S 0 ∨ p 1 < S 1 ∨ p 2 < S 2 := by
    unfold rr_dead
    rw [decide_eq_true_iff, rr_left_N hP hR, show (0 : Int32) = nI 0 from rfl, nI_leI (by omega) (by omega)]
    omega
  have key : ∀ d t, t + d = 3 → (∀ s, s < t → ¬ p s < S s) → wX_hasOperationLeft_2 post (nI k) ec fx sz ks os hi et ek eo mb kb oc pa nt fo (d + 1) (nI t) := by
    intro d
    induction d with
    | zero =>
      intro t ht hno
      obtain rfl : t = 3 := by omega
      have : rr_dead sz o = false := by
        rcases z : rr_dead sz o with _ | _
        · rfl
        · have h0 := hno 0 (by omega)
          have h1 := hno 1 (by omega)
          have h2 := hno 2 (by omega)
          rcases hd.mp z with y | y | y <;> omega
      rw [this] at h
      exact br_t (show (3 : Int32) ≤ nI 3 by decide) h
    | succ d ih =>
      intro t ht hno
      have e1 : nI k * 8 + 5 + nI t = nI (8 * k + (5 + t)) := by
        rw [show (8 : Int32) = nI 8 from rfl, show (5 : Int32) = nI 5 from rfl, pk_mul, nI_add, nI_add]; exact congrArg nI (by omega)
      have t3 : t < 3 := by omega
      have hS := rr_S4 hP t3
      have hp := rr_p4 hP hR t3
      refine br_f (rr_lt3 t3) ⟨pk_in _ _ (by omega) e1, pk_in t 3 t3 rfl, ?_⟩
      rw [e1, nI_clamp (by omega), nI_clamp (by omega), hf (5 + t) (by omega), (hP.1 t t3).1, (hR.1 t t3).1]
      refine pk_le (S t) (p t) (fun z => nm_r (nI_1 t) (ih (t + 1) (by omega) (fun s hs => ?_))) (fun z => ?_)
      · rcases Nat.decEq s t with y | y
        · exact hno s (by omega)
        · rw [y]; omega
      · have : rr_dead sz o = true := hd.mpr (by rcases (show t = 0 ∨ t = 1 ∨ t = 2 by omega) with rfl | rfl | rfl <;> omega)
        rw [this] at h; exact h
  exact ⟨4, key 3 0 (by omega) (fun s hs => by omega)⟩
theorem xs_dead9 (hP : rr_Pg sz ks os S) (hO : rr_Fo S L) (hF : rr_Fx L fo) (hn : L.length ≤ 560) {post : Int32 → SX → Prop} (h : post (nI (rr_dd sz L)) (ec, nI L.length, sz, ks, os, hi, et, ek, eo, mb, kb, oc, pa, nt, fo)) : ∃ N, wX_deadlocks_9 post ec (nI L.length) sz ks os hi et ek eo mb kb oc pa nt fo N 0 0 := by
  refine loop_0 (fun N k (x : Int32) => wX_deadlocks_9 post ec (nI L.length) sz ks os hi et ek eo mb kb oc pa nt fo N x (nI k)) (fun k x => x = nI (rr_dd sz (L.take k))) L.length 0 rfl ?_ ?_
  · intro N x hx
    rw [List.take_length] at hx
    subst hx
    exact br_t (nI_le (Nat.le_refl _) (by omega)) h
  · intro N k x hkl hx ih
    subst hx
    obtain ⟨o, ho⟩ : ∃ o, L[k]? = some o := ⟨_, List.getElem?_eq_getElem hkl⟩
    obtain ⟨p', hR⟩ := hO o (List.mem_of_getElem? ho)
    have ht : rr_dd sz (L.take (k + 1)) = rr_dd sz (L.take k) + if rr_dead sz o = true then 1 else 0 := by
      unfold rr_dd
      rw [List.take_succ, ho, List.countP_append]
      show _ + List.countP (rr_dead sz) [o] = _
      rw [List.countP_singleton]
    refine br_f (nI_ge hkl (by omega)) (xs_opleft hP hR (by omega) (hF k o ho) (rr_bd (fun z => nm_r (nI_1 k) (ih _ ?_)) (fun z => nm_r (nI_1 _) (nm_r (nI_1 k) (ih _ ?_)))))
    · rw [ht, if_neg (by rw [z]; decide)]; rfl
    · rw [ht, if_pos z]
end
theorem rr_L560 {sz ks os r : Nat → Int32} {S p : Nat → Nat} (hP : rr_Pg sz ks os S) (hR : rr_Rk S r p) : (rr_dfs sz ks os 9 r []).length ≤ 560 ∧ 1 ≤ (rr_dfs sz ks os 9 r []).length ∧ rr_Fo S (rr_dfs sz ks os 9 r []) := by
  obtain ⟨a, b, c⟩ := rr_root hP hR
  have h := rr_dfs_len hP 9 r p [] hR (by omega)
  have e : ([] : List (Nat → Int32)).length = 0 := rfl
  refine ⟨by omega, h.2.2, rr_dfs_Fo hP 9 r p [] hR (fun o ho => by cases ho)⟩
theorem i_vc_deadlocks {k : Nat} {u : SX} {v : SY} (I : i_Rel k u v) (hk : k + 4 ≤ 2048) : wpX_deadlocks (fun r u' => wpY_deadlocks (fun r' v' => r' = r ∧ i_Rel (k + 4) u' v') v) u := by
  obtain ⟨S, T, n, B, fx, fy, dy, sz, ks, os, hi, et, ek, eo, mb, kb, oc, pa, nt, fo, bg, va, rg, ho, pl, dn, ol, rl, sm, kp, tr, fd, rfl, rfl, hG, hX, hY⟩ := I
  have hR := (rr_Go_Rk hG 0 (Nat.zero_le n)).1
  obtain ⟨l1, l2, l3⟩ := rr_L560 hG.1 hR
  unfold wpX_deadlocks wpY_deadlocks
  exact xs_find (e := 0) hG.1 hR (by omega) (hX.1 0 (Nat.zero_le n)) (fun pa' nt' fo' hF => xs_dead9 hG.1 l3 hF l1 (ys_all hG hY.2.1 hY.2.2 (fun va rg ho pl dn ol kp tr fd hY1 hd1 _ => ⟨rfl, rr_mk hG hX ⟨hY.1, hY1, hd1⟩⟩)))
def rr_gm (c : Nat → Int32) : Nat → Int32
  | 0 => c 0
  | k + 1 => if c (k + 1) ≤ rr_gm c k then rr_gm c k else c (k + 1)
def rr_cv (L : List (Nat → Int32)) (w k : Nat) : Int32 := (L[k]?.getD (fun _ => 0)) w
theorem rr_gm_s {c : Nat → Int32} {k : Nat} (h : 1 ≤ k) : rr_gm c (k + 1 - 1) = if c k ≤ rr_gm c (k - 1) then rr_gm c (k - 1) else c k := by
  obtain ⟨k, rfl⟩ : ∃ m, k = m + 1 := ⟨k - 1, by omega⟩
  rfl
section
variable {ec fx cn fy dy : Int32} {sz ks os hi et ek eo mb kb oc pa nt fo bg va rg ho pl dn ol rl sm kp tr fd : Nat → Int32}
variable {L : List (Nat → Int32)} {w : Nat}
theorem xs_great24 (hw : w < 2) (hF : rr_Fx L fo) (hn : L.length ≤ 560) (h1 : 1 ≤ L.length) {post : Int32 → SX → Prop} (h : post (rr_gm (rr_cv L w) (L.length - 1)) (ec, nI L.length, sz, ks, os, hi, et, ek, eo, mb, kb, oc, pa, nt, fo)) : ∃ N, wX_greatest_24 post (nI w) ec (nI L.length) sz ks os hi et ek eo mb kb oc pa nt fo N (rr_cv L w 0) 1 := by
  refine pk_loop (fun N k (x : Int32) => wX_greatest_24 post (nI w) ec (nI L.length) sz ks os hi et ek eo mb kb oc pa nt fo N x (nI k)) (fun k x => 1 ≤ k ∧ x = rr_gm (rr_cv L w) (k - 1)) L.length 1 (rr_cv L w 0) h1 ⟨Nat.le_refl 1, rfl⟩ ?_ ?_
  · intro N x ⟨_, hx⟩
    subst hx
    exact br_t (nI_le (Nat.le_refl _) (by omega)) h
  · intro N k x hkl ⟨k1, hx⟩ ih
    subst hx
    obtain ⟨o, ho⟩ : ∃ o, L[k]? = some o := ⟨_, List.getElem?_eq_getElem hkl⟩
    have e1 := rr_ix08 k w
    have hv : fo (nI k * 8 + nI w).toNatClampNeg = rr_cv L w k := by
      rw [e1, nI_clamp (by omega), hF k o ho w (by omega)]; unfold rr_cv; rw [ho]; rfl
    refine br_f (nI_ge hkl (by omega)) ⟨pk_in _ _ (by omega) e1, nm_r hv ?_⟩
    have gs := rr_gm_s (c := rr_cv L w) k1
    by_cases z : rr_cv L w k ≤ rr_gm (rr_cv L w) (k - 1)
    · rw [if_pos z] at gs; exact br_t z (nm_r (nI_1 k) (ih _ ⟨by omega, gs.symm⟩))
    · rw [if_neg z] at gs; exact br_f z (nm_r (nI_1 k) (ih _ ⟨by omega, gs.symm⟩))
theorem ys_great25 (hw : w < 2) (hF : rr_Fy sz L fd) (hn : L.length ≤ 560) (h1 : 1 ≤ L.length) {post : Int32 → SY → Prop} (h : post (rr_gm (rr_cv L w) (L.length - 1)) (cn, nI L.length, dy, ks, os, sz, bg, va, rg, ho, pl, dn, ol, rl, sm, kp, tr, fd)) : ∃ N, wY_greatest_25 post (nI w) cn (nI L.length) dy ks os sz bg va rg ho pl dn ol rl sm kp tr fd N (rr_cv L w 0) 1 := by
  refine pk_loop (fun N k (x : Int32) => wY_greatest_25 post (nI w) cn (nI L.length) dy ks os sz bg va rg ho pl dn ol rl sm kp tr fd N x (nI k)) (fun k x => 1 ≤ k ∧ x = rr_gm (rr_cv L w) (k - 1)) L.length 1 (rr_cv L w 0) h1 ⟨Nat.le_refl 1, rfl⟩ ?_ ?_
  · intro N x ⟨_, hx⟩
    subst hx
    exact br_t (nI_le (Nat.le_refl _) (by omega)) h
  · intro N k x hkl ⟨k1, hx⟩ ih
    subst hx
    obtain ⟨o, ho⟩ : ∃ o, L[k]? = some o := ⟨_, List.getElem?_eq_getElem hkl⟩
    have e1 : 6 * nI k + nI w = nI (6 * k + w) := by rw [show (6 : Int32) = nI 6 from rfl, pk_mul, nI_add]
    have hv : fd (6 * nI k + nI w).toNatClampNeg = rr_cv L w k := by
      rw [e1, nI_clamp (by omega), hF k o ho w (by omega)]; unfold rr_cv rr_pt; rw [ho, if_pos (by omega)]; rfl
    have vv : vp_in (6 * nI k + nI w) 4200 := pk_in _ _ (by omega) e1
    refine br_f (nI_ge hkl (by omega)) ⟨vv, ?_⟩
    rw [hv]
    have gs := rr_gm_s (c := rr_cv L w) k1
    by_cases z : rr_cv L w k ≤ rr_gm (rr_cv L w) (k - 1)
    · rw [if_pos z] at gs; exact br_t z (nm_r (nI_1 k) (ih _ ⟨by omega, gs.symm⟩))
    · rw [if_neg z] at gs; exact br_f z ⟨vv, nm_e (nm_r (nI_1 k) (ih _ ⟨by omega, gs.symm⟩))⟩
end
theorem i_vc_greatest {k : Nat} {u : SX} {v : SY} (I : i_Rel k u v) (hk : k + 4 ≤ 2048) (v1 : Int32) : wpX_greatest (fun r u' => wpY_greatest (fun r' v' => r' = r ∧ i_Rel (k + 4) u' v') v v1) u v1 := by
  obtain ⟨S, T, n, B, fx, fy, dy, sz, ks, os, hi, et, ek, eo, mb, kb, oc, pa, nt, fo, bg, va, rg, ho, pl, dn, ol, rl, sm, kp, tr, fd, rfl, rfl, hG, hX, hY⟩ := I
  have hR := (rr_Go_Rk hG 0 (Nat.zero_le n)).1
  obtain ⟨l1, l2, l3⟩ := rr_L560 hG.1 hR
  unfold wpX_greatest wpY_greatest
  rcases rr_arg2 v1 with h | ⟨w, hw, rfl⟩
  · exact xs_var_f h (br_t rfl (ys_in_f (b := 1) (by omega) h (br_t rfl ⟨rfl, rr_mk hG hX hY⟩)))
  · have cw : (nI w).toNatClampNeg = w := nI_clamp (by omega)
    have l1' : (rr_dfs sz ks os 9 (rr_run ks os B T 0) []).length ≤ 560 := l1
    obtain ⟨o, ho⟩ : ∃ o, (rr_dfs sz ks os 9 (rr_run ks os B T 0) [])[0]? = some o := ⟨_, List.getElem?_eq_getElem l2⟩
    have hcv : rr_cv (rr_dfs sz ks os 9 (rr_run ks os B T 0) []) w 0 = o w := by unfold rr_cv; rw [ho]; rfl
    refine xs_var_t hw (br_f (by decide) (xs_find (e := 0) hG.1 hR (by omega) (hX.1 0 (Nat.zero_le n)) (fun pa' nt' fo' hF => ⟨pk_in w 4480 (by omega) rfl, nm_r (show _ = rr_cv (rr_dfs sz ks os 9 (rr_run ks os B T 0) []) w 0 by rw [cw, hcv]; have := hF 0 o ho w (by omega); rw [show 8 * 0 + w = w by omega] at this; exact this) (xs_great24 hw hF l1 l2 ?_)⟩)))
    refine ys_in_t (b := 1) (by omega) (by omega) (br_f (by decide) (ys_all hG hY.2.1 hY.2.2 (fun va rg ho' pl dn ol kp tr fd hY1 hd1 hFy => ⟨pk_in w 4200 (by omega) rfl, nm_r (show _ = rr_cv (rr_dfs sz ks os 9 (rr_run ks os B T 0) []) w 0 by rw [cw, hcv]; have := hFy 0 o ho w (by omega); rw [show 6 * 0 + w = w by omega] at this; rw [this]; unfold rr_pt; rw [if_pos (by omega)]) (ys_great25 hw hFy l1 l2 ⟨rfl, rr_mk hG hX ⟨hY.1, hY1, hd1⟩⟩)⟩)))
end
