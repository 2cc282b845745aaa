/-! the pure search: outcomes in the order in which they are first met -/
def rr_same (o r : Nat → Int32) : Bool := (List.range 8).all (fun c => decide (o c = r c))
theorem rr_same_t {o r : Nat → Int32} : rr_same o r = true ↔ ∀ c, c < 8 → o c = r c := by
  unfold rr_same; rw [List.all_eq_true]
  exact ⟨fun h c hc => of_decide_eq_true (h c (List.mem_range.mpr hc)), fun h c hc => decide_eq_true (h c (List.mem_range.mp hc))⟩
def rr_note (acc : List (Nat → Int32)) (r : Nat → Int32) : List (Nat → Int32) := if acc.any (fun o => rr_same o r) then acc else acc ++ [r]
def rr_any (sz ks os : Nat → Int32) (r : Nat → Int32) : Bool := rr_en sz ks os 0 r || rr_en sz ks os 1 r || rr_en sz ks os 2 r
def rr_arr (sz ks os : Nat → Int32) (r : Nat → Int32) (acc : List (Nat → Int32)) : List (Nat → Int32) := if rr_any sz ks os r then acc else rr_note acc r
def rr_kid (sz ks os : Nat → Int32) (g : (Nat → Int32) → List (Nat → Int32) → List (Nat → Int32)) (t : Nat) (r : Nat → Int32) (a : List (Nat → Int32)) : List (Nat → Int32) := if rr_en sz ks os t r then g (rr_st ks os t r) a else a
def rr_from (sz ks os : Nat → Int32) (g : (Nat → Int32) → List (Nat → Int32) → List (Nat → Int32)) (r : Nat → Int32) : Nat → List (Nat → Int32) → List (Nat → Int32)
  | 0 => fun a => a
  | j + 1 => fun a => rr_from sz ks os g r j (rr_kid sz ks os g (2 - j) r a)
def rr_dfs (sz ks os : Nat → Int32) : Nat → (Nat → Int32) → List (Nat → Int32) → List (Nat → Int32)
  | 0 => fun _ a => a
  | f + 1 => fun r a => rr_from sz ks os (rr_dfs sz ks os f) r 3 (rr_arr sz ks os r a)
def rr_dec (t : Nat) (q : Nat → Nat) : Nat → Nat := fun s => if s = t then q s - 1 else q s
def rr_lv : Nat → Nat → Nat → Nat → Nat
  | 0, _, _, _ => 1
  | f + 1, a, b, c => if a + b + c = 0 then 1 else (if a = 0 then 0 else rr_lv f (a - 1) b c) + (if b = 0 then 0 else rr_lv f a (b - 1) c) + (if c = 0 then 0 else rr_lv f a b (c - 1))
def rr_nd : Nat → Nat → Nat → Nat → Nat
  | 0, _, _, _ => 1
  | f + 1, a, b, c => 1 + ((if a = 0 then 0 else rr_nd f (a - 1) b c) + (if b = 0 then 0 else rr_nd f a (b - 1) c) + (if c = 0 then 0 else rr_nd f a b (c - 1)))
def rr_LV (f : Nat) (q : Nat → Nat) : Nat := rr_lv f (q 0) (q 1) (q 2)
def rr_ND (f : Nat) (q : Nat → Nat) : Nat := rr_nd f (q 0) (q 1) (q 2)
def rr_lk (f t : Nat) (q : Nat → Nat) : Nat := if q t = 0 then 0 else rr_LV f (rr_dec t q)
def rr_nk (f t : Nat) (q : Nat → Nat) : Nat := if q t = 0 then 0 else rr_ND f (rr_dec t q)
def rr_ls (f : Nat) (q : Nat → Nat) : Nat → Nat
  | 0 => 0
  | j + 1 => rr_lk f (2 - j) q + rr_ls f q j
def rr_ns (f : Nat) (q : Nat → Nat) : Nat → Nat
  | 0 => 0
  | j + 1 => rr_nk f (2 - j) q + rr_ns f q j
theorem rr_LV_s (f : Nat) (q : Nat → Nat) : rr_LV (f + 1) q = if q 0 + q 1 + q 2 = 0 then 1 else rr_ls f q 3 := by
  show (if q 0 + q 1 + q 2 = 0 then 1 else _) = _
  rcases Nat.decEq (q 0 + q 1 + q 2) 0 with h | h
  · rw [if_neg h, if_neg h]
    simp only [rr_ls, rr_lk, rr_LV, rr_dec]
    simp
    omega
  · rw [if_pos h, if_pos h]
theorem rr_ND_s (f : Nat) (q : Nat → Nat) : rr_ND (f + 1) q = 1 + rr_ns f q 3 := by
  show 1 + _ = _
  simp only [rr_ns, rr_nk, rr_ND, rr_dec]
  simp
  omega
theorem rr_lv_pos : ∀ f a b c, 1 ≤ rr_lv f a b c := by
  intro f
  induction f with
  | zero => intro a b c; exact Nat.le_refl 1
  | succ f ih =>
    intro a b c
    show 1 ≤ if a + b + c = 0 then 1 else _
    have h1 := ih (a - 1) b c
    have h2 := ih a (b - 1) c
    have h3 := ih a b (c - 1)
    rcases Nat.decEq (a + b + c) 0 with h | h
    · rw [if_neg h]
      have ka : a ≠ 0 → 1 ≤ (if a = 0 then 0 else rr_lv f (a - 1) b c) := fun x => by rw [if_neg x]; exact h1
      have kb : b ≠ 0 → 1 ≤ (if b = 0 then 0 else rr_lv f a (b - 1) c) := fun x => by rw [if_neg x]; exact h2
      have kc : c ≠ 0 → 1 ≤ (if c = 0 then 0 else rr_lv f a b (c - 1)) := fun x => by rw [if_neg x]; exact h3
      rcases (show a ≠ 0 ∨ b ≠ 0 ∨ c ≠ 0 by omega) with x | x | x
      · have := ka x; omega
      · have := kb x; omega
      · have := kc x; omega
    · rw [if_pos h]; exact Nat.le_refl 1
theorem rr_LV_pos (f : Nat) (q : Nat → Nat) : 1 ≤ rr_LV f q := rr_lv_pos _ _ _ _
theorem rr_lv_560 : ∀ a, a < 5 → ∀ b, b < 5 → ∀ c, c < 5 → a + b + c ≤ 8 → rr_lv 9 a b c ≤ 560 := by decide +kernel
theorem rr_nd_5040 : ∀ a, a < 5 → ∀ b, b < 5 → ∀ c, c < 5 → a + b + c ≤ 8 → rr_nd 9 a b c ≤ 5040 := by decide +kernel
section
variable {sz ks os : Nat → Int32} {S p : Nat → Nat} {r : Nat → Int32} {t : Nat}
def rr_rm (S p : Nat → Nat) : Nat → Nat := fun t => S t - p t
theorem rr_rm_inc (hl : p t < S t) : rr_rm S (rr_inc t p) = rr_dec t (rr_rm S p) := by
  funext s
  unfold rr_rm rr_inc rr_dec
  rcases Nat.decEq s t with h | h
  · rw [if_neg h, if_neg h]
  · rw [h, if_pos rfl, if_pos rfl]; show S t - (p t + 1) = S t - p t - 1; omega
theorem rr_note_len (acc : List (Nat → Int32)) (r : Nat → Int32) : acc.length ≤ (rr_note acc r).length ∧ (rr_note acc r).length ≤ acc.length + 1 ∧ 1 ≤ (rr_note acc r).length := by
  unfold rr_note
  by_cases h : acc.any (fun o => rr_same o r) = true
  · rw [if_pos h]
    refine ⟨Nat.le_refl _, by omega, ?_⟩
    rcases acc with _ | ⟨x, l⟩
    · cases h
    · simp
  · rw [if_neg h]; simp
theorem rr_any_t (ht : t < 3) (h : rr_en sz ks os t r = true) : rr_any sz ks os r = true := by
  unfold rr_any
  rcases (show t = 0 ∨ t = 1 ∨ t = 2 by omega) with rfl | rfl | rfl <;> rw [h] <;> simp
theorem rr_any_f (h : rr_any sz ks os r = false) (ht : t < 3) : rr_en sz ks os t r = false := by
  rcases hb : rr_en sz ks os t r with _ | _
  · rfl
  · rw [rr_any_t ht hb] at h; cases h
theorem rr_kid_t {g : (Nat → Int32) → List (Nat → Int32) → List (Nat → Int32)} {a : List (Nat → Int32)} (h : rr_en sz ks os t r = true) : rr_kid sz ks os g t r a = g (rr_st ks os t r) a := if_pos h
theorem rr_kid_f {g : (Nat → Int32) → List (Nat → Int32) → List (Nat → Int32)} {a : List (Nat → Int32)} (h : rr_en sz ks os t r = false) : rr_kid sz ks os g t r a = a := if_neg (by rw [h]; decide)
theorem rr_from_f {g : (Nat → Int32) → List (Nat → Int32) → List (Nat → Int32)} (h : rr_any sz ks os r = false) : ∀ j, j ≤ 3 → ∀ a, rr_from sz ks os g r j a = a := by
  intro j
  induction j with
  | zero => intro _ a; rfl
  | succ j ih =>
    intro hj a
    show rr_from sz ks os g r j (rr_kid sz ks os g (2 - j) r a) = a
    rw [rr_kid_f (rr_any_f h (by omega)), ih (by omega)]
/-- what holds of the search: it grows, by no more than the leaves, and a search that begins with enough fuel finds something -/
theorem rr_dfs_len (hP : rr_Pg sz ks os S) : ∀ f r p a, rr_Rk S r p → rr_rm S p 0 + rr_rm S p 1 + rr_rm S p 2 < f →
    a.length ≤ (rr_dfs sz ks os f r a).length ∧ (rr_dfs sz ks os f r a).length ≤ a.length + rr_LV f (rr_rm S p) ∧ 1 ≤ (rr_dfs sz ks os f r a).length := by
  intro f
  induction f with
  | zero => intro r p a _ h; omega
  | succ f ih =>
    intro r p a hR hf
    show a.length ≤ (rr_from sz ks os (rr_dfs sz ks os f) r 3 (rr_arr sz ks os r a)).length ∧ (rr_from sz ks os (rr_dfs sz ks os f) r 3 (rr_arr sz ks os r a)).length ≤ _ ∧ 1 ≤ (rr_from sz ks os (rr_dfs sz ks os f) r 3 (rr_arr sz ks os r a)).length
    rcases hb : rr_any sz ks os r with _ | _
    · rw [rr_from_f hb 3 (Nat.le_refl 3)]
      have e : rr_arr sz ks os r a = rr_note a r := if_neg (by rw [hb]; decide)
      rw [e]
      have h1 := rr_note_len a r
      have h2 := rr_LV_pos (f + 1) (rr_rm S p)
      omega
    · have e : rr_arr sz ks os r a = a := if_pos hb
      rw [e]
      have kid : ∀ t, t < 3 → ∀ a, a.length ≤ (rr_kid sz ks os (rr_dfs sz ks os f) t r a).length ∧ (rr_kid sz ks os (rr_dfs sz ks os f) t r a).length ≤ a.length + rr_lk f t (rr_rm S p) ∧ (rr_en sz ks os t r = true → 1 ≤ (rr_kid sz ks os (rr_dfs sz ks os f) t r a).length ∧ rr_rm S p t ≠ 0) := by
        intro t ht a
        rcases he : rr_en sz ks os t r with _ | _
        · rw [rr_kid_f he]; exact ⟨Nat.le_refl _, by omega, fun z => by cases z⟩
        · rw [rr_kid_t he]
          have hl := (rr_lt hP hR ht).mp (rr_en_lt he)
          have h0 : rr_rm S p t ≠ 0 := by unfold rr_rm; omega
          have hf' : rr_rm S (rr_inc t p) 0 + rr_rm S (rr_inc t p) 1 + rr_rm S (rr_inc t p) 2 < f := by
            rw [rr_rm_inc hl]; unfold rr_dec
            rcases (show t = 0 ∨ t = 1 ∨ t = 2 by omega) with rfl | rfl | rfl <;> simp <;> omega
          obtain ⟨x, y, z⟩ := ih (rr_st ks os t r) (rr_inc t p) a (rr_st_Rk hP hR ht he) hf'
          refine ⟨x, ?_, fun _ => ⟨z, h0⟩⟩
          unfold rr_lk; rw [if_neg h0, ← rr_rm_inc hl]; exact y
      have k0 := kid 0 (by omega) a
      have k1 := kid 1 (by omega) (rr_kid sz ks os (rr_dfs sz ks os f) 0 r a)
      have k2 := kid 2 (by omega) (rr_kid sz ks os (rr_dfs sz ks os f) 1 r (rr_kid sz ks os (rr_dfs sz ks os f) 0 r a))
      show a.length ≤ (rr_kid sz ks os (rr_dfs sz ks os f) 2 r (rr_kid sz ks os (rr_dfs sz ks os f) 1 r (rr_kid sz ks os (rr_dfs sz ks os f) 0 r a))).length ∧ (rr_kid sz ks os (rr_dfs sz ks os f) 2 r (rr_kid sz ks os (rr_dfs sz ks os f) 1 r (rr_kid sz ks os (rr_dfs sz ks os f) 0 r a))).length ≤ _ ∧ 1 ≤ (rr_kid sz ks os (rr_dfs sz ks os f) 2 r (rr_kid sz ks os (rr_dfs sz ks os f) 1 r (rr_kid sz ks os (rr_dfs sz ks os f) 0 r a))).length
      rw [rr_LV_s]
      have hs : rr_ls f (rr_rm S p) 3 = rr_lk f 0 (rr_rm S p) + (rr_lk f 1 (rr_rm S p) + (rr_lk f 2 (rr_rm S p) + 0)) := rfl
      have hany : rr_en sz ks os 0 r = true ∨ rr_en sz ks os 1 r = true ∨ rr_en sz ks os 2 r = true := by
        unfold rr_any at hb
        rcases h0 : rr_en sz ks os 0 r with _ | _ <;> rcases h1 : rr_en sz ks os 1 r with _ | _ <;> rcases h2 : rr_en sz ks os 2 r with _ | _ <;> rw [h0, h1, h2] at hb <;> simp at hb ⊢
      have hne : rr_rm S p 0 + rr_rm S p 1 + rr_rm S p 2 ≠ 0 := by
        rcases hany with h | h | h
        · have := (k0.2.2 h).2; omega
        · have := (k1.2.2 h).2; omega
        · have := (k2.2.2 h).2; omega
      rw [if_neg hne, hs]
      refine ⟨by omega, by omega, ?_⟩
      rcases hany with h | h | h
      · have := (k0.2.2 h).1; omega
      · have := (k1.2.2 h).1; omega
      · have := (k2.2.2 h).1; omega
end
