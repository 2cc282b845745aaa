def rr_ac (k : Int32) : Bool := decide (k = 0) || decide (k = 1)
def rr_lc (k : Int32) : Bool := decide (k = 3) || decide (k = 4)
def rr_cfk (a b : Int32) : Bool := if rr_ac a && rr_ac b then decide (a = 1) || decide (b = 1) else rr_lc a && rr_lc b
def rr_cfy (a b : Int32) : Bool := (decide (¬ 2 ≤ a) && decide (¬ 2 ≤ b) && (decide (a = 1) || decide (b = 1))) || (decide (¬ a ≤ 2) && decide (¬ b ≤ 2))
theorem rr_cfe : ∀ a, a < 5 → ∀ b, b < 5 → rr_cfk (nI a) (nI b) = rr_cfy (nI a) (nI b) := by decide +kernel
def rr_cf (ks os : Nat → Int32) (T od : Nat → Nat) (i j : Nat) : Bool := !(decide (T i = T j)) && (decide (os (od i) = os (od j)) && rr_cfk (ks (od i)) (ks (od j)))
def rr_hv (ks os : Nat → Int32) (od : Nat → Nat) (i j : Nat) : Bool := decide (ks (od i) = 4) && (decide (ks (od j) = 3) && decide (os (od i) = os (od j)))
def rr_E (bl : Bool) (ks os : Nat → Int32) (T od : Nat → Nat) (i j : Nat) : Bool := decide (T i = T j) || (if bl then rr_hv ks os od i j else rr_cf ks os T od i j)
/-- paths whose inner events lie below k -/
def rr_P (E : Nat → Nat → Bool) : Nat → Nat → Nat → Bool
  | 0, i, j => decide (i < j) && E i j
  | k + 1, i, j => rr_P E k i j || (rr_P E k i k && rr_P E k k j)
section
variable {E E' : Nat → Nat → Bool}
theorem rr_P_lt : ∀ k i j, rr_P E k i j = true → i < j := by
  intro k
  induction k with
  | zero => intro i j h; simp [rr_P] at h; exact h.1
  | succ k ih =>
    intro i j h
    simp only [rr_P, Bool.or_eq_true, Bool.and_eq_true] at h
    rcases h with h | ⟨h1, h2⟩
    · exact ih i j h
    · have := ih i k h1; have := ih k j h2; omega
theorem rr_P_ge {k i j : Nat} (h : j ≤ i) : rr_P E k i j = false := by
  rcases z : rr_P E k i j with _ | _
  · rfl
  · have := rr_P_lt k i j z; omega
theorem rr_P_up {k i j : Nat} (h : rr_P E k i j = true) : ∀ m, rr_P E (k + m) i j = true := by
  intro m
  induction m with
  | zero => exact h
  | succ m ih => show (rr_P E (k + m) i j || _) = true; rw [ih]; rfl
theorem rr_P_mono {k m i j : Nat} (h : rr_P E k i j = true) (hm : k ≤ m) : rr_P E m i j = true := by
  have := rr_P_up h (m - k)
  rw [show k + (m - k) = m by omega] at this; exact this
/-- from k on nothing that ends at j ≤ k is new -/
theorem rr_P_end {i j : Nat} : ∀ m, rr_P E (j + m) i j = rr_P E j i j := by
  intro m
  induction m with
  | zero => rfl
  | succ m ih =>
    show (rr_P E (j + m) i j || (rr_P E (j + m) i (j + m) && rr_P E (j + m) (j + m) j)) = _
    rw [rr_P_ge (i := j + m) (j := j) (by omega), Bool.and_false, Bool.or_false, ih]
/-- up to i nothing that begins at i is new -/
theorem rr_P_beg {i j : Nat} : ∀ k, k ≤ i → rr_P E k i j = rr_P E 0 i j := by
  intro k
  induction k with
  | zero => intro _; rfl
  | succ k ih =>
    intro h
    show (rr_P E k i j || (rr_P E k i k && rr_P E k k j)) = _
    rw [rr_P_ge (i := i) (j := k) (by omega), Bool.false_and, Bool.or_false, ih (by omega)]
theorem rr_P_row {k i : Nat} : rr_P E (k + 1) i k = rr_P E k i k := by
  show (rr_P E k i k || (rr_P E k i k && rr_P E k k k)) = _
  rw [rr_P_ge (i := k) (j := k) (Nat.le_refl k), Bool.and_false, Bool.or_false]
theorem rr_P_col {k j : Nat} : rr_P E (k + 1) k j = rr_P E k k j := by
  show (rr_P E k k j || (rr_P E k k k && rr_P E k k j)) = _
  rw [rr_P_ge (i := k) (j := k) (Nat.le_refl k), Bool.false_and, Bool.or_false]
theorem rr_P_iff {i j : Nat} (hj : j ≤ 8) : rr_P E 8 i j = true ↔ ∃ a, a < j ∧ E a j = true ∧ (i = a ∨ rr_P E 8 i a = true) := by
  constructor
  · have key : ∀ k, k ≤ 8 → rr_P E k i j = true → ∃ a, a < j ∧ E a j = true ∧ (i = a ∨ rr_P E 8 i a = true) := by
      intro k
      induction k with
      | zero =>
        intro _ h
        simp [rr_P] at h
        exact ⟨i, h.1, h.2, Or.inl rfl⟩
      | succ k ih =>
        intro hk h
        simp only [rr_P, Bool.or_eq_true, Bool.and_eq_true] at h
        rcases h with h | ⟨h1, h2⟩
        · exact ih (by omega) h
        · rw [rr_P_beg k (Nat.le_refl k)] at h2
          simp [rr_P] at h2
          exact ⟨k, h2.1, h2.2, Or.inr (rr_P_mono h1 (by omega))⟩
    exact key 8 (Nat.le_refl 8)
  · rintro ⟨a, ha, he, h | h⟩
    · subst h
      have h0 : rr_P E 0 i j = true := by simp [rr_P, ha, he]
      exact rr_P_mono h0 (by omega)
    · have h1 : rr_P E a i a = true := by
        have := rr_P_end (E := E) (i := i) (j := a) (8 - a)
        rw [show a + (8 - a) = 8 by omega] at this
        rw [← this]; exact h
      have h2 : rr_P E a a j = true := rr_P_mono (k := 0) (by simp [rr_P, ha, he]) (by omega)
      have h3 : rr_P E (a + 1) i j = true := by
        show (rr_P E a i j || (rr_P E a i a && rr_P E a a j)) = true
        rw [h1, h2]; simp
      exact rr_P_mono h3 (by omega)
theorem rr_P_congr {n : Nat} (h : ∀ i j, i < j → j < n → E' i j = E i j) : ∀ k i j, j < n → rr_P E' k i j = rr_P E k i j := by
  intro k
  induction k with
  | zero =>
    intro i j hj
    show (decide (i < j) && E' i j) = (decide (i < j) && E i j)
    by_cases z : i < j
    · rw [h i j z hj]
    · rw [decide_eq_false z]; rfl
  | succ k ih =>
    intro i j hj
    show (rr_P E' k i j || (rr_P E' k i k && rr_P E' k k j)) = (rr_P E k i j || (rr_P E k i k && rr_P E k k j))
    rw [ih i j hj, ih k j hj]
    rcases Nat.lt_or_ge k n with z | z
    · rw [ih i k z]
    · rw [rr_P_ge (E := E) (i := k) (j := j) (by omega), Bool.and_false, Bool.and_false]
end
theorem rr_E_congr {bl : Bool} {ks os : Nat → Int32} {T T' od od' : Nat → Nat} {n : Nat} (hT : ∀ i, i < n → T' i = T i) (ho : ∀ i, i < n → od' i = od i) : ∀ i j, i < j → j < n → rr_E bl ks os T' od' i j = rr_E bl ks os T od i j := by
  intro i j h1 h2
  unfold rr_E rr_hv rr_cf
  rw [hT i (by omega), hT j h2, ho i (by omega), ho j h2]
/-- what the two sides know of the events -/
def rr_Ev (n : Nat) (T od : Nat → Nat) : Prop := n ≤ 8 ∧ ∀ i, i < n → T i < 3 ∧ od i < 12 ∧ od i / 4 = T i
def rr_Xe (n : Nat) (ks os : Nat → Int32) (T od : Nat → Nat) (et ek eo : Nat → Int32) : Prop := ∀ i, i < n → et i = nI (T i) ∧ ek i = ks (od i) ∧ eo i = os (od i)
def rr_Ye (n : Nat) (od : Nat → Nat) (dn : Nat → Int32) : Prop := ∀ i, i < n → dn i = nI (od i)
section
variable {ec fx : Int32} {sz ks os hi et ek eo mb kb oc pa nt fo : Nat → Int32}
variable {T od : Nat → Nat} {n i j : Nat} {S : Nat → Nat}
theorem xs_acc {k : Int32} {post : Int32 → Prop} (h : post (rr_b (rr_ac k))) : wpX_isAccess post k := by
  unfold rr_ac at h
  by_cases a : k = 0
  · rw [decide_eq_true a] at h; exact br_t a h
  · refine br_f a ?_
    rw [decide_eq_false a] at h
    by_cases b : k = 1
    · rw [decide_eq_true b] at h; exact br_t b h
    · rw [decide_eq_false b] at h; exact br_f b h
theorem xs_lck {k : Int32} {post : Int32 → Prop} (h : post (rr_b (rr_lc k))) : wpX_isLocking post k := by
  unfold rr_lc at h
  by_cases a : k = 3
  · rw [decide_eq_true a] at h; exact br_t a h
  · refine br_f a ?_
    rw [decide_eq_false a] at h
    by_cases b : k = 4
    · rw [decide_eq_true b] at h; exact br_t b h
    · rw [decide_eq_false b] at h; exact br_f b h
theorem rr_nIT {a b : Nat} (ha : a < 3) (hb : b < 3) : nI a = nI b ↔ a = b := nI_eq (by omega) (by omega)
theorem xs_conf (hE : rr_Ev n T od) (hX : rr_Xe n ks os T od et ek eo) (hi' : i < n) (hj' : j < n) {post : Int32 → Prop} (h : post (rr_b (rr_cf ks os T od i j))) : wpX_inConflict post (ec, fx, sz, ks, os, hi, et, ek, eo, mb, kb, oc, pa, nt, fo) (nI i) (nI j) := by
  have n8 := hE.1
  have ci : (nI i).toNatClampNeg = i := nI_clamp (by omega)
  have cj : (nI j).toNatClampNeg = j := nI_clamp (by omega)
  have vi : vp_in (nI i) 8 := pk_in i 8 (by omega) rfl
  have vj : vp_in (nI j) 8 := pk_in j 8 (by omega) rfl
  obtain ⟨a1, a2, a3⟩ := hX i hi'
  obtain ⟨b1, b2, b3⟩ := hX j hj'
  have hT := rr_nIT (hE.2 i hi').1 (hE.2 j hj').1
  refine ⟨vi, vj, ?_⟩
  rw [ci, cj, a1, b1, a2, b2, a3, b3]
  unfold rr_cf at h
  by_cases t : T i = T j
  · rw [decide_eq_true t] at h; exact br_t (hT.mpr t) h
  · refine br_f (fun z => t (hT.mp z)) ⟨vi, vj, ?_⟩
    rw [decide_eq_false t] at h
    by_cases o : os (od i) = os (od j)
    · refine br_t o ⟨vi, nm_e ⟨vj, nm_e ?_⟩⟩
      rw [decide_eq_true o] at h
      have h' : post (rr_b (rr_cfk (ks (od i)) (ks (od j)))) := h
      unfold rr_cfk at h'
      have lk : (rr_ac (ks (od i)) && rr_ac (ks (od j))) = false → wX_inConflict_79 post (ks (od i)) (ks (od j)) ec fx sz ks os hi et ek eo mb kb oc pa nt fo := by
        intro z
        rw [z] at h'
        have h'' : post (rr_b (rr_lc (ks (od i)) && rr_lc (ks (od j)))) := h'
        refine xs_lck (rr_bd (fun y => ?_) (fun y => xs_lck (rr_bd (fun w => ?_) (fun w => ?_))))
        · rw [y] at h''; exact h''
        · rw [y, w] at h''; exact h''
        · rw [y, w] at h''; exact h''
      refine xs_acc (rr_bd (fun y => lk (by rw [y]; rfl)) (fun y => xs_acc (rr_bd (fun w => lk (by rw [y, w]; rfl)) (fun w => ?_))))
      rw [y, w] at h'
      have h'' : post (rr_b (decide (ks (od i) = 1) || decide (ks (od j) = 1))) := h'
      by_cases q : ks (od i) = 1
      · rw [decide_eq_true q] at h''; exact br_t q h''
      · refine br_f q ?_
        rw [decide_eq_false q] at h''
        by_cases s : ks (od j) = 1
        · rw [decide_eq_true s] at h''; exact br_t s h''
        · rw [decide_eq_false s] at h''; exact br_f s h''
    · rw [decide_eq_false o] at h; exact br_f o h
theorem xs_hand (hE : rr_Ev n T od) (hX : rr_Xe n ks os T od et ek eo) (hi' : i < n) (hj' : j < n) {post : Int32 → Prop} (h : post (rr_b (rr_hv ks os od i j))) : wpX_isHandOver post (ec, fx, sz, ks, os, hi, et, ek, eo, mb, kb, oc, pa, nt, fo) (nI i) (nI j) := by
  have n8 := hE.1
  have ci : (nI i).toNatClampNeg = i := nI_clamp (by omega)
  have cj : (nI j).toNatClampNeg = j := nI_clamp (by omega)
  have vi : vp_in (nI i) 8 := pk_in i 8 (by omega) rfl
  have vj : vp_in (nI j) 8 := pk_in j 8 (by omega) rfl
  obtain ⟨a1, a2, a3⟩ := hX i hi'
  obtain ⟨b1, b2, b3⟩ := hX j hj'
  refine ⟨vi, ?_⟩
  rw [ci, cj, a2, b2, a3, b3]
  unfold rr_hv at h
  by_cases a : ks (od i) = 4
  · rw [decide_eq_true a] at h
    refine br_t a ⟨vj, ?_⟩
    by_cases b : ks (od j) = 3
    · rw [decide_eq_true b] at h
      refine br_t b ⟨vi, vj, ?_⟩
      by_cases o : os (od i) = os (od j)
      · rw [decide_eq_true o] at h; exact br_t o h
      · rw [decide_eq_false o] at h; exact br_f o h
    · rw [decide_eq_false b] at h; exact br_f b h
  · rw [decide_eq_false a] at h; exact br_f a h
end
theorem rr_bshl {a b : Nat} (ha : a < 32) (hb : b < 32) : bt ((1 : Int32) <<< (nI a &&& 31)) b = decide (b = a) := by
  have : ∀ a, a < 32 → ∀ b, b < 32 → bt ((1 : Int32) <<< (nI a &&& 31)) b = decide (b = a) := by decide +kernel
  exact this a ha b hb
section
variable {ec fx : Int32} {sz ks os hi et ek eo mb kb oc pa nt fo : Nat → Int32}
variable {T od : Nat → Nat} {n j : Nat} {S : Nat → Nat}
theorem xs_bef_Must (bl : Bool) (hbl : bl = false) (hE : rr_Ev n T od) (hX : rr_Xe n ks os T od et ek eo) (hj' : j < n) (hM : ∀ a, a < j → ∀ b, b < 32 → bt (mb a) b = rr_P (rr_E bl ks os T od) 8 b a) {post : Int32 → Prop}
    (H : ∀ v, (∀ b, b < 32 → bt v b = rr_P (rr_E bl ks os T od) 8 b j) → post v) : wpX_allMustBefore post (ec, fx, sz, ks, os, hi, et, ek, eo, mb, kb, oc, pa, nt, fo) (nI j) := by
  have n8 := hE.1
  have vj : vp_in (nI j) 8 := pk_in j 8 (by omega) rfl
  have cj : (nI j).toNatClampNeg = j := nI_clamp (by omega)
  refine loop_0 (fun n i (v : Int32) => wX_allMustBefore_4 post (nI j) ec fx sz ks os hi et ek eo mb kb oc pa nt fo n v (nI i)) (fun i v => ∀ b, b < 32 → (bt v b = true ↔ ∃ a, a < i ∧ rr_E bl ks os T od a j = true ∧ (b = a ∨ rr_P (rr_E bl ks os T od) 8 b a = true))) j 0 (fun b hb => ?_) ?_ ?_
  · rw [b_0]
    exact ⟨(fun z => by cases z), fun ⟨a, ha, _⟩ => by omega⟩
  · intro n v h1
    refine br_t (nI_le (Nat.le_refl _) (by omega)) (H v (fun b hb => ?_))
    have := (h1 b hb).trans (rr_P_iff (E := rr_E bl ks os T od) (i := b) (j := j) (by omega)).symm
    rcases z : rr_P (rr_E bl ks os T od) 8 b j with _ | _
    · rcases y : bt v b with _ | _
      · rfl
      · rw [z] at this; exact absurd (this.mp y) (by decide)
    · exact this.mpr z
  · intro m i v hil h1 ih
    have vi : vp_in (nI i) 8 := pk_in i 8 (by omega) rfl
    have ci : (nI i).toNatClampNeg = i := nI_clamp (by omega)
    obtain ⟨a1, a2, a3⟩ := hX i (by omega)
    obtain ⟨b1, b2, b3⟩ := hX j hj'
    have hT := rr_nIT (hE.2 i (by omega)).1 (hE.2 j hj').1
    have yes : rr_E bl ks os T od i j = true → wX_allMustBefore_33 post (wX_allMustBefore_4 post (nI j) ec fx sz ks os hi et ek eo mb kb oc pa nt fo m) (nI j) v (nI i) ec fx sz ks os hi et ek eo mb kb oc pa nt fo := by
      intro he
      refine ⟨vi, nm_r (show _ = v ||| (mb i ||| ((1 : Int32) <<< (nI i &&& 31))) by rw [ci]) (nm_r (nI_1 i) (ih _ (fun b hb => ?_)))⟩
      rw [b_or, b_or, rr_bshl (by omega) hb, hM i hil b hb, Bool.or_eq_true, Bool.or_eq_true, h1 b hb, decide_eq_true_iff]
      constructor
      · rintro (⟨a, x, y⟩ | z | z)
        · exact ⟨a, by omega, y⟩
        · exact ⟨i, by omega, he, Or.inr z⟩
        · exact ⟨i, by omega, he, Or.inl z⟩
      · rintro ⟨a, x, y, z⟩
        rcases Nat.decEq a i with w | w
        · exact Or.inl ⟨a, by omega, y, z⟩
        · subst w
          rcases z with z | z
          · exact Or.inr (Or.inr z)
          · exact Or.inr (Or.inl z)
    have no : rr_E bl ks os T od i j = false → wX_allMustBefore_4 post (nI j) ec fx sz ks os hi et ek eo mb kb oc pa nt fo m v (nI (i + 1)) := by
      intro he
      refine ih _ (fun b hb => ?_)
      rw [h1 b hb]
      constructor
      · rintro ⟨a, x, y⟩; exact ⟨a, by omega, y⟩
      · rintro ⟨a, x, y, z⟩
        rcases Nat.decEq a i with w | w
        · exact ⟨a, by omega, y, z⟩
        · subst w; rw [he] at y; cases y
    refine br_f (nI_ge hil (by omega)) ⟨vi, vj, ?_⟩
    rw [ci, cj, a1, b1]
    by_cases t : T i = T j
    · exact br_t (hT.mpr t) (yes (by unfold rr_E; rw [decide_eq_true t]; rfl))
    · refine br_f (fun z => t (hT.mp z)) (xs_conf hE hX (by omega) hj' (rr_bd (fun z => nm_r (nI_1 i) (no ?_)) (fun z => yes ?_)))
      · unfold rr_E; rw [decide_eq_false t, hbl]; exact z
      · unfold rr_E; rw [decide_eq_false t, hbl]; exact z
theorem xs_bef_Known (bl : Bool) (hbl : bl = true) (hE : rr_Ev n T od) (hX : rr_Xe n ks os T od et ek eo) (hj' : j < n) (hM : ∀ a, a < j → ∀ b, b < 32 → bt (kb a) b = rr_P (rr_E bl ks os T od) 8 b a) {post : Int32 → Prop}
    (H : ∀ v, (∀ b, b < 32 → bt v b = rr_P (rr_E bl ks os T od) 8 b j) → post v) : wpX_allKnownBefore post (ec, fx, sz, ks, os, hi, et, ek, eo, mb, kb, oc, pa, nt, fo) (nI j) := by
  have n8 := hE.1
  have vj : vp_in (nI j) 8 := pk_in j 8 (by omega) rfl
  have cj : (nI j).toNatClampNeg = j := nI_clamp (by omega)
  refine loop_0 (fun n i (v : Int32) => wX_allKnownBefore_4 post (nI j) ec fx sz ks os hi et ek eo mb kb oc pa nt fo n v (nI i)) (fun i v => ∀ b, b < 32 → (bt v b = true ↔ ∃ a, a < i ∧ rr_E bl ks os T od a j = true ∧ (b = a ∨ rr_P (rr_E bl ks os T od) 8 b a = true))) j 0 (fun b hb => ?_) ?_ ?_
  · rw [b_0]
    exact ⟨(fun z => by cases z), fun ⟨a, ha, _⟩ => by omega⟩
  · intro n v h1
    refine br_t (nI_le (Nat.le_refl _) (by omega)) (H v (fun b hb => ?_))
    have := (h1 b hb).trans (rr_P_iff (E := rr_E bl ks os T od) (i := b) (j := j) (by omega)).symm
    rcases z : rr_P (rr_E bl ks os T od) 8 b j with _ | _
    · rcases y : bt v b with _ | _
      · rfl
      · rw [z] at this; exact absurd (this.mp y) (by decide)
    · exact this.mpr z
  · intro m i v hil h1 ih
    have vi : vp_in (nI i) 8 := pk_in i 8 (by omega) rfl
    have ci : (nI i).toNatClampNeg = i := nI_clamp (by omega)
    obtain ⟨a1, a2, a3⟩ := hX i (by omega)
    obtain ⟨b1, b2, b3⟩ := hX j hj'
    have hT := rr_nIT (hE.2 i (by omega)).1 (hE.2 j hj').1
    have yes : rr_E bl ks os T od i j = true → wX_allKnownBefore_33 post (wX_allKnownBefore_4 post (nI j) ec fx sz ks os hi et ek eo mb kb oc pa nt fo m) (nI j) v (nI i) ec fx sz ks os hi et ek eo mb kb oc pa nt fo := by
      intro he
      refine ⟨vi, nm_r (show _ = v ||| (kb i ||| ((1 : Int32) <<< (nI i &&& 31))) by rw [ci]) (nm_r (nI_1 i) (ih _ (fun b hb => ?_)))⟩
      rw [b_or, b_or, rr_bshl (by omega) hb, hM i hil b hb, Bool.or_eq_true, Bool.or_eq_true, h1 b hb, decide_eq_true_iff]
      constructor
      · rintro (⟨a, x, y⟩ | z | z)
        · exact ⟨a, by omega, y⟩
        · exact ⟨i, by omega, he, Or.inr z⟩
        · exact ⟨i, by omega, he, Or.inl z⟩
      · rintro ⟨a, x, y, z⟩
        rcases Nat.decEq a i with w | w
        · exact Or.inl ⟨a, by omega, y, z⟩
        · subst w
          rcases z with z | z
          · exact Or.inr (Or.inr z)
          · exact Or.inr (Or.inl z)
    have no : rr_E bl ks os T od i j = false → wX_allKnownBefore_4 post (nI j) ec fx sz ks os hi et ek eo mb kb oc pa nt fo m v (nI (i + 1)) := by
      intro he
      refine ih _ (fun b hb => ?_)
      rw [h1 b hb]
      constructor
      · rintro ⟨a, x, y⟩; exact ⟨a, by omega, y⟩
      · rintro ⟨a, x, y, z⟩
        rcases Nat.decEq a i with w | w
        · exact ⟨a, by omega, y, z⟩
        · subst w; rw [he] at y; cases y
    refine br_f (nI_ge hil (by omega)) ⟨vi, vj, ?_⟩
    rw [ci, cj, a1, b1]
    by_cases t : T i = T j
    · exact br_t (hT.mpr t) (yes (by unfold rr_E; rw [decide_eq_true t]; rfl))
    · refine br_f (fun z => t (hT.mp z)) (xs_hand hE hX (by omega) hj' (rr_bd (fun z => nm_r (nI_1 i) (no ?_)) (fun z => yes ?_)))
      · unfold rr_E; rw [decide_eq_false t, hbl]; exact z
      · unfold rr_E; rw [decide_eq_false t, hbl]; exact z
end
