def rr_left (sz r : Nat → Int32) : Int32 := 8 * (8 * (8 * 0 + sz 0 - r 5) + sz 1 - r 6) + sz 2 - r 7
def rr_pt (sz r : Nat → Int32) (n : Nat) : Int32 := if n < 5 then r n else rr_left sz r
def rr_dead (sz : Nat → Int32) (o : Nat → Int32) : Bool := decide (¬ rr_left sz o ≤ 0)
def rr_dd (sz : Nat → Int32) (acc : List (Nat → Int32)) : Nat := acc.countP (rr_dead sz)
def rr_Fx (acc : List (Nat → Int32)) (fo : Nat → Int32) : Prop := ∀ k o, acc[k]? = some o → ∀ c, c < 8 → fo (8 * k + c) = o c
def rr_Fy (sz : Nat → Int32) (acc : List (Nat → Int32)) (fd : Nat → Int32) : Prop := ∀ k o, acc[k]? = some o → ∀ n, n < 6 → fd (6 * k + n) = rr_pt sz o n
def rr_Fo (S : Nat → Nat) (acc : List (Nat → Int32)) : Prop := ∀ o, o ∈ acc → ∃ p, rr_Rk S o p
section
variable {sz ks os : Nat → Int32} {S p p' : Nat → Nat} {r o : Nat → Int32} {acc : List (Nat → Int32)}
theorem rr_left_N (hP : rr_Pg sz ks os S) (hR : rr_Rk S r p) : rr_left sz r = nI (8 * (8 * (S 0 - p 0) + (S 1 - p 1)) + (S 2 - p 2)) := by
  have a0 := hP.1 0 (by omega)
  have a1 := hP.1 1 (by omega)
  have a2 := hP.1 2 (by omega)
  have b0 : r 5 = nI (p 0) ∧ p 0 ≤ S 0 := hR.1 0 (by omega)
  have b1 : r 6 = nI (p 1) ∧ p 1 ≤ S 1 := hR.1 1 (by omega)
  have b2 : r 7 = nI (p 2) ∧ p 2 ≤ S 2 := hR.1 2 (by omega)
  unfold rr_left
  rw [a0.1, a1.1, a2.1, b0.1, b1.1, b2.1, show (8 : Int32) * 0 = nI 0 from rfl, show (8 : Int32) = nI 8 from rfl, nI_add, pk_sub (by omega), pk_mul, nI_add, pk_sub (by omega), pk_mul, nI_add, pk_sub (by omega)]
  exact congrArg nI (by omega)
theorem rr_pt_same (hP : rr_Pg sz ks os S) (hR : rr_Rk S r p) (hO : rr_Rk S o p') : (∀ n, n < 6 → rr_pt sz o n = rr_pt sz r n) ↔ rr_same o r = true := by
  rw [rr_same_t]
  have s0 := rr_S4 hP (show 0 < 3 by omega)
  have s1 := rr_S4 hP (show 1 < 3 by omega)
  have s2 := rr_S4 hP (show 2 < 3 by omega)
  have b0 := hR.1 0 (by omega)
  have b1 := hR.1 1 (by omega)
  have b2 := hR.1 2 (by omega)
  have d0 := hO.1 0 (by omega)
  have d1 := hO.1 1 (by omega)
  have d2 := hO.1 2 (by omega)
  constructor
  · intro h
    have h5 : rr_left sz o = rr_left sz r := h 5 (by omega)
    rw [rr_left_N hP hR, rr_left_N hP hO, nI_eq (by omega) (by omega)] at h5
    have q0 : p' 0 = p 0 := by omega
    have q1 : p' 1 = p 1 := by omega
    have q2 : p' 2 = p 2 := by omega
    intro c hc
    rcases Nat.lt_or_ge c 5 with z | z
    · have := h c (by omega)
      unfold rr_pt at this
      rw [if_pos z, if_pos z] at this; exact this
    · rcases (show c = 5 + 0 ∨ c = 5 + 1 ∨ c = 5 + 2 by omega) with rfl | rfl | rfl
      · rw [b0.1, d0.1, q0]
      · rw [b1.1, d1.1, q1]
      · rw [b2.1, d2.1, q2]
  · intro h n hn
    unfold rr_pt rr_left
    rw [h n (by omega), h 5 (by omega), h 6 (by omega), h 7 (by omega)]
theorem rr_note_t (h : acc.any (fun o => rr_same o r) = true) : rr_note acc r = acc := if_pos h
theorem rr_note_f (h : ¬ acc.any (fun o => rr_same o r) = true) : rr_note acc r = acc ++ [r] := if_neg h
theorem rr_Fo_note (h : rr_Fo S acc) (hR : rr_Rk S r p) : rr_Fo S (rr_note acc r) := by
  by_cases z : acc.any (fun o => rr_same o r) = true
  · rw [rr_note_t z]; exact h
  · rw [rr_note_f z]
    intro o ho
    rcases List.mem_append.mp ho with y | y
    · exact h o y
    · rw [List.mem_singleton.mp y]; exact ⟨p, hR⟩
theorem rr_app {k : Nat} (h : (acc ++ [r])[k]? = some o) : (k < acc.length ∧ acc[k]? = some o) ∨ (k = acc.length ∧ o = r) := by
  rcases Nat.lt_or_ge k acc.length with z | z
  · rw [List.getElem?_append_left z] at h; exact Or.inl ⟨z, h⟩
  · rw [List.getElem?_append_right z] at h
    rcases Nat.decEq k acc.length with y | y
    · rw [List.getElem?_eq_none (by simp; omega)] at h; cases h
    · subst y
      rw [Nat.sub_self] at h
      exact Or.inr ⟨rfl, (Option.some.inj h).symm⟩
end
section
variable {cn fy dy : Int32} {ks os sz bg va rg ho pl dn ol rl sm kp tr fd : Nat → Int32}
variable {S p : Nat → Nat} {r : Nat → Int32} {acc : List (Nat → Int32)}
theorem ys_left (hY : rr_Yr r va rg ho pl) {post : Int32 → Prop} (h : post (rr_left sz r)) : wpY_leftOver post (cn, fy, dy, ks, os, sz, bg, va, rg, ho, pl, dn, ol, rl, sm, kp, tr, fd) := by
  have v0 : vp_in (nI 0) 3 := pk_in 0 3 (by omega) rfl
  have v1 : vp_in (nI 1) 3 := pk_in 1 3 (by omega) rfl
  have v2 : vp_in (nI 2) 3 := pk_in 2 3 (by omega) rfl
  have c0 : (nI 0).toNatClampNeg = 0 := nI_clamp (by omega)
  have c1 : (nI 1).toNatClampNeg = 1 := nI_clamp (by omega)
  have c2 : (nI 2).toNatClampNeg = 2 := nI_clamp (by omega)
  have p0 : pl 0 = r 5 := (hY.2.1 0 (by omega)).2
  have p1 : pl 1 = r 6 := (hY.2.1 1 (by omega)).2
  have p2 : pl 2 = r 7 := (hY.2.1 2 (by omega)).2
  have s2 : ∀ x, post (8 * x + sz 2 - r 7) → wY_leftOver_4 post cn fy dy ks os sz bg va rg ho pl dn ol rl sm kp tr fd 2 x (nI 2) := fun x h => br_f (rr_lt3 (by omega)) ⟨v2, v2, nm_r (show _ = 8 * x + sz 2 - r 7 by rw [c2, p2]) (nm_r (nI_1 2) (br_t (by decide) h))⟩
  have s1 : ∀ x, post (8 * (8 * x + sz 1 - r 6) + sz 2 - r 7) → wY_leftOver_4 post cn fy dy ks os sz bg va rg ho pl dn ol rl sm kp tr fd 3 x (nI 1) := fun x h => br_f (rr_lt3 (by omega)) ⟨v1, v1, nm_r (show _ = 8 * x + sz 1 - r 6 by rw [c1, p1]) (nm_r (nI_1 1) (s2 _ h))⟩
  have s0 : ∀ x, post (8 * (8 * (8 * x + sz 0 - r 5) + sz 1 - r 6) + sz 2 - r 7) → wY_leftOver_4 post cn fy dy ks os sz bg va rg ho pl dn ol rl sm kp tr fd 4 x (nI 0) := fun x h => br_f (rr_lt3 (by omega)) ⟨v0, v0, nm_r (show _ = 8 * x + sz 0 - r 5 by rw [c0, p0]) (nm_r (nI_1 0) (s1 _ h))⟩
  exact ⟨4, s0 0 h⟩
theorem ys_part (hY : rr_Yr r va rg ho pl) {n : Nat} (hn : n < 6) {post : Int32 → Prop} (h : post (rr_pt sz r n)) : wpY_part post (cn, fy, dy, ks, os, sz, bg, va, rg, ho, pl, dn, ol, rl, sm, kp, tr, fd) (nI n) := by
  unfold rr_pt at h
  rcases Nat.lt_or_ge n 2 with z | z
  · rw [if_pos (by omega)] at h
    refine br_f (nI_ge (b := 2) z (by decide)) ⟨pk_in n 2 z rfl, ?_⟩
    rw [nI_clamp (by omega), hY.1 n z]; exact h
  · refine br_t (nI_le (a := 2) z (by omega)) ?_
    rcases Nat.lt_or_ge n 5 with y | y
    · rw [if_pos y] at h
      have e1 : nI n - 2 = nI (n - 2) := pk_sub z
      refine br_f (nI_ge (b := 5) y (by decide)) ⟨pk_in (n - 2) 3 (by omega) e1, ?_⟩
      rw [e1, nI_clamp (by omega), (hY.2.1 (n - 2) (by omega)).1, show 2 + (n - 2) = n by omega]; exact h
    · rw [if_neg (by omega)] at h
      exact br_t (nI_le (a := 5) y (by omega)) (ys_left hY h)
theorem ys_n14 (hY : rr_Yr r va rg ho pl) {k : Nat} (hk : k < 700) {post : SY → Prop} {J : Int32 → Prop} : ∀ j i b, i + j = 6 → ((b = true ∧ ∀ n, i ≤ n → n < 6 → fd (6 * k + n) = rr_pt sz r n) → post (cn, fy, dy, ks, os, sz, bg, va, rg, ho, pl, dn, ol, rl, sm, kp, tr, fd)) → (¬ (b = true ∧ ∀ n, i ≤ n → n < 6 → fd (6 * k + n) = rr_pt sz r n) → J (nI (k + 1))) → wY_note_14 post J (nI k) cn fy dy ks os sz bg va rg ho pl dn ol rl sm kp tr fd (j + 1) (rr_b b) (nI i) := by
  intro j
  induction j with
  | zero =>
    intro i b hi h1 h2
    obtain rfl : i = 6 := by omega
    refine br_t (show (6 : Int32) ≤ nI 6 by decide) (rr_bd (fun z => nm_r (nI_1 k) (h2 (fun y => by rw [z] at y; cases y.1))) (fun z => h1 ⟨z, fun n h3 h4 => by omega⟩))
  | succ j ih =>
    intro i b hi h1 h2
    refine br_f (nI_ge (b := 6) (by omega) (by decide)) (ys_part hY (by omega) (rr_bd (fun z => nm_r (nI_1 i) ?_) (fun z => ?_)))
    · exact ih (i + 1) false (by omega) (fun y => by cases y.1) (fun _ => h2 (fun y => by rw [z] at y; cases y.1))
    · have e1 : 6 * nI k + nI i = nI (6 * k + i) := by rw [show (6 : Int32) = nI 6 from rfl, pk_mul, nI_add]
      refine ⟨pk_in _ _ (by omega) e1, ?_⟩
      rw [e1, nI_clamp (by omega)]
      by_cases q : fd (6 * k + i) = rr_pt sz r i
      · refine br_t q (nm_r (nI_1 i) (ih (i + 1) true (by omega) (fun y => h1 ⟨z, fun n h3 h4 => ?_⟩) (fun y => h2 (fun w => y ⟨rfl, fun n h3 h4 => w.2 n (by omega) h4⟩))))
        rcases Nat.decEq n i with v | v
        · exact y.2 n (by omega) h4
        · rw [v]; exact q
      · exact br_f q (nm_r (nI_1 i) (ih (i + 1) false (by omega) (fun y => by cases y.1) (fun _ => h2 (fun w => q (w.2 i (by omega) (by omega))))))
theorem ys_note (hP : rr_Pg sz ks os S) (hR : rr_Rk S r p) (hY : rr_Yr r va rg ho pl) (hF : rr_Fy sz acc fd) (hO : rr_Fo S acc) (hn : acc.length < 700) {post : SY → Prop}
    (H : ∀ fd', rr_Fy sz (rr_note acc r) fd' → post (cn, nI (rr_note acc r).length, nI (rr_dd sz (rr_note acc r)), ks, os, sz, bg, va, rg, ho, pl, dn, ol, rl, sm, kp, tr, fd')) : wpY_note post (cn, nI acc.length, nI (rr_dd sz acc), ks, os, sz, bg, va, rg, ho, pl, dn, ol, rl, sm, kp, tr, fd) := by
  have key : ∀ j k, k + j = acc.length → (∀ i o, i < k → acc[i]? = some o → ¬ rr_same o r = true) → wY_note_2 post cn (nI acc.length) (nI (rr_dd sz acc)) ks os sz bg va rg ho pl dn ol rl sm kp tr fd (j + 1) (nI k) := by
    intro j
    induction j with
    | zero =>
      intro k hk hs
      obtain rfl : k = acc.length := by omega
      have hf : ¬ acc.any (fun o => rr_same o r) = true := by
        intro z
        obtain ⟨o, ho, h⟩ := List.any_eq_true.mp z
        obtain ⟨i, hi, e⟩ := List.getElem_of_mem ho
        exact hs i o hi (by rw [List.getElem?_eq_getElem hi, e]) h
      refine br_t (nI_le (Nat.le_refl _) (by omega)) ?_
      rw [rr_note_f hf] at H
      refine loop_0 (fun n i a => wY_note_72 post cn (nI acc.length) (nI (rr_dd sz acc)) n (nI i) ks os sz bg va rg ho pl dn ol rl sm kp tr a) (fun i a => (∀ c, c < i → a (6 * acc.length + c) = rr_pt sz r c) ∧ ∀ j, j < 6 * acc.length → a j = fd j) 6 fd ⟨fun c hc => by omega, fun j _ => rfl⟩ ?_ ?_
      · intro n a ⟨h1, h2⟩
        have hF' : rr_Fy sz (acc ++ [r]) a := by
          intro k o ho n hn
          rcases rr_app ho with ⟨z, y⟩ | ⟨z, y⟩
          · rw [h2 _ (by omega)]; exact hF k o y n hn
          · rw [z, y]; exact h1 n hn
        have hl : (acc ++ [r]).length = acc.length + 1 := by simp
        have := H a hF'
        rw [hl] at this
        refine br_t (show (6 : Int32) ≤ nI 6 by decide) (nm_r (nI_1 acc.length) (ys_left hY ?_))
        have hd : rr_dd sz (acc ++ [r]) = rr_dd sz acc + if rr_dead sz r = true then 1 else 0 := by
          unfold rr_dd; rw [List.countP_append, List.countP_singleton]
        rw [hd] at this
        by_cases z : rr_left sz r ≤ 0
        · rw [if_neg (by unfold rr_dead; rw [decide_eq_false (fun y => y z)]; decide)] at this
          exact br_t z this
        · rw [if_pos (show rr_dead sz r = true from decide_eq_true z)] at this
          exact br_f z (nm_r (nI_1 _) this)
      · intro n i a hil ⟨h1, h2⟩ ih
        have e1 : 6 * nI acc.length + nI i = nI (6 * acc.length + i) := by rw [show (6 : Int32) = nI 6 from rfl, pk_mul, nI_add]
        refine br_f (nI_ge (b := 6) hil (by decide)) (ys_part hY hil ⟨pk_in _ _ (by omega) e1, nm_r (show _ = upd a (6 * acc.length + i) (rr_pt sz r i) by rw [e1, nI_clamp (by omega)]) (nm_r (nI_1 i) (ih _ ⟨fun c hc => ?_, fun j hj => ?_⟩))⟩)
        · rcases Nat.decEq c i with z | z
          · rw [pk_un (by omega)]; exact h1 c (by omega)
          · rw [z, pk_us]
        · rw [pk_un (by omega)]; exact h2 j hj
    | succ j ih =>
      intro k hk hs
      have hkl : k < acc.length := by omega
      obtain ⟨o, ho⟩ : ∃ o, acc[k]? = some o := ⟨_, List.getElem?_eq_getElem hkl⟩
      obtain ⟨p', hO'⟩ := hO o (List.mem_of_getElem? ho)
      have iff := rr_pt_same hP hR hO'
      have fe : (∀ n, 0 ≤ n → n < 6 → fd (6 * k + n) = rr_pt sz r n) ↔ rr_same o r = true := by
        rw [← iff]
        exact ⟨fun h n hn => by rw [← hF k o ho n hn]; exact h n (by omega) hn, fun h n _ hn => by rw [hF k o ho n hn]; exact h n hn⟩
      refine br_f (nI_ge hkl (by omega)) ⟨7, ys_n14 hY (by omega) 6 0 true (by omega) (fun h => ?_) (fun h => ?_)⟩
      · have hs := fe.mp h.2
        have ha : acc.any (fun o => rr_same o r) = true := List.any_eq_true.mpr ⟨o, List.mem_of_getElem? ho, hs⟩
        rw [rr_note_t ha] at H
        exact H fd hF
      · refine ih (k + 1) (by omega) (fun i o' hi ho' => ?_)
        rcases Nat.decEq i k with z | z
        · exact hs i o' (by omega) ho'
        · rw [z, ho] at ho'
          rw [← Option.some.inj ho']
          exact fun y => h ⟨rfl, fe.mpr y⟩
  exact ⟨acc.length + 1, key acc.length 0 (by omega) (fun i o hi => by omega)⟩
end
