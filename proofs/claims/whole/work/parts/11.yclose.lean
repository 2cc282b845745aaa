theorem rr_nar0 : vp_nar .boolean 0 = 0 := by rfl
theorem rr_nar1 : vp_nar .boolean 1 = 1 := by rfl
theorem rr_narb (b : Bool) : vp_nar .boolean (rr_b b) = rr_b b := by cases b <;> rfl
section
variable {cn fy dy : Int32} {ks os sz bg va rg ho pl dn ol rl sm kp tr fd : Nat → Int32}
variable {T od : Nat → Nat} {n i j : Nat} {S : Nat → Nat}
theorem ys_cf0 {x3 x4 : Int32} {post : Int32 → Prop} (h : post 0) : wY_conflict_74 post x3 x4 0 cn fy dy ks os sz bg va rg ho pl dn ol rl sm kp tr fd := by
  have a : wY_conflict_102 post x3 x4 0 cn fy dy ks os sz bg va rg ho pl dn ol rl sm kp tr fd := br_t rfl h
  have b : wY_conflict_98 post x3 x4 0 cn fy dy ks os sz bg va rg ho pl dn ol rl sm kp tr fd := br_t rfl h
  exact br_c (fun _ => a) (fun _ => br_c (fun _ => a) (fun _ => br_c (fun _ => b) (fun _ => br_c (fun _ => b) (fun _ => a))))
theorem ys_cf1 {x3 x4 : Int32} {post : Int32 → Prop} (h : post (rr_b (rr_cfy x3 x4))) : wY_conflict_74 post x3 x4 1 cn fy dy ks os sz bg va rg ho pl dn ol rl sm kp tr fd := by
  unfold rr_cfy at h
  have a : (decide (¬ 2 ≤ x3) && decide (¬ 2 ≤ x4) && (decide (x3 = 1) || decide (x4 = 1))) = false → wY_conflict_102 post x3 x4 1 cn fy dy ks os sz bg va rg ho pl dn ol rl sm kp tr fd := by
    intro z
    rw [z] at h
    refine br_f (by decide) (br_t rfl ?_)
    by_cases p : x3 ≤ 2
    · rw [decide_eq_false (fun y => y p)] at h; exact br_t p h
    · refine br_f p ?_
      rw [decide_eq_true p] at h
      by_cases q : x4 ≤ 2
      · rw [decide_eq_false (fun y => y q)] at h; exact br_t q h
      · rw [decide_eq_true q] at h; exact br_f q h
  have b : (decide (¬ 2 ≤ x3) && decide (¬ 2 ≤ x4) && (decide (x3 = 1) || decide (x4 = 1))) = true → wY_conflict_98 post x3 x4 1 cn fy dy ks os sz bg va rg ho pl dn ol rl sm kp tr fd := by
    intro z
    rw [z] at h
    exact br_f (by decide) (br_f (by decide) h)
  by_cases p : 2 ≤ x3
  · exact br_t p (a (by simp [p]))
  · refine br_f p ?_
    by_cases q : 2 ≤ x4
    · exact br_t q (a (by simp [q]))
    · refine br_f q ?_
      by_cases r : x3 = 1
      · refine br_t r (b ?_)
        rw [decide_eq_true p, decide_eq_true q, decide_eq_true r]; rfl
      · refine br_f r ?_
        by_cases s : x4 = 1
        · refine br_t s (b ?_)
          rw [decide_eq_true p, decide_eq_true q, decide_eq_true s]; simp
        · refine br_f s (a ?_)
          rw [decide_eq_false r, decide_eq_false s]; simp
theorem ys_div (hE : rr_Ev n T od) (hD : rr_Ye n od dn) (hi : i < n) : dn (nI i).toNatClampNeg / 4 = nI (T i) ∧ vp_in (dn (nI i).toNatClampNeg) 12 ∧ (dn (nI i).toNatClampNeg).toNatClampNeg = od i := by
  have n8 := hE.1
  obtain ⟨a, b, c⟩ := hE.2 i hi
  rw [nI_clamp (by omega), hD i hi]
  refine ⟨?_, pk_in _ _ b rfl, nI_clamp (by omega)⟩
  rw [show (4 : Int32) = nI 4 from rfl, pk_div (by omega) (by omega) (by omega), c]
theorem ys_conf (hP : rr_Pg sz ks os S) (hE : rr_Ev n T od) (hD : rr_Ye n od dn) (hi : i < n) (hj : j < n) {post : Int32 → Prop} (h : post (rr_b (rr_cf ks os T od i j))) : wpY_conflict post (cn, fy, dy, ks, os, sz, bg, va, rg, ho, pl, dn, ol, rl, sm, kp, tr, fd) (nI i) (nI j) := by
  have n8 := hE.1
  have vi : vp_in (nI i) 8 := pk_in i 8 (by omega) rfl
  have vj : vp_in (nI j) 8 := pk_in j 8 (by omega) rfl
  obtain ⟨a1, a2, a3⟩ := ys_div hE hD hi
  obtain ⟨b1, b2, b3⟩ := ys_div hE hD hj
  have hT := rr_nIT (hE.2 i hi).1 (hE.2 j hj).1
  obtain ⟨k1, hk1, e1, _⟩ := hP.2.2 (od i) (hE.2 i hi).2.1
  obtain ⟨k2, hk2, e2, _⟩ := hP.2.2 (od j) (hE.2 j hj).2.1
  unfold rr_cf at h
  rw [e1, e2, rr_cfe k1 (by omega) k2 (by omega), ← e1, ← e2] at h
  refine ⟨vi, a2, nm_r (congrArg ks a3) ⟨vj, b2, nm_r (congrArg ks b3) ⟨vi, a2, vj, b2, ?_⟩⟩⟩
  rw [a1, b1, a3, b3]
  by_cases o : os (od i) = os (od j)
  · rw [decide_eq_true o] at h
    refine br_t o ⟨vi, by decide, vj, by decide, ?_⟩
    by_cases t : T i = T j
    · rw [decide_eq_true t] at h; exact br_t (hT.mpr t) (ys_cf0 h)
    · rw [decide_eq_false t] at h; exact br_f (fun z => t (hT.mp z)) (ys_cf1 h)
  · rw [decide_eq_false o] at h
    refine br_f o (ys_cf0 ?_)
    rw [Bool.false_and, Bool.and_false] at h; exact h
theorem ys_lock (hE : rr_Ev n T od) (hD : rr_Ye n od dn) (hi : i < n) {post : Int32 → Prop} (h : post (rr_b (decide (¬ ks (od i) ≤ 2)))) : wpY_isOfLock post (cn, fy, dy, ks, os, sz, bg, va, rg, ho, pl, dn, ol, rl, sm, kp, tr, fd) (nI i) := by
  have n8 := hE.1
  have vi : vp_in (nI i) 8 := pk_in i 8 (by omega) rfl
  obtain ⟨a1, a2, a3⟩ := ys_div hE hD hi
  refine ⟨vi, a2, ?_⟩
  rw [a3]
  by_cases z : ks (od i) ≤ 2
  · rw [decide_eq_false (fun y => y z)] at h; exact br_t z h
  · rw [decide_eq_true z] at h; exact br_f z h
end
def rr_cell (E : Nat → Nat → Bool) (n k m : Nat) : Bool := decide (m % 8 < n) && rr_P E k (m / 8) (m % 8)
section
variable {cn fy dy : Int32} {ks os sz bg va rg ho pl dn ol sm kp tr fd : Nat → Int32}
variable {T od : Nat → Nat} {n : Nat} {S : Nat → Nat}
theorem ys_base (bl : Bool) (hP : rr_Pg sz ks os S) (hE : rr_Ev n T od) (hD : rr_Ye n od dn) {post : SY → Prop} {m N : Nat} (hm : m < 64) {rl : Nat → Int32}
    (H : wY_close_2 post (rr_b bl) (nI n) fy dy N (nI (m + 1)) ks os sz bg va rg ho pl dn ol (upd rl m (rr_b (rr_cell (rr_E bl ks os T od) n 0 m))) sm kp tr fd) : wY_close_2 post (rr_b bl) (nI n) fy dy (N + 1) (nI m) ks os sz bg va rg ho pl dn ol rl sm kp tr fd := by
  have n8 := hE.1
  have cm : (nI m).toNatClampNeg = m := nI_clamp (by omega)
  have vm : vp_in (nI m) 64 := pk_in m 64 hm rfl
  have ed : nI m / 8 = nI (m / 8) := pk_div (d := 8) (by omega) (by omega) (by omega)
  have er : nI m - nI m / 8 * 8 = nI (m % 8) := pk_rem (d := 8) (by omega) (by omega) (by omega)
  have hc : rr_cell (rr_E bl ks os T od) n 0 m = (decide (m % 8 < n) && (decide (m / 8 < m % 8) && rr_E bl ks os T od (m / 8) (m % 8))) := rfl
  have s0 : ∀ b : Bool, rr_cell (rr_E bl ks os T od) n 0 m = b → ∀ x, x = rr_b b → (vp_in (nI m) 64 ∧ ∀ a, a = upd rl (nI m).toNatClampNeg (vp_nar .boolean x) → ∀ y, y = nI m + 1 → wY_close_2 post (rr_b bl) (nI n) fy dy N y ks os sz bg va rg ho pl dn ol a sm kp tr fd) := by
    intro b hb x hx
    refine ⟨vm, nm_r (show _ = upd rl m (rr_b (rr_cell (rr_E bl ks os T od) n 0 m)) by rw [cm, hx, rr_narb, hb]) (nm_r (nI_1 m) H)⟩
  have no : rr_cell (rr_E bl ks os T od) n 0 m = false → wY_close_38 post (wY_close_2 post (rr_b bl) (nI n) fy dy N) (rr_b bl) (nI m) (nI (m / 8)) (nI (m % 8)) (nI n) fy dy ks os sz bg va rg ho pl dn ol rl sm kp tr fd := by
    intro hb
    exact br_t rfl (br_t rfl (s0 false hb 0 rfl))
  refine br_f (nI_ge (b := 64) hm (by decide)) ⟨by decide, nm_r ed ⟨by decide, nm_r er ?_⟩⟩
  rcases Nat.lt_or_ge (m / 8) (m % 8) with h1 | h1
  · refine br_f (nI_ge h1 (by omega)) ?_
    rcases Nat.lt_or_ge (m % 8) n with h2 | h2
    · refine br_f (nI_ge h2 (by omega)) ?_
      generalize hi : m / 8 = i at *
      generalize hj : m % 8 = j at *
      have hin : i < n := by omega
      have vi : vp_in (nI i) 8 := pk_in i 8 (by omega) rfl
      have vj : vp_in (nI j) 8 := pk_in j 8 (by omega) rfl
      obtain ⟨a1, a2, a3⟩ := ys_div hE hD hin
      obtain ⟨b1, b2, b3⟩ := ys_div hE hD h2
      have hT := rr_nIT (hE.2 i hin).1 (hE.2 j h2).1
      have hc' : rr_cell (rr_E bl ks os T od) n 0 m = rr_E bl ks os T od i j := by rw [hc, decide_eq_true h2, decide_eq_true h1]; rfl
      have fin : ∀ z : Bool, z = rr_hv ks os od i j → wY_close_108 post (wY_close_2 post (rr_b bl) (nI n) fy dy N) (rr_b bl) (nI m) (nI i) (nI j) 1 (rr_b z) (nI n) fy dy ks os sz bg va rg ho pl dn ol rl sm kp tr fd := by
        intro z hz
        refine br_f (by decide) ⟨vi, by decide, vj, by decide, ?_⟩
        rw [a1, b1]
        by_cases t : T i = T j
        · exact br_t (hT.mpr t) (s0 true (by rw [hc']; unfold rr_E; rw [decide_eq_true t]; rfl) 1 rfl)
        · refine br_f (fun q => t (hT.mp q)) ?_
          cases bl with
          | false =>
            have hEc : rr_E false ks os T od i j = rr_cf ks os T od i j := by unfold rr_E; rw [decide_eq_false t]; rfl
            rw [hEc] at hc'
            exact br_t rfl (ys_conf hP hE hD hin h2 (rr_bd (fun y => s0 false (by rw [hc']; exact y) 0 rfl) (fun y => s0 true (by rw [hc']; exact y) 1 rfl)))
          | true =>
            have hEc : rr_E true ks os T od i j = rr_hv ks os od i j := by unfold rr_E; rw [decide_eq_false t]; rfl
            rw [hEc] at hc'
            exact br_f (by decide) (rr_bd (fun y => s0 false (by rw [hc', ← hz]; exact y) 0 rfl) (fun y => s0 true (by rw [hc', ← hz]; exact y) 1 rfl))
      refine br_f (by decide) ⟨vi, a2, ?_⟩
      rw [a3, b3]
      have nz : rr_hv ks os od i j = false → wY_close_107 post (wY_close_2 post (rr_b bl) (nI n) fy dy N) (rr_b bl) (nI m) (nI i) (nI j) 1 (nI n) fy dy ks os sz bg va rg ho pl dn ol rl sm kp tr fd := fun y => fin false y.symm
      by_cases p : ks (od i) = 4
      · refine br_t p ⟨vj, b2, ?_⟩
        by_cases q : ks (od j) = 3
        · refine br_t q ⟨vi, a2, vj, b2, ?_⟩
          by_cases o : os (od i) = os (od j)
          · exact br_t o (fin true (by unfold rr_hv; rw [decide_eq_true p, decide_eq_true q, decide_eq_true o]; rfl))
          · exact br_f o (nz (by unfold rr_hv; rw [decide_eq_false o]; simp))
        · exact br_f q (nz (by unfold rr_hv; rw [decide_eq_false q]; simp))
      · exact br_f p (nz (by unfold rr_hv; rw [decide_eq_false p]; simp))
    · exact br_t (nI_le h2 (by omega)) (no (by rw [hc, decide_eq_false (by omega)]; rfl))
  · exact br_t (nI_le h1 (by omega)) (no (by rw [hc, decide_eq_false (show ¬ m / 8 < m % 8 by omega)]; simp))
theorem ys_war {E : Nat → Nat → Bool} (n8 : n ≤ 8) {post : SY → Prop} {J : Int32 → (Nat → Int32) → (Nat → Int32) → (Nat → Int32) → (Nat → Int32) → (Nat → Int32) → (Nat → Int32) → (Nat → Int32) → (Nat → Int32) → (Nat → Int32) → (Nat → Int32) → (Nat → Int32) → (Nat → Int32) → (Nat → Int32) → (Nat → Int32) → (Nat → Int32) → Prop} {k : Nat} (hk : k < 8) {rl : Nat → Int32}
    (h0 : ∀ m, m < 64 → rl m = rr_b (rr_cell E n k m)) (H : ∀ a, (∀ m, m < 64 → a m = rr_b (rr_cell E n (k + 1) m)) → J (nI (k + 1)) ks os sz bg va rg ho pl dn ol a sm kp tr fd) : ∃ N, wY_close_184 post J (nI k) cn fy dy N 0 ks os sz bg va rg ho pl dn ol rl sm kp tr fd := by
  refine loop_0 (fun N m a => wY_close_184 post J (nI k) cn fy dy N (nI m) ks os sz bg va rg ho pl dn ol a sm kp tr fd) (fun m a => (∀ c, c < m → a c = rr_b (rr_cell E n (k + 1) c)) ∧ ∀ c, m ≤ c → c < 64 → a c = rr_b (rr_cell E n k c)) 64 rl ⟨fun c hc => by omega, fun c _ hc => h0 c hc⟩ ?_ ?_
  · intro N a ⟨h1, h2⟩
    exact br_t (show (64 : Int32) ≤ nI 64 by decide) (nm_r (nI_1 k) (H a h1))
  · intro N m a hm ⟨h1, h2⟩ ih
    have cm : (nI m).toNatClampNeg = m := nI_clamp (by omega)
    have vm : vp_in (nI m) 64 := pk_in m 64 hm rfl
    have er : nI m - nI m / 8 * 8 = nI (m % 8) := pk_rem (d := 8) (by omega) (by omega) (by omega)
    have ei : nI m - (nI m - nI m / 8 * 8) + nI k = nI (8 * (m / 8) + k) := by
      rw [er, pk_sub (by omega), nI_add]; exact congrArg nI (by omega)
    have ej : 8 * nI k + (nI m - nI m / 8 * 8) = nI (8 * k + m % 8) := by
      rw [er, show (8 : Int32) = nI 8 from rfl, pk_mul, nI_add]
    have st : ∀ b : Bool, rr_cell E n (k + 1) m = b → ∀ x, x = rr_b b → (vp_in (nI m) 64 ∧ ∀ a', a' = upd a (nI m).toNatClampNeg (vp_nar .boolean x) → ∀ y, y = nI m + 1 → wY_close_184 post J (nI k) cn fy dy N y ks os sz bg va rg ho pl dn ol a' sm kp tr fd) := by
      intro b hb x hx
      refine ⟨vm, nm_r (show _ = upd a m (rr_b b) by rw [cm, hx, rr_narb]) (nm_r (nI_1 m) (ih _ ⟨fun c hc => ?_, fun c h3 h4 => ?_⟩))⟩
      · rcases Nat.decEq c m with z | z
        · rw [pk_un z]; exact h1 c (by omega)
        · rw [z, pk_us, hb]
      · rw [pk_un (by omega)]; exact h2 c (by omega) h4
    have va1 : a (8 * (m / 8) + k) = rr_b (decide (k < n) && rr_P E k (m / 8) k) := by
      have e1 : (8 * (m / 8) + k) / 8 = m / 8 := by omega
      have e2 : (8 * (m / 8) + k) % 8 = k := by omega
      rcases Nat.lt_or_ge (8 * (m / 8) + k) m with z | z
      · rw [h1 _ z]; unfold rr_cell; rw [e1, e2, rr_P_row]
      · rw [h2 _ z (by omega)]; unfold rr_cell; rw [e1, e2]
    have va2 : a (8 * k + m % 8) = rr_b (decide (m % 8 < n) && rr_P E k k (m % 8)) := by
      have e1 : (8 * k + m % 8) / 8 = k := by omega
      have e2 : (8 * k + m % 8) % 8 = m % 8 := by omega
      rcases Nat.lt_or_ge (8 * k + m % 8) m with z | z
      · rw [h1 _ z]; unfold rr_cell; rw [e1, e2, rr_P_col]
      · rw [h2 _ z (by omega)]; unfold rr_cell; rw [e1, e2]
    have va0 : a m = rr_b (decide (m % 8 < n) && rr_P E k (m / 8) (m % 8)) := h2 m (Nat.le_refl m) hm
    have hc : rr_cell E n (k + 1) m = (decide (m % 8 < n) && (rr_P E k (m / 8) (m % 8) || (rr_P E k (m / 8) k && rr_P E k k (m % 8)))) := rfl
    refine br_f (nI_ge (b := 64) hm (by decide)) ⟨vm, ?_⟩
    rw [cm, va0]
    refine rr_bd (fun z => ⟨by decide, pk_in _ _ (by omega) ei, ?_⟩) (fun z => ?_)
    · rw [ei, nI_clamp (by omega), va1]
      refine rr_bd (fun y => ?_) (fun y => ⟨by decide, pk_in _ _ (by omega) ej, ?_⟩)
      · have : rr_cell E n (k + 1) m = false := by
          rw [hc]
          rcases q : rr_P E k k (m % 8) with _ | _
          · rw [Bool.and_false, Bool.or_false]; exact z
          · have := rr_P_lt k k (m % 8) q
            rcases Nat.lt_or_ge (m % 8) n with w | w
            · rw [decide_eq_true (show k < n by omega)] at y
              rw [decide_eq_true w] at z ⊢
              have y' : rr_P E k (m / 8) k = false := y
              have z' : rr_P E k (m / 8) (m % 8) = false := z
              rw [y', z']; rfl
            · rw [decide_eq_false (by omega)]; rfl
        have := st false this 0 rfl
        rw [cm] at this; exact this
      · rw [ej, nI_clamp (by omega), va2]
        have y1 : rr_P E k (m / 8) k = true := by
          rw [Bool.and_eq_true] at y; exact y.2
        refine rr_bd (fun w => ?_) (fun w => ?_)
        · have : rr_cell E n (k + 1) m = false := by
            rw [hc, y1, Bool.true_and]
            rcases Nat.lt_or_ge (m % 8) n with q | q
            · rw [decide_eq_true q] at w z ⊢
              have w' : rr_P E k k (m % 8) = false := w
              have z' : rr_P E k (m / 8) (m % 8) = false := z
              rw [w', z']; rfl
            · rw [decide_eq_false (by omega)]; rfl
          have := st false this 0 rfl
          rw [cm] at this; exact this
        · have : rr_cell E n (k + 1) m = true := by
            rw [Bool.and_eq_true] at w
            rw [hc, w.1, y1, w.2]; simp
          have := st true this 1 rfl
          rw [cm] at this; exact this
    · have : rr_cell E n (k + 1) m = true := by
        rw [Bool.and_eq_true] at z
        rw [hc, z.1, z.2]; rfl
      have := st true this 1 rfl
      rw [cm] at this; exact this
theorem ys_close (bl : Bool) (hP : rr_Pg sz ks os S) (hE : rr_Ev n T od) (hD : rr_Ye n od dn) {post : SY → Prop} {rl : Nat → Int32}
    (H : ∀ a, (∀ i, i < 8 → ∀ j, j < 8 → a (8 * i + j) = rr_b (decide (j < n) && rr_P (rr_E bl ks os T od) 8 i j)) → post (nI n, fy, dy, ks, os, sz, bg, va, rg, ho, pl, dn, ol, a, sm, kp, tr, fd)) : wpY_close post (nI n, fy, dy, ks, os, sz, bg, va, rg, ho, pl, dn, ol, rl, sm, kp, tr, fd) (rr_b bl) := by
  refine loop_0 (fun N m a => wY_close_2 post (rr_b bl) (nI n) fy dy N (nI m) ks os sz bg va rg ho pl dn ol a sm kp tr fd) (fun m a => ∀ c, c < m → a c = rr_b (rr_cell (rr_E bl ks os T od) n 0 c)) 64 rl (fun c hc => by omega) ?_ ?_
  · intro N a h0
    refine br_t (show (64 : Int32) ≤ nI 64 by decide) ?_
    refine loop_0 (fun N k a => wY_close_176 post (nI n) fy dy N (nI k) ks os sz bg va rg ho pl dn ol a sm kp tr fd) (fun k a => ∀ m, m < 64 → a m = rr_b (rr_cell (rr_E bl ks os T od) n k m)) 8 a h0 ?_ ?_
    · intro N a h1
      refine br_t (show (8 : Int32) ≤ nI 8 by decide) (H a (fun i hi j hj => ?_))
      rw [h1 _ (by omega)]; unfold rr_cell
      rw [show (8 * i + j) / 8 = i by omega, show (8 * i + j) % 8 = j by omega]
    · intro N k a hk h1 ih
      exact br_f (nI_ge (b := 8) hk (by decide)) (ys_war hE.1 hk h1 (fun a' h' => ih a' h'))
  · intro N m a hm h1 ih
    refine ys_base bl hP hE hD hm (ih _ (fun c hc => ?_))
    rcases Nat.decEq c m with z | z
    · rw [pk_un z]; exact h1 c (by omega)
    · rw [z, pk_us]
end
