theorem rr_b1b : ∀ i, i < 32 → bt (1 : Int32) i = decide (i = 0) := by decide +kernel
theorem rr_bit0 (y : Int32) : y &&& 1 = 1 ↔ bt y 0 = true := by
  constructor
  · intro h
    have : bt (y &&& 1) 0 = bt 1 0 := congrArg (fun z => bt z 0) h
    rw [b_and, rr_b1b 0 (by omega), decide_eq_true rfl, Bool.and_true] at this
    exact this
  · intro h
    refine b_ext (fun i hil => ?_)
    rw [b_and, rr_b1b i hil]
    rcases Nat.decEq i 0 with z | z
    · rw [decide_eq_false z, Bool.and_false]
    · rw [z, h]; rfl
theorem rr_bitb (x : Int32) {b : Nat} (hb : b < 32) : (x >>> (nI b &&& 31)) &&& 1 = 1 ↔ bt x b = true := by
  rw [rr_bit0, b_sshr b hb x (show 0 < 32 by omega), if_pos (by omega)]; exact Iff.rfl
theorem xs_cont {x : Int32} {b : Nat} (hb : b < 32) {post : Int32 → Prop} (h : post (rr_b (bt x b))) : wpX_contains post x (nI b) := by
  have q := rr_bitb x hb
  rcases z : bt x b with _ | _
  · rw [z] at h q; exact br_f (fun y => absurd (q.mp y) (by decide)) h
  · rw [z] at h q; exact br_t (q.mpr rfl) h
section
variable {ec fx : Int32} {sz ks os hi et ek eo mb kb oc pa nt fo : Nat → Int32}
variable {n : Nat}
theorem xs_ev_f {x : Int32} (hx : x < 0 ∨ nI n ≤ x) {post : Int32 → Prop} (h : post 0) : wpX_isEvent post (nI n, fx, sz, ks, os, hi, et, ek, eo, mb, kb, oc, pa, nt, fo) x := by
  by_cases z : x < 0
  · exact br_t z h
  · rcases hx with y | y
    · exact absurd y z
    · exact br_f z (br_t y h)
theorem xs_ev_t {i : Nat} (hil : i < n) (hn : n < 2 ^ 31) {post : Int32 → Prop} (h : post 1) : wpX_isEvent post (nI n, fx, sz, ks, os, hi, et, ek, eo, mb, kb, oc, pa, nt, fo) (nI i) := br_f (nI_pos (by omega)) (br_f (nI_ge hil hn) h)
end
section
variable {cn fy dy : Int32} {ks os sz bg va rg ho pl dn ol rl sm kp tr fd : Nat → Int32}
variable {n : Nat}
theorem ys_pair_f {x y : Int32} (hx : (x < 0 ∨ nI n ≤ x) ∨ (y < 0 ∨ nI n ≤ y)) {post : Int32 → Prop} (h : post 0) : wpY_isPair post (nI n, fy, dy, ks, os, sz, bg, va, rg, ho, pl, dn, ol, rl, sm, kp, tr, fd) x y := by
  refine br_c (fun _ => h) (fun a => br_c (fun _ => h) (fun b => br_c (fun _ => h) (fun c => br_c (fun _ => h) (fun d => ?_))))
  rcases hx with (z | z) | (z | z)
  · exact absurd z a
  · exact absurd z c
  · exact absurd z b
  · exact absurd z d
theorem ys_pair_t {i j : Nat} (hil : i < n) (hj : j < n) (hn : n < 2 ^ 31) {post : Int32 → Prop} (h : post 1) : wpY_isPair post (nI n, fy, dy, ks, os, sz, bg, va, rg, ho, pl, dn, ol, rl, sm, kp, tr, fd) (nI i) (nI j) :=
  br_f (nI_pos (by omega)) (br_f (nI_pos (by omega)) (br_f (nI_ge hil hn) (br_f (nI_ge hj hn) h)))
end
theorem rr_ixr (i j : Nat) : 8 * nI i + nI j = nI (8 * i + j) := by rw [show (8 : Int32) = nI 8 from rfl, pk_mul, nI_add]
theorem i_vc_must {k : Nat} {u : SX} {v : SY} (I : i_Rel k u v) (hk : k + 4 ≤ 2048) (v1 : Int32) (v2 : Int32) : wpX_must (fun r => wpY_must (fun r' v' => r' = r ∧ i_Rel (k + 4) u v') v v1 v2) u v1 v2 := by
  obtain ⟨S, T, n, B, fx, fy, dy, sz, ks, os, hi, et, ek, eo, mb, kb, oc, pa, nt, fo, bg, va, rg, ho, pl, dn, ol, rl, sm, kp, tr, fd, rfl, rfl, hG, hX, hY⟩ := I
  unfold wpX_must wpY_must
  have n8 := rr_Go_8 hG (Nat.le_refl n)
  have fin : ∀ r : Int32, ((v1 < 0 ∨ nI n ≤ v1) ∨ (v2 < 0 ∨ nI n ≤ v2) → r = 0) → (∀ i j, i < n → j < n → v1 = nI i → v2 = nI j → r = rr_b (rr_P (rr_E false ks os T (rr_od ks os B T)) 8 i j)) → wpY_must (fun r' v' => r' = r ∧ i_Rel (k + 4) (nI n, fx, sz, ks, os, hi, et, ek, eo, mb, kb, oc, pa, nt, fo) v') (nI n, fy, dy, ks, os, sz, bg, va, rg, ho, pl, dn, ol, rl, sm, kp, tr, fd) v1 v2 := by
    intro r h0 h1
    unfold wpY_must
    refine ys_close false hG.1 (rr_Ev_of hG) (rr_Ye_of hY) (fun a ha => ?_)
    have same : i_Rel (k + 4) (nI n, fx, sz, ks, os, hi, et, ek, eo, mb, kb, oc, pa, nt, fo) (nI n, fy, dy, ks, os, sz, bg, va, rg, ho, pl, dn, ol, a, sm, kp, tr, fd) := rr_mk hG hX hY
    rcases pk_ix v1 (n := n) (by omega) with h | h | ⟨i, hil, e1⟩
    · exact ys_pair_f (Or.inl (Or.inl h)) (br_t rfl ⟨(h0 (Or.inl (Or.inl h))).symm, same⟩)
    · exact ys_pair_f (Or.inl (Or.inr h)) (br_t rfl ⟨(h0 (Or.inl (Or.inr h))).symm, same⟩)
    · rcases pk_ix v2 (n := n) (by omega) with h | h | ⟨j, hj, e2⟩
      · exact ys_pair_f (Or.inr (Or.inl h)) (br_t rfl ⟨(h0 (Or.inr (Or.inl h))).symm, same⟩)
      · exact ys_pair_f (Or.inr (Or.inr h)) (br_t rfl ⟨(h0 (Or.inr (Or.inr h))).symm, same⟩)
      · have hr := h1 i j hil hj e1 e2
        subst e1 e2
        have ix := rr_ixr i j
        refine ys_pair_t hil hj (by omega) (br_f (by decide) ⟨pk_in _ _ (by omega) ix, ?_⟩)
        rw [ix, nI_clamp (by omega), ha i (by omega) j (by omega), decide_eq_true hj, Bool.true_and]
        refine rr_bd (fun z => ?_) (fun z => ?_)
        · rw [z] at hr; exact ⟨hr.symm, same⟩
        · rw [z] at hr; exact ⟨hr.symm, same⟩
  unfold wpY_must at fin
  rcases pk_ix v1 (n := n) (by omega) with h | h | ⟨i, hil, e1⟩
  · exact xs_ev_f (Or.inl h) (br_t rfl (fin 0 (fun _ => rfl) (fun i j a _ b _ => by subst b; exact absurd h (nI_pos (by omega)))))
  · exact xs_ev_f (Or.inr h) (br_t rfl (fin 0 (fun _ => rfl) (fun i j a _ b _ => by subst b; exact absurd h (nI_ge a (by omega)))))
  · subst e1
    refine xs_ev_t hil (by omega) (br_f (by decide) ?_)
    rcases pk_ix v2 (n := n) (by omega) with h | h | ⟨j, hj, e2⟩
    · exact xs_ev_f (Or.inl h) (br_t rfl (fin 0 (fun _ => rfl) (fun i j _ a _ b => by subst b; exact absurd h (nI_pos (by omega)))))
    · exact xs_ev_f (Or.inr h) (br_t rfl (fin 0 (fun _ => rfl) (fun i j _ a _ b => by subst b; exact absurd h (nI_ge a (by omega)))))
    · subst e2
      refine xs_ev_t hj (by omega) (br_f (by decide) ⟨pk_in j 8 (by omega) rfl, ?_⟩)
      rw [nI_clamp (by omega)]
      have f2 : ∀ b : Bool, b = rr_P (rr_E false ks os T (rr_od ks os B T)) 8 i j → ∀ r, r = rr_b b → (r = 0 ∨ True) → wpY_must (fun r' v' => r' = r ∧ i_Rel (k + 4) (nI n, fx, sz, ks, os, hi, et, ek, eo, mb, kb, oc, pa, nt, fo) v') (nI n, fy, dy, ks, os, sz, bg, va, rg, ho, pl, dn, ol, rl, sm, kp, tr, fd) (nI i) (nI j) := by
        intro b hb r hr _
        unfold wpY_must
        refine fin r (fun z => ?_) (fun i' j' _ _ a b' => ?_)
        · rcases z with (z | z) | (z | z)
          · exact absurd z (nI_pos (by omega))
          · exact absurd z (nI_ge hil (by omega))
          · exact absurd z (nI_pos (by omega))
          · exact absurd z (nI_ge hj (by omega))
        · rw [nI_eq (by omega) (by omega)] at a b'
          rw [← a, ← b', hr, hb]
      unfold wpY_must at f2
      refine xs_cont (by omega) ?_
      rw [hX.2.2.1 j hj i (by omega)]
      exact rr_bd (fun z => f2 false z.symm 0 rfl (Or.inr trivial)) (fun z => f2 true z.symm 1 rfl (Or.inr trivial))
theorem i_vc_known {k : Nat} {u : SX} {v : SY} (I : i_Rel k u v) (hk : k + 4 ≤ 2048) (v1 : Int32) (v2 : Int32) : wpX_known (fun r => wpY_known (fun r' v' => r' = r ∧ i_Rel (k + 4) u v') v v1 v2) u v1 v2 := by
  obtain ⟨S, T, n, B, fx, fy, dy, sz, ks, os, hi, et, ek, eo, mb, kb, oc, pa, nt, fo, bg, va, rg, ho, pl, dn, ol, rl, sm, kp, tr, fd, rfl, rfl, hG, hX, hY⟩ := I
  unfold wpX_known wpY_known
  have n8 := rr_Go_8 hG (Nat.le_refl n)
  have fin : ∀ r : Int32, ((v1 < 0 ∨ nI n ≤ v1) ∨ (v2 < 0 ∨ nI n ≤ v2) → r = 0) → (∀ i j, i < n → j < n → v1 = nI i → v2 = nI j → r = rr_b (rr_P (rr_E true ks os T (rr_od ks os B T)) 8 i j)) → wpY_known (fun r' v' => r' = r ∧ i_Rel (k + 4) (nI n, fx, sz, ks, os, hi, et, ek, eo, mb, kb, oc, pa, nt, fo) v') (nI n, fy, dy, ks, os, sz, bg, va, rg, ho, pl, dn, ol, rl, sm, kp, tr, fd) v1 v2 := by
    intro r h0 h1
    unfold wpY_known
    refine ys_close true hG.1 (rr_Ev_of hG) (rr_Ye_of hY) (fun a ha => ?_)
    have same : i_Rel (k + 4) (nI n, fx, sz, ks, os, hi, et, ek, eo, mb, kb, oc, pa, nt, fo) (nI n, fy, dy, ks, os, sz, bg, va, rg, ho, pl, dn, ol, a, sm, kp, tr, fd) := rr_mk hG hX hY
    rcases pk_ix v1 (n := n) (by omega) with h | h | ⟨i, hil, e1⟩
    · exact ys_pair_f (Or.inl (Or.inl h)) (br_t rfl ⟨(h0 (Or.inl (Or.inl h))).symm, same⟩)
    · exact ys_pair_f (Or.inl (Or.inr h)) (br_t rfl ⟨(h0 (Or.inl (Or.inr h))).symm, same⟩)
    · rcases pk_ix v2 (n := n) (by omega) with h | h | ⟨j, hj, e2⟩
      · exact ys_pair_f (Or.inr (Or.inl h)) (br_t rfl ⟨(h0 (Or.inr (Or.inl h))).symm, same⟩)
      · exact ys_pair_f (Or.inr (Or.inr h)) (br_t rfl ⟨(h0 (Or.inr (Or.inr h))).symm, same⟩)
      · have hr := h1 i j hil hj e1 e2
        subst e1 e2
        have ix := rr_ixr i j
        refine ys_pair_t hil hj (by omega) (br_f (by decide) ⟨pk_in _ _ (by omega) ix, ?_⟩)
        rw [ix, nI_clamp (by omega), ha i (by omega) j (by omega), decide_eq_true hj, Bool.true_and]
        refine rr_bd (fun z => ?_) (fun z => ?_)
        · rw [z] at hr; exact ⟨hr.symm, same⟩
        · rw [z] at hr; exact ⟨hr.symm, same⟩
  unfold wpY_known at fin
  rcases pk_ix v1 (n := n) (by omega) with h | h | ⟨i, hil, e1⟩
  · exact xs_ev_f (Or.inl h) (br_t rfl (fin 0 (fun _ => rfl) (fun i j a _ b _ => by subst b; exact absurd h (nI_pos (by omega)))))
  · exact xs_ev_f (Or.inr h) (br_t rfl (fin 0 (fun _ => rfl) (fun i j a _ b _ => by subst b; exact absurd h (nI_ge a (by omega)))))
  · subst e1
    refine xs_ev_t hil (by omega) (br_f (by decide) ?_)
    rcases pk_ix v2 (n := n) (by omega) with h | h | ⟨j, hj, e2⟩
    · exact xs_ev_f (Or.inl h) (br_t rfl (fin 0 (fun _ => rfl) (fun i j _ a _ b => by subst b; exact absurd h (nI_pos (by omega)))))
    · exact xs_ev_f (Or.inr h) (br_t rfl (fin 0 (fun _ => rfl) (fun i j _ a _ b => by subst b; exact absurd h (nI_ge a (by omega)))))
    · subst e2
      refine xs_ev_t hj (by omega) (br_f (by decide) ⟨pk_in j 8 (by omega) rfl, ?_⟩)
      rw [nI_clamp (by omega)]
      have f2 : ∀ b : Bool, b = rr_P (rr_E true ks os T (rr_od ks os B T)) 8 i j → ∀ r, r = rr_b b → (r = 0 ∨ True) → wpY_known (fun r' v' => r' = r ∧ i_Rel (k + 4) (nI n, fx, sz, ks, os, hi, et, ek, eo, mb, kb, oc, pa, nt, fo) v') (nI n, fy, dy, ks, os, sz, bg, va, rg, ho, pl, dn, ol, rl, sm, kp, tr, fd) (nI i) (nI j) := by
        intro b hb r hr _
        unfold wpY_known
        refine fin r (fun z => ?_) (fun i' j' _ _ a b' => ?_)
        · rcases z with (z | z) | (z | z)
          · exact absurd z (nI_pos (by omega))
          · exact absurd z (nI_ge hil (by omega))
          · exact absurd z (nI_pos (by omega))
          · exact absurd z (nI_ge hj (by omega))
        · rw [nI_eq (by omega) (by omega)] at a b'
          rw [← a, ← b', hr, hb]
      unfold wpY_known at f2
      refine xs_cont (by omega) ?_
      rw [hX.2.2.2 j hj i (by omega)]
      exact rr_bd (fun z => f2 false z.symm 0 rfl (Or.inr trivial)) (fun z => f2 true z.symm 1 rfl (Or.inr trivial))
