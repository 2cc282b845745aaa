def rr_od (ks os B : Nat → Int32) (T : Nat → Nat) (i : Nat) : Nat := rr_op (T i) (rr_run ks os B T i)
def rr_Rx (n : Nat) (T : Nat → Nat) (B ks os hi et ek eo mb kb : Nat → Int32) : Prop :=
  (∀ e, e ≤ n → ∀ c, c < 10 → hi (10 * e + c) = rr_run ks os B T e c) ∧ rr_Xe n ks os T (rr_od ks os B T) et ek eo ∧
  (∀ j, j < n → ∀ b, b < 32 → bt (mb j) b = rr_P (rr_E false ks os T (rr_od ks os B T)) 8 b j) ∧
  (∀ j, j < n → ∀ b, b < 32 → bt (kb j) b = rr_P (rr_E true ks os T (rr_od ks os B T)) 8 b j)
def rr_Ry (n : Nat) (T : Nat → Nat) (B ks os bg va rg ho pl dn ol : Nat → Int32) : Prop :=
  (∀ v, v < 2 → bg v = B v) ∧ rr_Yr (rr_run ks os B T n) va rg ho pl ∧
  ∀ i, i < n → dn i = nI (rr_op (T i) (rr_run ks os B T i)) ∧ rr_Ol ks os (T i) (rr_run ks os B T i) (ol i)
def i_Rel (_ : Nat) (u : SX) (v : SY) : Prop := ∃ (S T : Nat → Nat) (n : Nat) (B : Nat → Int32) (fx fy dy : Int32) (sz ks os hi et ek eo mb kb oc pa nt fo bg va rg ho pl dn ol rl sm kp tr fd : Nat → Int32),
  u = (nI n, fx, sz, ks, os, hi, et, ek, eo, mb, kb, oc, pa, nt, fo) ∧ v = (nI n, fy, dy, ks, os, sz, bg, va, rg, ho, pl, dn, ol, rl, sm, kp, tr, fd) ∧ rr_Go sz ks os S B T n ∧ rr_Rx n T B ks os hi et ek eo mb kb ∧ rr_Ry n T B ks os bg va rg ho pl dn ol
theorem i_up {k : Nat} {u : SX} {v : SY} (h : i_Rel k u v) : i_Rel (k + 4) u v := h
section
variable {ec fx cn fy dy : Int32} {sz ks os hi et ek eo mb kb oc pa nt fo bg va rg ho pl dn ol rl sm kp tr fd : Nat → Int32}
variable {S T : Nat → Nat} {n k : Nat} {B : Nat → Int32}
theorem rr_mk (hG : rr_Go sz ks os S B T n) (hX : rr_Rx n T B ks os hi et ek eo mb kb) (hY : rr_Ry n T B ks os bg va rg ho pl dn ol) : i_Rel k (nI n, fx, sz, ks, os, hi, et, ek, eo, mb, kb, oc, pa, nt, fo) (nI n, fy, dy, ks, os, sz, bg, va, rg, ho, pl, dn, ol, rl, sm, kp, tr, fd) :=
  ⟨S, T, n, B, fx, fy, dy, sz, ks, os, hi, et, ek, eo, mb, kb, oc, pa, nt, fo, bg, va, rg, ho, pl, dn, ol, rl, sm, kp, tr, fd, rfl, rfl, hG, hX, hY⟩
theorem rr_Ev_of (hG : rr_Go sz ks os S B T n) : rr_Ev n T (rr_od ks os B T) := by
  refine ⟨rr_Go_8 hG (Nat.le_refl n), fun i hil => ?_⟩
  obtain ⟨a, b⟩ := hG.2.2 i hil
  have hR := (rr_Go_Rk hG i (by omega)).1
  have hl := (rr_lt hG.1 hR a).mp (rr_en_lt b)
  have hS := rr_S4 hG.1 a
  have ho' : rr_od ks os B T i = 4 * T i + rr_ps T i (T i) := rr_opN hG.1 hR a
  rw [ho']
  exact ⟨a, by omega, by omega⟩
theorem rr_Ye_of (hY : rr_Ry n T B ks os bg va rg ho pl dn ol) : rr_Ye n (rr_od ks os B T) dn := fun i hil => (hY.2.2 i hil).1
end
section
variable {ec fx : Int32} {sz ks os hi et ek eo mb kb oc pa nt fo : Nat → Int32}
variable {t : Nat}
theorem xs_thd_f {x : Int32} (hx : x < 0 ∨ nI 3 ≤ x) {post : Int32 → Prop} (h : post 0) : wpX_isThread post x := by
  by_cases z : x < 0
  · exact br_t z h
  · rcases hx with y | y
    · exact absurd y z
    · exact br_f z (br_t y h)
theorem xs_thd_t (ht : t < 3) {post : Int32 → Prop} (h : post 1) : wpX_isThread post (nI t) := br_f (nI_pos (by omega)) (br_f (rr_lt3 ht) h)
theorem xs_var_f {x : Int32} (hx : x < 0 ∨ nI 2 ≤ x) {post : Int32 → Prop} (h : post 0) : wpX_isVariable post x := by
  by_cases z : x < 0
  · exact br_t z h
  · rcases hx with y | y
    · exact absurd y z
    · exact br_f z (br_t y h)
theorem xs_var_t (ht : t < 2) {post : Int32 → Prop} (h : post 1) : wpX_isVariable post (nI t) := br_f (nI_pos (by omega)) (br_f (nI_ge (b := 2) ht (by decide)) h)
theorem xs_lok_f {x : Int32} (hx : x < 0 ∨ nI 2 ≤ x) {post : Int32 → Prop} (h : post 0) : wpX_isLock post x := by
  by_cases z : x < 0
  · exact br_t z h
  · rcases hx with y | y
    · exact absurd y z
    · exact br_f z (br_t y h)
theorem xs_lok_t (ht : t < 2) {post : Int32 → Prop} (h : post 1) : wpX_isLock post (nI t) := br_f (nI_pos (by omega)) (br_f (nI_ge (b := 2) ht (by decide)) h)
end
theorem rr_nar_b (x : Int32) (h : x = 0 ∨ x = 1) : narrow .boolean (.int x) = .int x := by
  rcases h with rfl | rfl <;> rfl
/-- an argument that is no thread, no variable: three ways -/
theorem rr_arg3 (x : Int32) : (x < 0 ∨ nI 3 ≤ x) ∨ ∃ t, t < 3 ∧ x = nI t := by
  rcases pk_ix x (n := 3) (by omega) with h | h | h
  · exact Or.inl (Or.inl h)
  · exact Or.inl (Or.inr h)
  · exact Or.inr h
theorem rr_arg2 (x : Int32) : (x < 0 ∨ nI 2 ≤ x) ∨ ∃ t, t < 2 ∧ x = nI t := by
  rcases pk_ix x (n := 2) (by omega) with h | h | h
  · exact Or.inl (Or.inl h)
  · exact Or.inl (Or.inr h)
  · exact Or.inr h
theorem rr_arg5 (x : Int32) : (x < 0 ∨ nI 5 ≤ x) ∨ ∃ t, t < 5 ∧ x = nI t := by
  rcases pk_ix x (n := 5) (by omega) with h | h | h
  · exact Or.inl (Or.inl h)
  · exact Or.inl (Or.inr h)
  · exact Or.inr h
/-! the constructors -/
theorem rr_Pg0 : rr_Pg (fun _ => 0) (fun _ => 0) (fun _ => 0) (fun _ => 0) :=
  ⟨fun _ _ => ⟨rfl, Nat.zero_le 4⟩, Nat.zero_le 8, fun _ _ => ⟨0, Nat.zero_le 4, rfl, fun _ => ⟨0, by omega, rfl⟩⟩⟩
section
variable {cn fy dy : Int32} {ks os sz bg va rg ho pl dn ol rl sm kp tr fd : Nat → Int32}
theorem ys_again {post : SY → Prop} (H : ∀ va' rg' ho' pl', (∀ v, v < 2 → va' v = bg v ∧ ho' v = -1) → (∀ t, t < 3 → rg' t = 0 ∧ pl' t = 0) → post (0, fy, dy, ks, os, sz, bg, va', rg', ho', pl', dn, ol, rl, sm, kp, tr, fd)) : wpY_again post (cn, fy, dy, ks, os, sz, bg, va, rg, ho, pl, dn, ol, rl, sm, kp, tr, fd) := by
  refine loop_0 (fun N i (s : (Nat → Int32) × (Nat → Int32)) => wY_again_7 post 0 fy dy N (nI i) ks os sz bg va s.1 ho s.2 dn ol rl sm kp tr fd) (fun i s => ∀ c, c < i → s.1 c = 0 ∧ s.2 c = 0) 3 (rg, pl) (fun c hc => by omega) ?_ ?_
  · rintro N ⟨rg1, pl1⟩ h1
    refine br_t (show (3 : Int32) ≤ nI 3 by decide) ?_
    refine loop_0 (fun N i (s : (Nat → Int32) × (Nat → Int32)) => wY_again_34 post 0 fy dy N (nI i) ks os sz bg s.1 rg1 s.2 pl1 dn ol rl sm kp tr fd) (fun i s => ∀ c, c < i → s.1 c = bg c ∧ s.2 c = -1) 2 (va, ho) (fun c hc => by omega) ?_ ?_
    · rintro N ⟨va1, ho1⟩ h2
      exact br_t (show (2 : Int32) ≤ nI 2 by decide) (H va1 rg1 ho1 pl1 h2 h1)
    · rintro N i ⟨va1, ho1⟩ hil h2 ih
      have vi : vp_in (nI i) 2 := pk_in i 2 hil rfl
      have ci : (nI i).toNatClampNeg = i := nI_clamp (by omega)
      refine br_f (nI_ge (b := 2) hil (by decide)) ⟨vi, vi, nm_r (show _ = upd va1 i (bg i) by rw [ci]) ⟨vi, nm_r (show _ = upd ho1 i (-1) by rw [ci]) (nm_r (nI_1 i) (ih (upd va1 i (bg i), upd ho1 i (-1)) (fun c hc => ?_)))⟩⟩
      show upd va1 i (bg i) c = bg c ∧ upd ho1 i (-1) c = -1
      rcases Nat.decEq c i with z | z
      · rw [pk_un z, pk_un z]; exact h2 c (by omega)
      · rw [z, pk_us, pk_us]; exact ⟨rfl, rfl⟩
  · rintro N i ⟨rg1, pl1⟩ hil h1 ih
    have vi : vp_in (nI i) 3 := pk_in i 3 hil rfl
    have ci : (nI i).toNatClampNeg = i := nI_clamp (by omega)
    refine br_f (rr_lt3 hil) ⟨vi, nm_r (show _ = upd pl1 i 0 by rw [ci]) ⟨vi, nm_r (show _ = upd rg1 i 0 by rw [ci]) (nm_r (nI_1 i) (ih (upd rg1 i 0, upd pl1 i 0) (fun c hc => ?_)))⟩⟩
    show upd rg1 i 0 c = 0 ∧ upd pl1 i 0 c = 0
    rcases Nat.decEq c i with z | z
    · rw [pk_un z, pk_un z]; exact h1 c (by omega)
    · rw [z, pk_us, pk_us]; exact ⟨rfl, rfl⟩
end
theorem i_vc0 : wpX_init (fun u => wpY_init (fun v => i_Rel 0 u v)) := by
  refine loop_0 (fun N i (a : Nat → Int32) => wX_init_121 (fun u => wpY_init (fun v => i_Rel 0 u v)) 0 0 N (nI i) (fun _ => 0) (fun _ => 0) (fun _ => 0) a (fun _ => 0) (fun _ => 0) (fun _ => 0) (fun _ => 0) (fun _ => 0) (fun _ => 0) (fun _ => 0) (fun _ => 0) (fun _ => 0)) (fun i a => (∀ c, c < i → a (8 + c) = -1000000004) ∧ ∀ c, c < 8 → a c = 0) 2 (fun _ => 0) ⟨fun c hc => by omega, fun c _ => rfl⟩ ?_ ?_
  · rintro N a ⟨h1, h2⟩
    refine br_t (show (2 : Int32) ≤ nI 2 by decide) ?_
    unfold wpY_init
    refine ys_again (fun va' rg' ho' pl' h3 h4 => ?_)
    refine rr_mk (n := 0) (S := fun _ => 0) (T := fun _ => 0) (B := a) ⟨rr_Pg0, ⟨fun t ht => ⟨h2 _ (by omega), h2 _ (by omega)⟩, fun m hm => h1 m hm⟩, fun i hil => by omega⟩ ⟨fun e he c hc => ?_, fun i hil => by omega, fun i hil => by omega, fun i hil => by omega⟩ ⟨fun v hv => (h2 v (by omega)).symm, ⟨fun v hv => ?_, fun t ht => ⟨?_, ?_⟩, fun m hm => ?_⟩, fun i hil => by omega⟩
    · obtain rfl : e = 0 := by omega
      rw [show 10 * 0 + c = c by omega]; rfl
    · exact (h3 v hv).1.trans (h2 v (by omega)).symm
    · exact (h4 t ht).1.trans (h2 (2 + t) (by omega)).symm
    · exact (h4 t ht).2.trans (h2 (5 + t) (by omega)).symm
    · show ho' m = rr_hm (a (8 + m))
      rw [h1 m hm, rr_hm0]; exact (h3 m hm).2
  · rintro N i a hil ⟨h1, h2⟩ ih
    have e1 : 8 + nI i = nI (8 + i) := nI_add 8 i
    refine br_f (nI_ge (b := 2) hil (by decide)) ⟨pk_in _ _ (by omega) e1, nm_r (show _ = upd a (8 + i) (-1000000004) by rw [e1, nI_clamp (by omega)]) (nm_r (nI_1 i) (ih _ ⟨fun c hc => ?_, fun c hc => ?_⟩))⟩
    · rcases Nat.decEq c i with z | z
      · rw [pk_un (by omega)]; exact h1 c (by omega)
      · rw [z, pk_us]
    · rw [pk_un (by omega)]; exact h2 c hc
