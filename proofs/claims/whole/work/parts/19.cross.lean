def rr_an (g : Nat → Bool) : Nat → Bool
  | 0 => false
  | m + 1 => rr_an g m || g m
def rr_cx (ks os B : Nat → Int32) (T : Nat → Nat) (m i : Nat) : Bool := decide (ks (rr_od ks os B T i) = 3) && (decide (os (rr_od ks os B T i) = nI m) && !(decide (rr_hd (rr_run ks os B T i) (T i) = 0)))
theorem rr_an_t {g : Nat → Bool} : ∀ n i, i < n → g i = true → rr_an g n = true := by
  intro n
  induction n with
  | zero => intro i hil; omega
  | succ n ih =>
    intro i hil h
    show (rr_an g n || g n) = true
    rcases Nat.decEq i n with z | z
    · rw [ih i (by omega) h]; rfl
    · rw [z] at h; rw [h]; simp
theorem rr_sete : ∀ m, m < 2 → ∀ a b : Bool, rr_set m true a b = rr_h2 (a || decide (m = 0)) (b || decide (m = 1)) := by decide +kernel
theorem rr_m01 : ∀ m, m < 2 → (nI m = nI 0 ↔ m = 0) ∧ (nI m = nI 1 ↔ m = 1) := by decide +kernel
section
variable {ec fx cn fy dy : Int32} {sz ks os hi et ek eo mb kb oc pa nt fo bg va rg ho pl dn ol rl sm kp tr fd : Nat → Int32}
variable {S T : Nat → Nat} {n : Nat} {B : Nat → Int32}
theorem xs_under (hG : rr_Go sz ks os S B T n) (hX : rr_Rx n T B ks os hi et ek eo mb kb) {m : Nat} {post : Int32 → Prop} (h : post (rr_b (rr_an (rr_cx ks os B T m) n))) : wpX_lockedUnderTheOther post (nI n, fx, sz, ks, os, hi, et, ek, eo, mb, kb, oc, pa, nt, fo) (nI m) := by
  have n8 := rr_Go_8 hG (Nat.le_refl n)
  have key : ∀ d i, i + d = n → rr_an (rr_cx ks os B T m) i = false → wX_lockedUnderTheOther_2 post (nI m) (nI n) fx sz ks os hi et ek eo mb kb oc pa nt fo (d + 1) (nI i) := by
    intro d
    induction d with
    | zero =>
      intro i hi' hno
      obtain rfl : i = n := by omega
      rw [hno] at h
      exact br_t (nI_le (Nat.le_refl _) (by omega)) h
    | succ d ih =>
      intro i hi' hno
      have vi : vp_in (nI i) 8 := pk_in i 8 (by omega) rfl
      have ci : (nI i).toNatClampNeg = i := nI_clamp (by omega)
      have no : rr_cx ks os B T m i = false → wX_lockedUnderTheOther_2 post (nI m) (nI n) fx sz ks os hi et ek eo mb kb oc pa nt fo (d + 1) (nI (i + 1)) := fun z => ih (i + 1) (by omega) (by show (rr_an _ i || _) = false; rw [hno, z]; rfl)
      have hc : rr_cx ks os B T m i = (decide (ks (rr_od ks os B T i) = 3) && (decide (os (rr_od ks os B T i) = nI m) && !(decide (rr_hd (rr_run ks os B T i) (T i) = 0)))) := rfl
      rw [hc] at no
      refine br_f (nI_ge (by omega) (by omega)) ⟨vi, ?_⟩
      rw [ci, (hX.2.1 i (by omega)).2.1, (hX.2.1 i (by omega)).2.2]
      by_cases a : ks (rr_od ks os B T i) = 3
      · refine br_t a ⟨vi, ?_⟩
        by_cases b : os (rr_od ks os B T i) = nI m
        · refine br_t b (xs_held hG hX (by omega) (br_c (fun z => nm_r (nI_1 i) (no (by rw [decide_eq_true z]; simp))) (fun z => ?_)))
          rw [rr_an_t n i (by omega) (by rw [hc, decide_eq_true a, decide_eq_true b, decide_eq_false z]; rfl)] at h
          exact h
        · exact br_f b (nm_r (nI_1 i) (no (by rw [decide_eq_false b]; simp)))
      · exact br_f a (nm_r (nI_1 i) (no (by rw [decide_eq_false a]; rfl)))
  exact ⟨n + 1, key n 0 (by omega) rfl⟩
theorem ys_crossed (hG : rr_Go sz ks os S B T n) (hY : rr_Ry n T B ks os bg va rg ho pl dn ol) {post : Int32 → Prop} (h : post (rr_b (rr_an (rr_cx ks os B T 0) n && rr_an (rr_cx ks os B T 1) n))) : wpY_crossed post (nI n, fy, dy, ks, os, sz, bg, va, rg, ho, pl, dn, ol, rl, sm, kp, tr, fd) := by
  have n8 := rr_Go_8 hG (Nat.le_refl n)
  have hE := rr_Ev_of hG
  have hD := rr_Ye_of hY
  refine loop_0 (fun N i (x : Int32) => wY_crossed_4 post (nI n) fy dy ks os sz bg va rg ho pl dn ol rl sm kp tr fd N x (nI i)) (fun i x => x = rr_h2 (rr_an (rr_cx ks os B T 0) i) (rr_an (rr_cx ks os B T 1) i)) n 0 (show (0 : Int32) = rr_h2 false false by decide) ?_ ?_
  · intro N x hx
    subst hx
    refine br_t (nI_le (Nat.le_refl n) (by omega)) ?_
    have q := rr_h23 (rr_an (rr_cx ks os B T 0) n) (rr_an (rr_cx ks os B T 1) n)
    rcases z : (rr_an (rr_cx ks os B T 0) n && rr_an (rr_cx ks os B T 1) n) with _ | _
    · rw [z] at h q; exact br_f (fun y => absurd (q.mp y) (by decide)) h
    · rw [z] at h q; exact br_t (q.mpr rfl) h
  · intro N i x hil hx ih
    subst hx
    have vi : vp_in (nI i) 8 := pk_in i 8 (by omega) rfl
    obtain ⟨a1, a2, a3⟩ := ys_div hE hD hil
    have hc : ∀ m, rr_cx ks os B T m i = (decide (ks (rr_od ks os B T i) = 3) && (decide (os (rr_od ks os B T i) = nI m) && !(decide (rr_hd (rr_run ks os B T i) (T i) = 0)))) := fun _ => rfl
    have no : (rr_cx ks os B T 0 i = false ∧ rr_cx ks os B T 1 i = false) → wY_crossed_39 post (wY_crossed_4 post (nI n) fy dy ks os sz bg va rg ho pl dn ol rl sm kp tr fd N) (rr_h2 (rr_an (rr_cx ks os B T 0) i) (rr_an (rr_cx ks os B T 1) i)) (nI i) (nI n) fy dy ks os sz bg va rg ho pl dn ol rl sm kp tr fd := fun z => br_t rfl (nm_r (nI_1 i) (ih _ (by show _ = rr_h2 (rr_an _ i || _) (rr_an _ i || _); rw [z.1, z.2, Bool.or_false, Bool.or_false])))
    refine br_f (nI_ge hil (by omega)) ⟨vi, a2, ?_⟩
    rw [a3]
    by_cases a : ks (rr_od ks os B T i) = 3
    · refine br_t a (ys_held hG hY hil (br_c (fun z => no ?_) (fun z => ?_)))
      · rw [hc, hc, decide_eq_true z]; simp
      · obtain ⟨m, hm, em⟩ : ∃ m, m < 2 ∧ os (rr_od ks os B T i) = nI m := by
          rcases rr_kinds hG.1 (hE.2 i hil).2.1 with ⟨y, _⟩ | ⟨y, _⟩ | y | ⟨_, y⟩ | ⟨y, _⟩
          · rw [a] at y; exact absurd y (by decide)
          · rw [a] at y; exact absurd y (by decide)
          · rw [a] at y; exact absurd y (by decide)
          · exact y
          · rw [a] at y; exact absurd y (by decide)
        refine br_f (by decide) ⟨vi, a2, nm_r (show _ = rr_set m true (rr_an (rr_cx ks os B T 0) i) (rr_an (rr_cx ks os B T 1) i) by rw [a3, em, rr_h2or m hm]) (nm_r (nI_1 i) (ih _ ?_))⟩
        show _ = rr_h2 (rr_an _ i || _) (rr_an _ i || _)
        rw [rr_sete m hm, hc, hc, em, decide_eq_true a, decide_eq_false z]
        have q := rr_m01 m hm
        rcases (show m = 0 ∨ m = 1 by omega) with rfl | rfl
        · simp [q.2]
        · simp [q.1]
    · exact br_f a (no (by rw [hc, hc, decide_eq_false a]; exact ⟨rfl, rfl⟩))
end
theorem i_vc_crossed {k : Nat} {u : SX} {v : SY} (I : i_Rel k u v) (hk : k + 4 ≤ 2048) : wpX_crossed (fun r => wpY_crossed (fun r' => r' = r ∧ i_Rel (k + 4) u v) v) u := by
  obtain ⟨S, T, n, B, fx, fy, dy, sz, ks, os, hi, et, ek, eo, mb, kb, oc, pa, nt, fo, bg, va, rg, ho, pl, dn, ol, rl, sm, kp, tr, fd, rfl, rfl, hG, hX, hY⟩ := I
  unfold wpX_crossed
  have same : i_Rel (k + 4) (nI n, fx, sz, ks, os, hi, et, ek, eo, mb, kb, oc, pa, nt, fo) (nI n, fy, dy, ks, os, sz, bg, va, rg, ho, pl, dn, ol, rl, sm, kp, tr, fd) := rr_mk hG hX hY
  have fin : ∀ r : Int32, rr_b (rr_an (rr_cx ks os B T 0) n && rr_an (rr_cx ks os B T 1) n) = r → wpY_crossed (fun r' => r' = r ∧ i_Rel (k + 4) (nI n, fx, sz, ks, os, hi, et, ek, eo, mb, kb, oc, pa, nt, fo) (nI n, fy, dy, ks, os, sz, bg, va, rg, ho, pl, dn, ol, rl, sm, kp, tr, fd)) (nI n, fy, dy, ks, os, sz, bg, va, rg, ho, pl, dn, ol, rl, sm, kp, tr, fd) := fun r hr => ys_crossed hG hY ⟨hr, same⟩
  refine xs_under (m := 0) hG hX (rr_bd (fun z => fin 0 (by rw [z]; rfl)) (fun z => xs_under (m := 1) hG hX (rr_bd (fun y => fin 0 (by rw [y, Bool.and_false]; rfl)) (fun y => fin 1 (by rw [z, y]; rfl)))))
