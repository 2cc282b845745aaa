def rr_h2 (a b : Bool) : Int32 := (if a then 1 else 0) ||| (if b then 2 else 0)
def rr_hd (r : Nat → Int32) (t : Nat) : Int32 := rr_h2 (decide (r 8 = nI t)) (decide (r 9 = nI t))
theorem rr_h2x (a b : Bool) : (if b then (if a then (0 : Int32) ||| ((1 : Int32) <<< (nI 0 &&& 31)) else 0) ||| ((1 : Int32) <<< (nI 1 &&& 31)) else (if a then (0 : Int32) ||| ((1 : Int32) <<< (nI 0 &&& 31)) else 0)) = rr_h2 a b := by
  cases a <;> cases b <;> decide
def rr_set (m : Nat) (c a b : Bool) : Int32 := if m = 0 then rr_h2 c b else rr_h2 a c
theorem rr_h2or : ∀ m, m < 2 → ∀ a b : Bool, rr_h2 a b ||| ((1 : Int32) <<< (nI m &&& 31)) = rr_set m true a b := by decide +kernel
theorem rr_h2an : ∀ m, m < 2 → ∀ a b : Bool, rr_h2 a b &&& (((1 : Int32) <<< (nI m &&& 31)) ^^^ (-1)) = rr_set m false a b := by decide +kernel
theorem rr_h2ne : ∀ a b : Bool, rr_h2 a b = 0 ↔ (a || b) = false := by decide +kernel
theorem rr_h23 : ∀ a b : Bool, rr_h2 a b = 3 ↔ (a && b) = true := by decide +kernel
section
variable {sz ks os B : Nat → Int32} {S T : Nat → Nat} {n : Nat}
/-- what event k does to the set of the locks that thread t holds -/
theorem rr_hd_step (hG : rr_Go sz ks os S B T n) {k t : Nat} (hk : k < n) (ht : t < 3) :
    (T k = t → ¬ ks (rr_od ks os B T k) ≤ 2 → ∃ m, m < 2 ∧ os (rr_od ks os B T k) = nI m ∧ (ks (rr_od ks os B T k) = 3 → rr_hd (rr_run ks os B T k) t ||| ((1 : Int32) <<< (nI m &&& 31)) = rr_hd (rr_run ks os B T (k + 1)) t) ∧ (¬ ks (rr_od ks os B T k) = 3 → rr_hd (rr_run ks os B T k) t &&& (((1 : Int32) <<< (nI m &&& 31)) ^^^ (-1)) = rr_hd (rr_run ks os B T (k + 1)) t)) ∧
    ((¬ T k = t ∨ ks (rr_od ks os B T k) ≤ 2) → rr_hd (rr_run ks os B T (k + 1)) t = rr_hd (rr_run ks os B T k) t) := by
  obtain ⟨hs, hen⟩ := hG.2.2 k hk
  have hR := (rr_Go_Rk hG k (by omega)).1
  have hl := rr_en_lt hen
  have st0 : rr_run ks os B T (k + 1) 8 = _ := rr_st_hold hG.1 hR hs hl (m := 0) (by omega)
  have st1 : rr_run ks os B T (k + 1) 9 = _ := rr_st_hold hG.1 hR hs hl (m := 1) (by omega)
  have ho : rr_od ks os B T k = rr_op (T k) (rr_run ks os B T k) := rfl
  rw [ho]
  have r0 : rr_run ks os B T k (8 + 0) = rr_run ks os B T k 8 := rfl
  have r1 : rr_run ks os B T k (8 + 1) = rr_run ks os B T k 9 := rfl
  rw [r0] at st0
  rw [r1] at st1
  have e3 := rr_en_3 hen
  have e4 := rr_en_4 hen
  have nt : ∀ s, s < 3 → nI s ≠ -1000000004 := rr_none_ne
  have tt : nI (T k) = nI t ↔ T k = t := rr_nIT hs ht
  have dnn : decide ((-1000000004 : Int32) = nI t) = false := decide_eq_false (fun y => nt t ht y.symm)
  have quiet : ks (rr_op (T k) (rr_run ks os B T k)) ≤ 2 → ¬ ks (rr_op (T k) (rr_run ks os B T k)) = 3 ∧ ¬ ks (rr_op (T k) (rr_run ks os B T k)) = 4 := by
    intro z
    exact ⟨fun y => by rw [y] at z; exact absurd z (by decide), fun y => by rw [y] at z; exact absurd z (by decide)⟩
  rcases rr_views hG.1 hR hs hl with ⟨h, hx, ex⟩ | ⟨h, hx, ex⟩ | h | ⟨h, hx, ex⟩ | ⟨h, hx, ex⟩
  · have q := quiet (by rw [h]; decide)
    rw [if_neg (fun z => q.1 z.1), if_neg (fun z => q.2 z.1)] at st0 st1
    refine ⟨fun _ z => absurd (by rw [h]; decide) z, fun _ => ?_⟩
    unfold rr_hd; rw [st0, st1]
  · have q := quiet (by rw [h]; decide)
    rw [if_neg (fun z => q.1 z.1), if_neg (fun z => q.2 z.1)] at st0 st1
    refine ⟨fun _ z => absurd (by rw [h]; decide) z, fun _ => ?_⟩
    unfold rr_hd; rw [st0, st1]
  · have q := quiet (by rw [h]; decide)
    rw [if_neg (fun z => q.1 z.1), if_neg (fun z => q.2 z.1)] at st0 st1
    refine ⟨fun _ z => absurd (by rw [h]; decide) z, fun _ => ?_⟩
    unfold rr_hd; rw [st0, st1]
  · have h4 : ¬ ks (rr_op (T k) (rr_run ks os B T k)) = 4 := by rw [h]; decide
    rw [if_neg (c := ks (rr_op (T k) (rr_run ks os B T k)) = 4 ∧ _) (fun z => h4 z.1)] at st0 st1
    have e3 := e3 h
    refine ⟨fun z _ => ⟨_, hx, ex, fun _ => ?_, fun y => absurd h y⟩, fun z => ?_⟩
    · unfold rr_hd
      rw [rr_h2or _ hx, st0, st1]
      unfold rr_set
      rcases (show rr_ox os (T k) (rr_run ks os B T k) = 0 ∨ rr_ox os (T k) (rr_run ks os B T k) = 1 by omega) with w | w
      · rw [w, if_pos rfl, if_pos ⟨h, rfl⟩, if_neg (fun y => absurd y.2 (by decide)), decide_eq_true (tt.mpr z)]
      · rw [w, if_neg (by decide), if_neg (fun y => absurd y.2 (by decide)), if_pos ⟨h, rfl⟩, decide_eq_true (tt.mpr z)]
    · have z : ¬ T k = t := by
        rcases z with z | z
        · exact z
        · rw [h] at z; exact absurd z (by decide)
      unfold rr_hd
      rw [st0, st1]
      rcases (show rr_ox os (T k) (rr_run ks os B T k) = 0 ∨ rr_ox os (T k) (rr_run ks os B T k) = 1 by omega) with w | w
      · rw [w] at e3 ⊢
        have e3' : rr_run ks os B T k 8 = -1000000004 := e3
        rw [if_pos ⟨h, rfl⟩, if_neg (fun y => absurd y.2 (by decide)), e3', show decide (nI (T k) = nI t) = false from decide_eq_false (fun y => z (tt.mp y)), dnn]
      · rw [w] at e3 ⊢
        have e3' : rr_run ks os B T k 9 = -1000000004 := e3
        rw [if_neg (fun y => absurd y.2 (by decide)), if_pos ⟨h, rfl⟩, e3', show decide (nI (T k) = nI t) = false from decide_eq_false (fun y => z (tt.mp y)), dnn]
  · have h3 : ¬ ks (rr_op (T k) (rr_run ks os B T k)) = 3 := by rw [h]; decide
    rw [if_neg (c := ks (rr_op (T k) (rr_run ks os B T k)) = 3 ∧ _) (fun z => h3 z.1)] at st0 st1
    have e4 := e4 h
    refine ⟨fun z _ => ⟨_, hx, ex, fun y => absurd y h3, fun _ => ?_⟩, fun z => ?_⟩
    · unfold rr_hd
      rw [rr_h2an _ hx, st0, st1]
      unfold rr_set
      rcases (show rr_ox os (T k) (rr_run ks os B T k) = 0 ∨ rr_ox os (T k) (rr_run ks os B T k) = 1 by omega) with w | w
      · rw [w, if_pos rfl, if_pos ⟨h, rfl⟩, if_neg (fun y => absurd y.2 (by decide)), dnn]
      · rw [w, if_neg (by decide), if_neg (fun y => absurd y.2 (by decide)), if_pos ⟨h, rfl⟩, dnn]
    · have z : ¬ T k = t := by
        rcases z with z | z
        · exact z
        · rw [h] at z; exact absurd z (by decide)
      unfold rr_hd
      rw [st0, st1]
      rcases (show rr_ox os (T k) (rr_run ks os B T k) = 0 ∨ rr_ox os (T k) (rr_run ks os B T k) = 1 by omega) with w | w
      · rw [w] at e4 ⊢
        have e4' : rr_run ks os B T k 8 = nI (T k) := e4
        rw [if_pos ⟨h, rfl⟩, if_neg (fun y => absurd y.2 (by decide)), e4', show decide (nI (T k) = nI t) = false from decide_eq_false (fun y => z (tt.mp y)), dnn]
      · rw [w] at e4 ⊢
        have e4' : rr_run ks os B T k 9 = nI (T k) := e4
        rw [if_neg (fun y => absurd y.2 (by decide)), if_pos ⟨h, rfl⟩, e4', show decide (nI (T k) = nI t) = false from decide_eq_false (fun y => z (tt.mp y)), dnn]
end
section
variable {ec fx cn fy dy : Int32} {sz ks os hi et ek eo mb kb oc pa nt fo bg va rg ho pl dn ol rl sm kp tr fd : Nat → Int32}
variable {S T : Nat → Nat} {n : Nat} {B : Nat → Int32}
theorem xs_held (hG : rr_Go sz ks os S B T n) (hX : rr_Rx n T B ks os hi et ek eo mb kb) {i : Nat} (hil : i < n) {post : Int32 → Prop} (h : post (rr_hd (rr_run ks os B T i) (T i))) : wpX_locksHeldAt post (nI n, fx, sz, ks, os, hi, et, ek, eo, mb, kb, oc, pa, nt, fo) (nI i) := by
  have n8 := rr_Go_8 hG (Nat.le_refl n)
  have vi : vp_in (nI i) 8 := pk_in i 8 (by omega) rfl
  have ci : (nI i).toNatClampNeg = i := nI_clamp (by omega)
  have one : ∀ m, m < 2 → ∀ N x, wX_locksHeldAt_4 post (nI i) (nI n) fx sz ks os hi et ek eo mb kb oc pa nt fo N (if decide (rr_run ks os B T i (8 + m) = nI (T i)) then x ||| ((1 : Int32) <<< (nI m &&& 31)) else x) (nI (m + 1)) → wX_locksHeldAt_4 post (nI i) (nI n) fx sz ks os hi et ek eo mb kb oc pa nt fo (N + 1) x (nI m) := by
    intro m hm N x hw
    have e1 := rr_ix8 i m
    refine br_f (nI_ge (b := 2) hm (by decide)) ⟨pk_in _ _ (by omega) e1, vi, ?_⟩
    rw [e1, ci, nI_clamp (by omega), hX.1 i (by omega) (8 + m) (by omega), (hX.2.1 i hil).1]
    by_cases z : rr_run ks os B T i (8 + m) = nI (T i)
    · rw [decide_eq_true z] at hw; exact br_t z (nm_e (nm_r (nI_1 m) hw))
    · rw [decide_eq_false z] at hw; exact br_f z (nm_r (nI_1 m) hw)
  unfold rr_hd at h
  rw [← rr_h2x] at h
  exact ⟨3, one 0 (by omega) 2 0 (one 1 (by omega) 1 _ (br_t (by decide) h))⟩
theorem ys_held (hG : rr_Go sz ks os S B T n) (hY : rr_Ry n T B ks os bg va rg ho pl dn ol) {i : Nat} (hil : i < n) {post : Int32 → Prop} (h : post (rr_hd (rr_run ks os B T i) (T i))) : wpY_heldAt post (nI n, fy, dy, ks, os, sz, bg, va, rg, ho, pl, dn, ol, rl, sm, kp, tr, fd) (nI i) := by
  have n8 := rr_Go_8 hG (Nat.le_refl n)
  have hE := rr_Ev_of hG
  have hD := rr_Ye_of hY
  have vi : vp_in (nI i) 8 := pk_in i 8 (by omega) rfl
  have ht := (hE.2 i hil).1
  obtain ⟨b1, b2, b3⟩ := ys_div hE hD hil
  refine loop_0 (fun N k (x : Int32) => wY_heldAt_4 post (nI i) (nI n) fy dy ks os sz bg va rg ho pl dn ol rl sm kp tr fd N x (nI k)) (fun k x => x = rr_hd (rr_run ks os B T k) (T i)) i 0 ?_ ?_ ?_
  · show (0 : Int32) = rr_hd B (T i)
    have a0 : B 8 = -1000000004 := hG.2.1.2 0 (by omega)
    have a1 : B 9 = -1000000004 := hG.2.1.2 1 (by omega)
    unfold rr_hd
    rw [a0, a1, decide_eq_false (fun y => rr_none_ne (T i) ht y.symm)]; rfl
  · intro N x hx; subst hx; exact br_t (nI_le (Nat.le_refl i) (by omega)) h
  · intro N k x hkl hx ih
    subst hx
    have vk : vp_in (nI k) 8 := pk_in k 8 (by omega) rfl
    obtain ⟨a1, a2, a3⟩ := ys_div hE hD (show k < n by omega)
    obtain ⟨s1, s2⟩ := rr_hd_step hG (show k < n by omega) ht
    have hT := rr_nIT (hE.2 k (by omega)).1 ht
    refine br_f (nI_ge hkl (by omega)) ⟨vk, by decide, vi, by decide, ?_⟩
    rw [a1, b1]
    by_cases t : T k = T i
    · refine br_t (hT.mpr t) (ys_lock hE hD (by omega) (rr_bd (fun z => nm_r (nI_1 k) (ih _ (s2 (Or.inr (by simpa using z))).symm)) (fun z => ?_)))
      have z' : ¬ ks (rr_od ks os B T k) ≤ 2 := of_decide_eq_true z
      obtain ⟨m, hm, em, f1, f2⟩ := s1 t z'
      refine ⟨vk, a2, nm_r (show _ = (1 : Int32) <<< (nI m &&& 31) by rw [a3, em]) ⟨vk, a2, ?_⟩⟩
      rw [a3]
      by_cases q : ks (rr_od ks os B T k) = 3
      · exact br_t q (nm_r (f1 q) (nm_r (nI_1 k) (ih _ rfl)))
      · exact br_f q (nm_r (f2 q) (nm_r (nI_1 k) (ih _ rfl)))
    · exact br_f (fun z => t (hT.mp z)) (nm_r (nI_1 k) (ih _ (s2 (Or.inl t)).symm))
end
def rr_gd (u : Nat → Bool) (g : Nat → Int32) : Nat → Int32
  | 0 => 3
  | m + 1 => if u m then rr_gd u g m &&& g m else rr_gd u g m
theorem rr_ac2 : ∀ a, a < 5 → (rr_ac (nI a) = true ↔ ¬ 2 ≤ nI a) := by decide +kernel
theorem i_vc_guard {k : Nat} {u : SX} {v : SY} (I : i_Rel k u v) (hk : k + 4 ≤ 2048) (v1 : Int32) : wpX_guard (fun r => wpY_guard (fun r' => r' = r ∧ i_Rel (k + 4) u v) v v1) u v1 := by
  obtain ⟨S, T, n, B, fx, fy, dy, sz, ks, os, hi, et, ek, eo, mb, kb, oc, pa, nt, fo, bg, va, rg, ho, pl, dn, ol, rl, sm, kp, tr, fd, rfl, rfl, hG, hX, hY⟩ := I
  unfold wpX_guard wpY_guard
  have same : i_Rel (k + 4) (nI n, fx, sz, ks, os, hi, et, ek, eo, mb, kb, oc, pa, nt, fo) (nI n, fy, dy, ks, os, sz, bg, va, rg, ho, pl, dn, ol, rl, sm, kp, tr, fd) := rr_mk hG hX hY
  have n8 := rr_Go_8 hG (Nat.le_refl n)
  have hE := rr_Ev_of hG
  have hD := rr_Ye_of hY
  rcases rr_arg2 v1 with h | ⟨t, ht, rfl⟩
  · exact xs_var_f h (br_t rfl (ys_in_f (b := 1) (by omega) h (br_t rfl ⟨rfl, same⟩)))
  · refine xs_var_t ht (br_f (by decide) ?_)
    let us : Nat → Bool := fun i => rr_ac (ks (rr_od ks os B T i)) && decide (os (rr_od ks os B T i) = nI t)
    let g : Nat → Int32 := fun i => rr_hd (rr_run ks os B T i) (T i)
    have gt : ∀ m, us m = true → rr_gd us g (m + 1) = rr_gd us g m &&& g m := fun m z => if_pos z
    have gf : ∀ m, us m = false → rr_gd us g (m + 1) = rr_gd us g m := fun m z => if_neg (by rw [z]; decide)
    have yy : ∃ N, wY_guard_16 (fun r' => r' = rr_gd us g n ∧ i_Rel (k + 4) (nI n, fx, sz, ks, os, hi, et, ek, eo, mb, kb, oc, pa, nt, fo) (nI n, fy, dy, ks, os, sz, bg, va, rg, ho, pl, dn, ol, rl, sm, kp, tr, fd)) (nI t) (nI n) fy dy ks os sz bg va rg ho pl dn ol rl sm kp tr fd N 3 0 := by
      refine loop_0 (fun N i (x : Int32) => wY_guard_16 (fun r' => r' = rr_gd us g n ∧ i_Rel (k + 4) (nI n, fx, sz, ks, os, hi, et, ek, eo, mb, kb, oc, pa, nt, fo) (nI n, fy, dy, ks, os, sz, bg, va, rg, ho, pl, dn, ol, rl, sm, kp, tr, fd)) (nI t) (nI n) fy dy ks os sz bg va rg ho pl dn ol rl sm kp tr fd N x (nI i)) (fun i x => x = rr_gd us g i) n 3 rfl ?_ ?_
      · intro N x hx; subst hx; exact br_t (nI_le (Nat.le_refl n) (by omega)) ⟨rfl, same⟩
      · intro N i x hil hx ih
        subst hx
        have vi : vp_in (nI i) 8 := pk_in i 8 (by omega) rfl
        obtain ⟨a1, a2, a3⟩ := ys_div hE hD hil
        obtain ⟨k1, hk1, e1, _⟩ := hG.1.2.2 (rr_od ks os B T i) (hE.2 i hil).2.1
        have q := rr_ac2 k1 (by omega)
        rw [← e1] at q
        have no : us i = false → wY_guard_58 (fun r' => r' = rr_gd us g n ∧ i_Rel (k + 4) (nI n, fx, sz, ks, os, hi, et, ek, eo, mb, kb, oc, pa, nt, fo) (nI n, fy, dy, ks, os, sz, bg, va, rg, ho, pl, dn, ol, rl, sm, kp, tr, fd)) (wY_guard_16 (fun r' => r' = rr_gd us g n ∧ i_Rel (k + 4) (nI n, fx, sz, ks, os, hi, et, ek, eo, mb, kb, oc, pa, nt, fo) (nI n, fy, dy, ks, os, sz, bg, va, rg, ho, pl, dn, ol, rl, sm, kp, tr, fd)) (nI t) (nI n) fy dy ks os sz bg va rg ho pl dn ol rl sm kp tr fd N) (nI t) (rr_gd us g i) (nI i) (nI n) fy dy ks os sz bg va rg ho pl dn ol rl sm kp tr fd := fun z => br_t rfl (nm_r (nI_1 i) (ih _ (gf i z).symm))
        refine br_f (nI_ge hil (by omega)) ⟨vi, a2, ?_⟩
        rw [a3]
        by_cases z : 2 ≤ ks (rr_od ks os B T i)
        · refine br_t z (no ?_)
          show (rr_ac (ks (rr_od ks os B T i)) && decide (os (rr_od ks os B T i) = nI t)) = false
          rcases y : rr_ac (ks (rr_od ks os B T i)) with _ | _
          · rfl
          · exact absurd z (q.mp y)
        · refine br_f z ⟨vi, a2, ?_⟩
          by_cases y : os (rr_od ks os B T i) = nI t
          · have hu : us i = true := by
              show (rr_ac (ks (rr_od ks os B T i)) && decide (os (rr_od ks os B T i) = nI t)) = true
              rw [q.mpr z, decide_eq_true y]; rfl
            refine br_t y (br_f (by decide) (ys_held hG hY hil (nm_e (nm_r (nI_1 i) (ih _ (gt i hu).symm)))))
          · refine br_f y (no ?_)
            show (rr_ac (ks (rr_od ks os B T i)) && decide (os (rr_od ks os B T i) = nI t)) = false
            rw [decide_eq_false y, Bool.and_false]
    refine loop_0 (fun N i (x : Int32) => wX_guard_14 _ (nI t) (nI n) fx sz ks os hi et ek eo mb kb oc pa nt fo N x (nI i)) (fun i x => x = rr_gd us g i) n 3 rfl ?_ ?_
    · intro N x hx; subst hx
      exact br_t (nI_le (Nat.le_refl n) (by omega)) (ys_in_t (b := 1) (by omega) (by omega) (br_f (by decide) yy))
    · intro N i x hil hx ih
      subst hx
      have vi : vp_in (nI i) 8 := pk_in i 8 (by omega) rfl
      have ci : (nI i).toNatClampNeg = i := nI_clamp (by omega)
      refine br_f (nI_ge hil (by omega)) ⟨vi, ?_⟩
      rw [ci, (hX.2.1 i hil).2.1, (hX.2.1 i hil).2.2]
      refine xs_acc (rr_bd (fun z => nm_r (nI_1 i) (ih _ (gf i ?_).symm)) (fun z => ⟨vi, ?_⟩))
      · show (rr_ac (ks (rr_od ks os B T i)) && decide (os (rr_od ks os B T i) = nI t)) = false
        rw [z]; rfl
      · by_cases y : os (rr_od ks os B T i) = nI t
        · have hu : us i = true := by
            show (rr_ac (ks (rr_od ks os B T i)) && decide (os (rr_od ks os B T i) = nI t)) = true
            rw [z, decide_eq_true y]; rfl
          exact br_t y (xs_held hG hX hil (nm_e (nm_r (nI_1 i) (ih _ (gt i hu).symm))))
        · refine br_f y (nm_r (nI_1 i) (ih _ (gf i ?_).symm))
          show (rr_ac (ks (rr_od ks os B T i)) && decide (os (rr_od ks os B T i) = nI t)) = false
          rw [decide_eq_false y, Bool.and_false]
