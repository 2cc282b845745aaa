theorem rr_Rx0 {T : Nat → Nat} {B ks os hi et ek eo mb kb : Nat → Int32} (h : ∀ c, c < 10 → hi c = B c) : rr_Rx 0 T B ks os hi et ek eo mb kb := by
  refine ⟨fun e he c hc => ?_, fun i hil => by omega, fun i hil => by omega, fun i hil => by omega⟩
  obtain rfl : e = 0 := by omega
  rw [show 10 * 0 + c = c by omega]; exact h c hc
theorem rr_Rx0' {n : Nat} {T : Nat → Nat} {B ks os hi et ek eo mb kb : Nat → Int32} (h : rr_Rx n T B ks os hi et ek eo mb kb) : ∀ c, c < 10 → hi c = B c := by
  intro c hc
  have := h.1 0 (by omega) c hc
  rw [show 10 * 0 + c = c by omega] at this; exact this
def rr_fit (k x : Int32) : Bool := if k = 2 then decide (¬ x < -9) && decide (¬ 9 < x) else decide (¬ x < 0) && decide (¬ 1 < x)
theorem rr_21 (x : Int32) : nI 2 ≤ x ↔ 1 < x := by
  rw [Int32.le_iff_toInt_le, Int32.lt_iff_toInt_lt, show (nI 2).toInt = 2 from by decide, show (1 : Int32).toInt = 1 from by decide]
  omega
theorem rr_fit_v {k x : Int32} (hk : ¬ k = 2) (h : rr_fit k x = true) : ∃ j, j < 2 ∧ x = nI j := by
  unfold rr_fit at h
  rw [if_neg hk, Bool.and_eq_true] at h
  have h1 := of_decide_eq_true h.1
  have h2 := of_decide_eq_true h.2
  rcases rr_arg2 x with (z | z) | z
  · exact absurd z h1
  · exact absurd ((rr_21 x).mp z) h2
  · exact z
theorem rr_fit_n {k x : Int32} (hk : ¬ k = 2) (h : rr_fit k x = false) : x < 0 ∨ nI 2 ≤ x := by
  unfold rr_fit at h
  rw [if_neg hk] at h
  rcases rr_arg2 x with z | ⟨j, hj, rfl⟩
  · exact z
  · have a : ¬ nI j < 0 := nI_pos (by omega)
    have b : ¬ (1 : Int32) < nI j := fun y => by
      have := (rr_21 (nI j)).mpr y
      rw [nI_leI (by omega) (by omega)] at this; omega
    rw [decide_eq_true a, decide_eq_true b] at h; cases h
section
variable {k : Nat} {x : Int32}
theorem xs_oper_k {p : Int32} (hp : p < 0 ∨ nI 5 ≤ p) {post : Int32 → Prop} (h : post 0) : wpX_isOperation post p x := by
  have key : ∀ m, m < 5 → ¬ p = nI m := by
    intro m hm e
    subst e
    rcases hp with z | z
    · exact nI_pos (by omega) z
    · rw [nI_leI (by omega) (by omega)] at z; omega
  have k0 : ¬ p = 0 := key 0 (by omega)
  have k1 : ¬ p = 1 := key 1 (by omega)
  have k2 : ¬ p = 2 := key 2 (by omega)
  have k3 : ¬ p = 3 := key 3 (by omega)
  have k4 : ¬ p = 4 := key 4 (by omega)
  exact br_f k2 (br_f k0 (br_f k1 (br_t rfl (br_f k3 (br_f k4 (br_t rfl h))))))
theorem xs_oper (hk : k < 5) {post : Int32 → Prop} (h : post (rr_b (rr_fit (nI k) x))) : wpX_isOperation post (nI k) x := by
  by_cases h2 : nI k = 2
  · unfold rr_fit at h
    rw [if_pos h2] at h
    refine br_t h2 ?_
    by_cases a : x < -9
    · rw [decide_eq_false (fun z => z a)] at h; exact br_t a h
    · rw [decide_eq_true a] at h
      refine br_f a ?_
      by_cases b : 9 < x
      · rw [decide_eq_false (fun z => z b)] at h; exact br_t b h
      · rw [decide_eq_true b] at h; exact br_f b h
  · refine br_f h2 (xs_acc (rr_bd (fun z => xs_lck (rr_bd (fun y => ?_) (fun y => ?_))) (fun z => ?_)))
    · exfalso
      have : ∀ k, k < 5 → ¬ nI k = 2 → rr_ac (nI k) = false → rr_lc (nI k) = false → False := by decide +kernel
      exact this k hk h2 z y
    · rcases f : rr_fit (nI k) x with _ | _
      · rw [f] at h
        exact xs_lok_f (rr_fit_n h2 f) (br_t rfl h)
      · rw [f] at h
        obtain ⟨j, hj, rfl⟩ := rr_fit_v h2 f
        exact xs_lok_t hj (br_f (by decide) h)
    · rcases f : rr_fit (nI k) x with _ | _
      · rw [f] at h
        exact xs_var_f (rr_fit_n h2 f) ⟨rr_nar_b 0 (Or.inl rfl), h⟩
      · rw [f] at h
        obtain ⟨j, hj, rfl⟩ := rr_fit_v h2 f
        exact xs_var_t hj ⟨rr_nar_b 1 (Or.inr rfl), h⟩
end
section
variable {cn fy dy : Int32} {ks os sz bg va rg ho pl dn ol rl sm kp tr fd : Nat → Int32}
theorem ys_prog {p0 p1 p2 : Int32} {post : Int32 → SY → Prop} (h : wY_program_31 post p0 p1 p2 (rr_b (rr_fit p1 p2)) cn fy dy ks os sz bg va rg ho pl dn ol rl sm kp tr fd) : wpY_program post (cn, fy, dy, ks, os, sz, bg, va, rg, ho, pl, dn, ol, rl, sm, kp, tr, fd) p0 p1 p2 := by
  by_cases h2 : p1 = 2
  · unfold rr_fit at h
    rw [if_pos h2] at h
    refine br_t h2 ?_
    by_cases a : p2 < -9
    · rw [decide_eq_false (fun z => z a)] at h; exact br_t a h
    · rw [decide_eq_true a] at h
      refine br_f a ?_
      by_cases b : 9 < p2
      · rw [decide_eq_false (fun z => z b)] at h; exact br_t b h
      · rw [decide_eq_true b] at h; exact br_f b h
  · refine br_f h2 ?_
    rcases f : rr_fit p1 p2 with _ | _
    · rw [f] at h
      exact ys_in_f (b := 1) (by omega) (rr_fit_n h2 f) h
    · rw [f] at h
      obtain ⟨j, hj, rfl⟩ := rr_fit_v h2 f
      exact ys_in_t (b := 1) (by omega) (by omega) h
end
theorem i_vc_program {k : Nat} {u : SX} {v : SY} (I : i_Rel k u v) (hk : k + 4 ≤ 2048) (v1 : Int32) (v2 : Int32) (v3 : Int32) : wpX_program (fun r u' => wpY_program (fun r' v' => r' = r ∧ i_Rel (k + 4) u' v') v v1 v2 v3) u v1 v2 v3 := by
  obtain ⟨S, T, n, B, fx, fy, dy, sz, ks, os, hi, et, ek, eo, mb, kb, oc, pa, nt, fo, bg, va, rg, ho, pl, dn, ol, rl, sm, kp, tr, fd, rfl, rfl, hG, hX, hY⟩ := I
  unfold wpX_program
  have same : ∀ x : Int32, x = x ∧ i_Rel (k + 4) (nI n, fx, sz, ks, os, hi, et, ek, eo, mb, kb, oc, pa, nt, fo) (nI n, fy, dy, ks, os, sz, bg, va, rg, ho, pl, dn, ol, rl, sm, kp, tr, fd) := fun x => ⟨rfl, rr_mk hG hX hY⟩
  have n8 := rr_Go_8 hG (Nat.le_refl n)
  rcases rr_arg3 v1 with h | ⟨t, ht, rfl⟩
  · exact xs_thd_f h (br_t rfl (ys_prog (ys_in_f (b := 2) (by omega) h (br_t rfl (same _)))))
  · refine xs_thd_t ht (br_f (by decide) ?_)
    rcases rr_arg5 v2 with h | ⟨q, hq, rfl⟩
    · exact xs_oper_k h (br_t rfl (ys_prog (ys_in_t (b := 2) (by omega) (by omega) (br_f (by decide) (ys_in_f (b := 4) (by omega) h (br_t rfl (same _)))))))
    · refine xs_oper hq (rr_bd (fun f => ?_) (fun f => ?_))
      · exact ys_prog (ys_in_t (b := 2) (by omega) (by omega) (br_f (by decide) (ys_in_t (b := 4) (by omega) (by omega) (br_f (by decide) (rr_bf f (same _))))))
      · rcases Nat.eq_zero_or_pos n with hn | hn
        · subst hn
          have ct : (nI t).toNatClampNeg = t := nI_clamp (by omega)
          have vt : vp_in (nI t) 3 := pk_in t 3 ht rfl
          have hS := rr_S4 hG.1 ht
          have e0 := (hG.1.1 0 (by omega)).1
          have e1 := (hG.1.1 1 (by omega)).1
          have e2 := (hG.1.1 2 (by omega)).1
          have et' := (hG.1.1 t ht).1
          have s8 := hG.1.2.1
          have hsum : sz 0 + sz 1 + sz 2 = nI (S 0 + S 1 + S 2) := by rw [e0, e1, e2, nI_add, nI_add]
          have szt : sz (nI t).toNatClampNeg = nI (S t) := by rw [ct]; exact et'
          refine br_t (show nI 0 ≤ 0 by decide) ⟨vt, ?_⟩
          rw [szt, hsum]
          have yw : ∀ post : Int32 → SY → Prop, (S t = 4 → post (-1000000002) (nI 0, fy, dy, ks, os, sz, bg, va, rg, ho, pl, dn, ol, rl, sm, kp, tr, fd)) → (S t ≠ 4 → S 0 + S 1 + S 2 = 8 → post (-1000000002) (nI 0, fy, dy, ks, os, sz, bg, va, rg, ho, pl, dn, ol, rl, sm, kp, tr, fd)) → (S t ≠ 4 → S 0 + S 1 + S 2 ≠ 8 → post (nI (S t)) (nI 0, fy, dy, (upd ks (4 * t + S t) (nI q)), (upd os (4 * t + S t) v3), (upd sz t (nI (S t + 1))), bg, va, rg, ho, pl, dn, ol, rl, sm, kp, tr, fd)) → wpY_program post (nI 0, fy, dy, ks, os, sz, bg, va, rg, ho, pl, dn, ol, rl, sm, kp, tr, fd) (nI t) (nI q) v3 := by
            intro post a b c
            refine ys_prog (ys_in_t (b := 2) (by omega) (by omega) (br_f (by decide) (ys_in_t (b := 4) (by omega) (by omega) (br_f (by decide) (rr_bt f (br_t (show nI 0 ≤ 0 by decide) ⟨vt, ?_⟩))))))
            rw [szt, hsum]
            refine pk_eq (S t) 4 a (fun h4 => pk_eq (S 0 + S 1 + S 2) 8 (b h4) (fun h8 => ?_))
            have ix : 4 * nI t + nI (S t) = nI (4 * t + S t) := by rw [show (4 : Int32) = nI 4 from rfl, pk_mul, nI_add]
            have cix : (nI (4 * t + S t)).toNatClampNeg = 4 * t + S t := nI_clamp (by omega)
            rw [ix]
            refine ⟨vt, pk_in _ _ (by omega) rfl, nm_r (show _ = upd ks (4 * t + S t) (nI q) by rw [cix]) ⟨vt, pk_in _ _ (by omega) rfl, nm_r (show _ = upd os (4 * t + S t) v3 by rw [cix]) ⟨vt, vt, nm_r (show _ = upd sz t (nI (S t + 1)) by rw [ct, nI_1]) ⟨vt, ?_⟩⟩⟩⟩
            have : upd sz t (nI (S t + 1)) (nI t).toNatClampNeg - 1 = nI (S t) := by rw [ct, pk_us, nI_pred]
            rw [this]; exact c h4 h8
          refine pk_le 4 (S t) (fun h4 => yw _ (fun _ => same _) (fun z => by omega) (fun z => by omega)) (fun h4 => ?_)
          refine pk_lt (S 0 + S 1 + S 2) 8 (fun h8 => ?_) (fun h8 => yw _ (fun z => by omega) (fun _ _ => same _) (fun _ z => by omega))
          have ix : nI t * 4 + nI (S t) = nI (4 * t + S t) := by rw [show (4 : Int32) = nI 4 from rfl, pk_mul, nI_add, Nat.mul_comm]
          have cix : (nI (4 * t + S t)).toNatClampNeg = 4 * t + S t := nI_clamp (by omega)
          have vix : vp_in (nI t * 4 + nI (S t)) 12 := pk_in _ _ (by omega) ix
          refine ⟨vt, nm_e ⟨vix, nm_r (show _ = upd ks (4 * t + S t) (nI q) by rw [ix, cix]) ⟨vix, nm_r (show _ = upd os (4 * t + S t) v3 by rw [ix, cix]) ⟨vt, nm_r (show _ = upd sz t (nI (S t + 1)) by rw [ct, nI_1]) (yw _ (fun z => by omega) (fun _ z => by omega) (fun _ _ => ⟨rfl, ?_⟩))⟩⟩⟩⟩
          have hP' : rr_Pg (upd sz t (nI (S t + 1))) (upd ks (4 * t + S t) (nI q)) (upd os (4 * t + S t) v3) (rr_inc t S) := by
            refine ⟨fun s hs => ?_, by rw [rr_inc_sum ht]; omega, fun j hj => ?_⟩
            · unfold rr_inc
              rcases Nat.decEq s t with z | z
              · rw [pk_un z, if_neg z]; exact hG.1.1 s hs
              · rw [z, pk_us, if_pos rfl]; exact ⟨rfl, by omega⟩
            · rcases Nat.decEq j (4 * t + S t) with z | z
              · rw [pk_un z, pk_un z]; exact hG.1.2.2 j hj
              · rw [z, pk_us, pk_us]
                refine ⟨q, by omega, rfl, fun h2 => rr_fit_v (fun y => h2 ?_) f⟩
                exact (nI_eq (a := q) (b := 2) (by omega) (by omega)).mp y
          exact rr_mk (n := 0) (S := rr_inc t S) (T := T) (B := B) ⟨hP', hG.2.1, fun i hil => by omega⟩ (rr_Rx0 (rr_Rx0' hX)) ⟨hY.1, hY.2.1, fun i hil => by omega⟩
        · refine br_f (nI_nle hn (by omega)) (ys_prog (ys_in_t (b := 2) (by omega) (by omega) (br_f (by decide) (ys_in_t (b := 4) (by omega) (by omega) (br_f (by decide) (rr_bt f (br_f (nI_nle hn (by omega)) (same _))))))))
theorem i_vc_begin {k : Nat} {u : SX} {v : SY} (I : i_Rel k u v) (hk : k + 4 ≤ 2048) (v1 : Int32) (v2 : Int32) : wpX_begin (fun r u' => wpY_begin (fun r' v' => r' = r ∧ i_Rel (k + 4) u' v') v v1 v2) u v1 v2 := by
  obtain ⟨S, T, n, B, fx, fy, dy, sz, ks, os, hi, et, ek, eo, mb, kb, oc, pa, nt, fo, bg, va, rg, ho, pl, dn, ol, rl, sm, kp, tr, fd, rfl, rfl, hG, hX, hY⟩ := I
  unfold wpX_begin wpY_begin
  have same : ∀ x : Int32, x = x ∧ i_Rel (k + 4) (nI n, fx, sz, ks, os, hi, et, ek, eo, mb, kb, oc, pa, nt, fo) (nI n, fy, dy, ks, os, sz, bg, va, rg, ho, pl, dn, ol, rl, sm, kp, tr, fd) := fun x => ⟨rfl, rr_mk hG hX hY⟩
  have n8 := rr_Go_8 hG (Nat.le_refl n)
  rcases rr_arg2 v1 with h | ⟨t, ht, rfl⟩
  · exact xs_var_f h (br_t rfl (ys_in_f (b := 1) (by omega) h (br_t rfl (same _))))
  · refine xs_var_t ht (br_f (by decide) ?_)
    have ct : (nI t).toNatClampNeg = t := nI_clamp (by omega)
    have vt : vp_in (nI t) 2 := pk_in t 2 ht rfl
    rcases Nat.eq_zero_or_pos n with hn | hn
    · subst hn
      have v90 : vp_in (nI t) 90 := pk_in t 90 (by omega) rfl
      have hh : hi t = B t := by
        have := hX.1 0 (by omega) t (by omega)
        rw [show 10 * 0 + t = t by omega] at this; exact this
      refine br_t (show nI 0 ≤ 0 by decide) ⟨v90, nm_r (show _ = B t by rw [ct]; exact hh) ⟨v90, nm_r (show _ = upd hi t v2 by rw [ct]) (ys_in_t (b := 1) (by omega) (by omega) (br_f (by decide) (br_t (show nI 0 ≤ 0 by decide) ⟨vt, nm_r (show _ = B t by rw [ct]; exact hY.1 t ht) ⟨vt, nm_r (show _ = upd bg t v2 by rw [ct]) ⟨vt, nm_r (show _ = upd va t v2 by rw [ct]) ⟨rfl, ?_⟩⟩⟩⟩)))⟩⟩
      have ub : ∀ c, c ≠ t → upd B t v2 c = B c := fun c hc => pk_un hc
      refine rr_mk (n := 0) (S := S) (T := T) (B := upd B t v2) ⟨hG.1, ⟨fun s hs => ?_, fun m hm => ?_⟩, fun i hil => by omega⟩ ⟨fun e he c hc => ?_, fun i hil => by omega, fun i hil => by omega, fun i hil => by omega⟩ ⟨fun w hw => ?_, ⟨fun w hw => ?_, fun s hs => ?_, fun m hm => ?_⟩, fun i hil => by omega⟩
      · rw [ub _ (by omega), ub _ (by omega)]; exact hG.2.1.1 s hs
      · rw [ub _ (by omega)]; exact hG.2.1.2 m hm
      · obtain rfl : e = 0 := by omega
        have := hX.1 0 (by omega) c hc
        rw [show 10 * 0 + c = c by omega] at this ⊢
        show upd hi t v2 c = upd B t v2 c
        rcases Nat.decEq c t with z | z
        · rw [pk_un z, pk_un z]; exact this
        · rw [z, pk_us, pk_us]
      · rcases Nat.decEq w t with z | z
        · rw [pk_un z, pk_un z]; exact hY.1 w hw
        · rw [z, pk_us, pk_us]
      · show upd va t v2 w = upd B t v2 w
        rcases Nat.decEq w t with z | z
        · rw [pk_un z, pk_un z]; exact hY.2.1.1 w hw
        · rw [z, pk_us, pk_us]
      · show rg s = upd B t v2 (2 + s) ∧ pl s = upd B t v2 (5 + s)
        rw [ub _ (by omega), ub _ (by omega)]; exact hY.2.1.2.1 s hs
      · show ho m = rr_hm (upd B t v2 (8 + m))
        rw [ub _ (by omega)]; exact hY.2.1.2.2 m hm
    · exact br_f (nI_nle hn (by omega)) (ys_in_t (b := 1) (by omega) (by omega) (br_f (by decide) (br_f (nI_nle hn (by omega)) (same _))))
theorem i_vc_unprogram {k : Nat} {u : SX} {v : SY} (I : i_Rel k u v) (hk : k + 4 ≤ 2048) (v1 : Int32) : wpX_unprogram (fun r u' => wpY_unprogram (fun r' v' => r' = r ∧ i_Rel (k + 4) u' v') v v1) u v1 := by
  obtain ⟨S, T, n, B, fx, fy, dy, sz, ks, os, hi, et, ek, eo, mb, kb, oc, pa, nt, fo, bg, va, rg, ho, pl, dn, ol, rl, sm, kp, tr, fd, rfl, rfl, hG, hX, hY⟩ := I
  unfold wpX_unprogram wpY_unprogram
  have same : ∀ x : Int32, x = x ∧ i_Rel (k + 4) (nI n, fx, sz, ks, os, hi, et, ek, eo, mb, kb, oc, pa, nt, fo) (nI n, fy, dy, ks, os, sz, bg, va, rg, ho, pl, dn, ol, rl, sm, kp, tr, fd) := fun x => ⟨rfl, rr_mk hG hX hY⟩
  have n8 := rr_Go_8 hG (Nat.le_refl n)
  rcases rr_arg3 v1 with h | ⟨t, ht, rfl⟩
  · exact xs_thd_f h (br_t rfl (ys_in_f (b := 2) (by omega) h (br_t rfl (same _))))
  · refine xs_thd_t ht (br_f (by decide) ?_)
    have ct : (nI t).toNatClampNeg = t := nI_clamp (by omega)
    have vt : vp_in (nI t) 3 := pk_in t 3 ht rfl
    rcases Nat.eq_zero_or_pos n with hn | hn
    · subst hn
      have hS := rr_S4 hG.1 ht
      have szt : sz (nI t).toNatClampNeg = nI (S t) := by rw [ct]; exact (hG.1.1 t ht).1
      have s8 := hG.1.2.1
      by_cases h0 : S t = 0
      · have z : sz (nI t).toNatClampNeg = 0 := by rw [szt, h0]; rfl
        exact br_t (show nI 0 ≤ 0 by decide) ⟨vt, br_t z (ys_in_t (b := 2) (by omega) (by omega) (br_f (by decide) (br_t (show nI 0 ≤ 0 by decide) ⟨vt, br_t z (same _)⟩)))⟩
      · have z : ¬ sz (nI t).toNatClampNeg = 0 := by rw [szt]; exact nI_ne0 (by omega) (by omega)
        have up : upd sz (nI t).toNatClampNeg (sz (nI t).toNatClampNeg - 1) = upd sz t (nI (S t - 1)) := by
          rw [szt, ct]
          have : nI (S t) - 1 = nI (S t - 1) := pk_sub (b := 1) (by omega)
          rw [this]
        refine br_t (show nI 0 ≤ 0 by decide) ⟨vt, br_f z ⟨vt, vt, nm_r up ⟨vt, ys_in_t (b := 2) (by omega) (by omega) (br_f (by decide) (br_t (show nI 0 ≤ 0 by decide) ⟨vt, br_f z ⟨vt, vt, nm_r up ⟨vt, rfl, ?_⟩⟩⟩))⟩⟩⟩
        have hP' : rr_Pg (upd sz t (nI (S t - 1))) ks os (rr_dec t S) := by
          refine ⟨fun s hs => ?_, ?_, hG.1.2.2⟩
          · unfold rr_dec
            rcases Nat.decEq s t with z | z
            · rw [pk_un z, if_neg z]; exact hG.1.1 s hs
            · rw [z, pk_us, if_pos rfl]; exact ⟨rfl, by omega⟩
          · unfold rr_dec
            rcases (show t = 0 ∨ t = 1 ∨ t = 2 by omega) with rfl | rfl | rfl <;> simp <;> omega
        exact rr_mk (n := 0) (S := rr_dec t S) (T := T) (B := B) ⟨hP', hG.2.1, fun i hil => by omega⟩ ⟨hX.1, fun i hil => by omega, fun i hil => by omega, fun i hil => by omega⟩ ⟨hY.1, hY.2.1, fun i hil => by omega⟩
    · exact br_f (nI_nle hn (by omega)) (ys_in_t (b := 2) (by omega) (by omega) (br_f (by decide) (br_f (nI_nle hn (by omega)) (same _))))
