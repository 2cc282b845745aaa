theorem rr_rk : ∀ a, a < 5 → ∀ b, b < 5 → rr_cfk (nI a) (nI b) = true → rr_ac (nI b) = !(decide (¬ nI a ≤ 2)) := by decide +kernel
def rr_rc (ks os : Nat → Int32) (T od : Nat → Nat) (P : Nat → Nat → Bool) (i j : Nat) : Bool := rr_ac (ks (od j)) && (rr_cf ks os T od i j && !(P i j))
def rr_fst (f : Nat → Nat → Bool) : Nat → Nat → Int32
  | 0, _ => -1000000004
  | d + 1, j => if rr_cs (fun i => f i j) j = 0 then rr_fst f d (j + 1) else nI j
section
variable {ec fx cn fy dy : Int32} {sz ks os hi et ek eo mb kb oc pa nt fo bg va rg ho pl dn ol rl sm kp tr fd : Nat → Int32}
variable {S T od : Nat → Nat} {n : Nat} {P : Nat → Nat → Bool}
theorem xs_ending (hE : rr_Ev n T od) (hX : rr_Xe n ks os T od et ek eo) (hM : ∀ j, j < n → ∀ b, b < 32 → bt (kb j) b = P b j) {j : Nat} (hj : j < n) {post : Int32 → Prop} (h : post (nI (rr_cs (fun i => rr_rc ks os T od P i j) j))) : wpX_racesEndingAt post (nI n, fx, sz, ks, os, hi, et, ek, eo, mb, kb, oc, pa, nt, fo) (nI j) := by
  have n8 := hE.1
  have vj : vp_in (nI j) 8 := pk_in j 8 (by omega) rfl
  have cj : (nI j).toNatClampNeg = j := nI_clamp (by omega)
  refine rr_one (j := j) (g := fun i => rr_rc ks os T od P i j) (K := post) (fun M x i => wX_racesEndingAt_4 post (nI j) (nI n) fx sz ks os hi et ek eo mb kb oc pa nt fo M x i) 0 (fun M x hK => br_t (nI_le (Nat.le_refl j) (by omega)) hK) (fun M i x hil h1 h2 => br_f (nI_ge hil (by omega)) ⟨vj, ?_⟩) (by rw [Nat.zero_add]; exact h)
  rw [cj, (hX j hj).2.1]
  have hf : rr_rc ks os T od P i j = (rr_ac (ks (od j)) && (rr_cf ks os T od i j && !(P i j))) := rfl
  rw [hf] at h1 h2
  refine xs_acc (rr_bd (fun z => nm_r (nI_1 i) (h2 (by rw [z]; rfl))) (fun z => xs_conf hE hX (by omega) hj (rr_bd (fun y => nm_r (nI_1 i) (h2 (by rw [y]; simp))) (fun y => ⟨vj, xs_cont (by omega) ?_⟩))))
  rw [hM j hj i (by omega)]
  exact rr_bd (fun w => nm_e (nm_r (nI_1 i) (h1 (by rw [z, y, w]; rfl)))) (fun w => nm_r (nI_1 i) (h2 (by rw [w]; simp)))
theorem ys_isRace (hP : rr_Pg sz ks os S) (hE : rr_Ev n T od) (hD : rr_Ye n od dn) (hM : ∀ i, i < 8 → ∀ j, j < 8 → rl (8 * i + j) = rr_b (decide (j < n) && P i j)) {i j : Nat} (hil : i < n) (hj : j < n) {post : Int32 → Prop} (h : post (rr_b (rr_rc ks os T od P i j))) : wpY_isRace post (nI n, fy, dy, ks, os, sz, bg, va, rg, ho, pl, dn, ol, rl, sm, kp, tr, fd) (nI i) (nI j) := by
  have n8 := hE.1
  unfold wpY_isRace
  obtain ⟨k1, hk1, e1, _⟩ := hP.2.2 (od i) (hE.2 i hil).2.1
  obtain ⟨k2, hk2, e2, _⟩ := hP.2.2 (od j) (hE.2 j hj).2.1
  unfold rr_rc at h
  refine ys_conf hP hE hD hil hj (rr_bd (fun z => ?_) (fun z => ys_lock hE hD hil ?_))
  · rw [z, Bool.false_and, Bool.and_false] at h; exact h
  · have hk : rr_cfk (ks (od i)) (ks (od j)) = true := by
      unfold rr_cf at z
      rw [Bool.and_eq_true, Bool.and_eq_true] at z; exact z.2.2
    have q : rr_ac (ks (od j)) = !(decide (¬ ks (od i) ≤ 2)) := by
      rw [e1, e2] at hk ⊢; exact rr_rk k1 (by omega) k2 (by omega) hk
    rw [q, z, Bool.true_and] at h
    refine rr_bd (fun y => ⟨pk_in _ _ (by omega) (rr_ixr i j), ?_⟩) (fun y => ?_)
    · rw [rr_ixr, nI_clamp (by omega), hM i (by omega) j (by omega), decide_eq_true hj, Bool.true_and]
      rw [y] at h
      refine rr_bd (fun w => ?_) (fun w => ?_)
      · rw [w] at h; exact h
      · rw [w] at h; exact h
    · rw [y] at h; exact h
theorem xs_races (hE : rr_Ev n T od) (hX : rr_Xe n ks os T od et ek eo) (hM : ∀ j, j < n → ∀ b, b < 32 → bt (kb j) b = P b j) {post : Int32 → Prop} (h : post (nI (rr_ct (rr_rc ks os T od P) n))) : wpX_races post (nI n, fx, sz, ks, os, hi, et, ek, eo, mb, kb, oc, pa, nt, fo) := by
  have n8 := hE.1
  refine loop_0 (fun N j (x : Int32) => wX_races_4 post (nI n) fx sz ks os hi et ek eo mb kb oc pa nt fo N x (nI j)) (fun j x => x = nI (rr_ct (rr_rc ks os T od P) j)) n 0 rfl ?_ ?_
  · intro N x hx; subst hx; exact br_t (nI_le (Nat.le_refl n) (by omega)) h
  · intro N j x hj hx ih
    subst hx
    exact br_f (nI_ge hj (by omega)) (xs_ending hE hX hM hj (nm_r (nI_add _ _) (nm_r (nI_1 j) (ih _ rfl))))
theorem ys_races9 (hP : rr_Pg sz ks os S) (hE : rr_Ev n T od) (hD : rr_Ye n od dn) (hM : ∀ i, i < 8 → ∀ j, j < 8 → rl (8 * i + j) = rr_b (decide (j < n) && P i j)) {post : Int32 → SY → Prop} (h : post (nI (rr_ct (rr_rc ks os T od P) n)) (nI n, fy, dy, ks, os, sz, bg, va, rg, ho, pl, dn, ol, rl, sm, kp, tr, fd)) : ∃ N, wY_races_9 post (nI n) fy dy ks os sz bg va rg ho pl dn ol rl sm kp tr fd N 0 0 := by
  have n8 := hE.1
  exact rr_dbl (n := n) (f := rr_rc ks os T od P) (K := fun x => post x (nI n, fy, dy, ks, os, sz, bg, va, rg, ho, pl, dn, ol, rl, sm, kp, tr, fd)) (fun N x j => wY_races_9 post (nI n) fy dy ks os sz bg va rg ho pl dn ol rl sm kp tr fd N x j) (fun J j M x i => wY_races_19 post J (nI j) (nI n) fy dy ks os sz bg va rg ho pl dn ol rl sm kp tr fd M x i) (fun N x hp => br_t (nI_le (Nat.le_refl n) (by omega)) hp) (fun N j x hj hv => br_f (nI_ge hj (by omega)) hv) (fun J j M x hj hJ => br_t (nI_le (Nat.le_refl j) (by omega)) (nm_r (nI_1 j) hJ)) (fun J j M i x hil hj h1 h2 => br_f (nI_ge hil (by omega)) (ys_isRace hP hE hD hM (by omega) hj (rr_bd (fun z => nm_r (nI_1 i) (h2 z)) (fun z => nm_e (nm_r (nI_1 i) (h1 z)))))) h
theorem xs_first (hE : rr_Ev n T od) (hX : rr_Xe n ks os T od et ek eo) (hM : ∀ j, j < n → ∀ b, b < 32 → bt (kb j) b = P b j) {post : Int32 → Prop} (h : post (rr_fst (rr_rc ks os T od P) n 0)) : wpX_firstRace post (nI n, fx, sz, ks, os, hi, et, ek, eo, mb, kb, oc, pa, nt, fo) := by
  have n8 := hE.1
  have key : ∀ d j, j + d = n → post (rr_fst (rr_rc ks os T od P) d j) → wX_firstRace_2 post (nI n) fx sz ks os hi et ek eo mb kb oc pa nt fo (d + 1) (nI j) := by
    intro d
    induction d with
    | zero =>
      intro j hj hp
      obtain rfl : j = n := by omega
      exact br_t (nI_le (Nat.le_refl _) (by omega)) hp
    | succ d ih =>
      intro j hj hp
      have hle := rr_cs_le (fun i => rr_rc ks os T od P i j) j
      have e : rr_fst (rr_rc ks os T od P) (d + 1) j = if rr_cs (fun i => rr_rc ks os T od P i j) j = 0 then rr_fst (rr_rc ks os T od P) d (j + 1) else nI j := rfl
      rw [e] at hp
      refine br_f (nI_ge (by omega) (by omega)) (xs_ending hE hX hM (by omega) ?_)
      rcases Nat.decEq (rr_cs (fun i => rr_rc ks os T od P i j) j) 0 with z | z
      · rw [if_neg z] at hp
        exact br_f (nI_nle (by omega) (by omega)) hp
      · rw [if_pos z] at hp
        rw [z]
        exact br_t (show nI 0 ≤ 0 by decide) (nm_r (nI_1 j) (ih (j + 1) (by omega) hp))
  exact ⟨n + 1, key n 0 (by omega) h⟩
theorem ys_first7 (hP : rr_Pg sz ks os S) (hE : rr_Ev n T od) (hD : rr_Ye n od dn) (hM : ∀ i, i < 8 → ∀ j, j < 8 → rl (8 * i + j) = rr_b (decide (j < n) && P i j)) {post : Int32 → SY → Prop} (h : post (rr_fst (rr_rc ks os T od P) n 0) (nI n, fy, dy, ks, os, sz, bg, va, rg, ho, pl, dn, ol, rl, sm, kp, tr, fd)) : ∃ N, wY_firstRace_7 post (nI n) fy dy ks os sz bg va rg ho pl dn ol rl sm kp tr fd N 0 := by
  have n8 := hE.1
  have key : ∀ d j, j + d = n → post (rr_fst (rr_rc ks os T od P) d j) (nI n, fy, dy, ks, os, sz, bg, va, rg, ho, pl, dn, ol, rl, sm, kp, tr, fd) → wY_firstRace_7 post (nI n) fy dy ks os sz bg va rg ho pl dn ol rl sm kp tr fd (d + 1) (nI j) := by
    intro d
    induction d with
    | zero =>
      intro j hj hp
      obtain rfl : j = n := by omega
      exact br_t (nI_le (Nat.le_refl _) (by omega)) hp
    | succ d ih =>
      intro j hj hp
      have e : rr_fst (rr_rc ks os T od P) (d + 1) j = if rr_cs (fun i => rr_rc ks os T od P i j) j = 0 then rr_fst (rr_rc ks os T od P) d (j + 1) else nI j := rfl
      rw [e] at hp
      have inner : ∀ c i, i + c = j → (∀ a, a < i → rr_rc ks os T od P a j = false) → wY_firstRace_17 post (wY_firstRace_7 post (nI n) fy dy ks os sz bg va rg ho pl dn ol rl sm kp tr fd (d + 1)) (nI j) (nI n) fy dy ks os sz bg va rg ho pl dn ol rl sm kp tr fd (c + 1) (nI i) := by
        intro c
        induction c with
        | zero =>
          intro i hi' hno
          obtain rfl : i = j := by omega
          rw [if_pos ((rr_cs0 i).mpr hno)] at hp
          exact br_t (nI_le (Nat.le_refl _) (by omega)) (nm_r (nI_1 i) (ih (i + 1) (by omega) hp))
        | succ c ihc =>
          intro i hi' hno
          refine br_f (nI_ge (by omega) (by omega)) (ys_isRace hP hE hD hM (by omega) (by omega) (rr_bd (fun z => nm_r (nI_1 i) (ihc (i + 1) (by omega) (fun a ha => ?_))) (fun z => ?_)))
          · rcases Nat.decEq a i with y | y
            · exact hno a (by omega)
            · rw [y]; exact z
          · rw [if_neg (fun y => by rw [(rr_cs0 j).mp y i (by omega)] at z; cases z)] at hp
            exact hp
      exact br_f (nI_ge (by omega) (by omega)) ⟨j + 1, inner j 0 (by omega) (fun a ha => by omega)⟩
  exact ⟨n + 1, key n 0 (by omega) h⟩
end
theorem i_vc_races {k : Nat} {u : SX} {v : SY} (I : i_Rel k u v) (hk : k + 4 ≤ 2048) : wpX_races (fun r => wpY_races (fun r' v' => r' = r ∧ i_Rel (k + 4) u v') v) u := by
  obtain ⟨S, T, n, B, fx, fy, dy, sz, ks, os, hi, et, ek, eo, mb, kb, oc, pa, nt, fo, bg, va, rg, ho, pl, dn, ol, rl, sm, kp, tr, fd, rfl, rfl, hG, hX, hY⟩ := I
  refine xs_races (P := rr_P (rr_E true ks os T (rr_od ks os B T)) 8) (rr_Ev_of hG) hX.2.1 hX.2.2.2 ?_
  unfold wpY_races
  exact ys_close true hG.1 (rr_Ev_of hG) (rr_Ye_of hY) (fun a ha => ys_races9 (P := rr_P (rr_E true ks os T (rr_od ks os B T)) 8) hG.1 (rr_Ev_of hG) (rr_Ye_of hY) ha ⟨rfl, rr_mk hG hX hY⟩)
theorem i_vc_firstRace {k : Nat} {u : SX} {v : SY} (I : i_Rel k u v) (hk : k + 4 ≤ 2048) : wpX_firstRace (fun r => wpY_firstRace (fun r' v' => r' = r ∧ i_Rel (k + 4) u v') v) u := by
  obtain ⟨S, T, n, B, fx, fy, dy, sz, ks, os, hi, et, ek, eo, mb, kb, oc, pa, nt, fo, bg, va, rg, ho, pl, dn, ol, rl, sm, kp, tr, fd, rfl, rfl, hG, hX, hY⟩ := I
  refine xs_first (P := rr_P (rr_E true ks os T (rr_od ks os B T)) 8) (rr_Ev_of hG) hX.2.1 hX.2.2.2 ?_
  unfold wpY_firstRace
  exact ys_close true hG.1 (rr_Ev_of hG) (rr_Ye_of hY) (fun a ha => ys_first7 (P := rr_P (rr_E true ks os T (rr_od ks os B T)) 8) hG.1 (rr_Ev_of hG) (rr_Ye_of hY) ha ⟨rfl, rr_mk hG hX hY⟩)
