theorem i_vc_outcomes {k : Nat} {u : SX} {v : SY} (I : i_Rel k u v) (hk : k + 4 ≤ 2048) : wpX_outcomes (fun r u' => wpY_outcomes (fun r' v' => r' = r ∧ i_Rel (k + 4) u' v') v) u := by
  obtain ⟨S, T, n, B, fx, fy, dy, sz, ks, os, hi, et, ek, eo, mb, kb, oc, pa, nt, fo, bg, va, rg, ho, pl, dn, ol, rl, sm, kp, tr, fd, rfl, rfl, hG, hX, hY⟩ := I
  have hR := (rr_Go_Rk hG 0 (Nat.zero_le n)).1
  unfold wpX_outcomes wpY_outcomes
  exact xs_find (e := 0) hG.1 hR (by omega) (hX.1 0 (Nat.zero_le n)) (fun pa' nt' fo' _ => ys_all hG hY.2.1 hY.2.2 (fun va rg ho pl dn ol kp tr fd hY1 hd1 _ => ⟨rfl, rr_mk hG hX ⟨hY.1, hY1, hd1⟩⟩))
theorem i_vc_ahead {k : Nat} {u : SX} {v : SY} (I : i_Rel k u v) (hk : k + 4 ≤ 2048) : wpX_ahead (fun r u' => wpY_ahead (fun r' v' => r' = r ∧ i_Rel (k + 4) u' v') v) u := by
  obtain ⟨S, T, n, B, fx, fy, dy, sz, ks, os, hi, et, ek, eo, mb, kb, oc, pa, nt, fo, bg, va, rg, ho, pl, dn, ol, rl, sm, kp, tr, fd, rfl, rfl, hG, hX, hY⟩ := I
  have n8 := rr_Go_8 hG (Nat.le_refl n)
  obtain ⟨hR, hs⟩ := rr_Go_Rk hG n (Nat.le_refl n)
  unfold wpX_ahead wpY_ahead
  exact xs_find hG.1 hR n8 (hX.1 n (Nat.le_refl n)) (fun pa' nt' fo' _ => ys_through hG.1 hR hs hY.2.1 (fun va' rg' ho' pl' dn' ol' tr' fd' hY1 _ hfr => ⟨rfl, rr_mk hG hX ⟨hY.1, hY1, fun i hil => by rw [(hfr i hil).1, (hfr i hil).2]; exact hY.2.2 i hil⟩⟩))
section
variable {ec fx : Int32} {sz ks os hi et ek eo mb kb oc pa nt fo : Nat → Int32}
variable {S p : Nat → Nat} {o : Nat → Int32} {L : List (Nat → Int32)} {k : Nat}
theorem xs_opleft (hP : rr_Pg sz ks os S) (hR : rr_Rk S o p) (hk : k < 560) (hf : ∀ c, c < 8 → fo (8 * k + c) = o c) {post : Int32 → Prop} (h : post (rr_b (rr_dead sz o))) : wpX_hasOperationLeft post (ec, fx, sz, ks, os, hi, et, ek, eo, mb, kb, oc, pa, nt, fo) (nI k) := by
  have b0 := (hR.1 0 (by omega)).2
  have b1 := (hR.1 1 (by omega)).2
  have b2 := (hR.1 2 (by omega)).2
  have a0 := rr_S4 hP (show 0 < 3 by omega)
  have a1 := rr_S4 hP (show 1 < 3 by omega)
  have a2 := rr_S4 hP (show 2 < 3 by omega)
  have hd : rr_dead sz o = true ↔ p 0 < S 0 ∨ p 1 < S 1 ∨ p 2 < S 2 := by
    unfold rr_dead
    rw [decide_eq_true_iff, rr_left_N hP hR, show (0 : Int32) = nI 0 from rfl, nI_leI (by omega) (by omega)]
    omega
  have key : ∀ d t, t + d = 3 → (∀ s, s < t → ¬ p s < S s) → wX_hasOperationLeft_2 post (nI k) ec fx sz ks os hi et ek eo mb kb oc pa nt fo (d + 1) (nI t) := by
    intro d
    induction d with
    | zero =>
      intro t ht hno
      obtain rfl : t = 3 := by omega
      have : rr_dead sz o = false := by
        rcases z : rr_dead sz o with _ | _
        · rfl
        · have h0 := hno 0 (by omega)
          have h1 := hno 1 (by omega)
          have h2 := hno 2 (by omega)
          rcases hd.mp z with y | y | y <;> omega
      rw [this] at h
      exact br_t (show (3 : Int32) ≤ nI 3 by decide) h
    | succ d ih =>
      intro t ht hno
      have e1 : nI k * 8 + 5 + nI t = nI (8 * k + (5 + t)) := by
        rw [show (8 : Int32) = nI 8 from rfl, show (5 : Int32) = nI 5 from rfl, pk_mul, nI_add, nI_add]; exact congrArg nI (by omega)
      have t3 : t < 3 := by omega
      have hS := rr_S4 hP t3
      have hp := rr_p4 hP hR t3
      refine br_f (rr_lt3 t3) ⟨pk_in _ _ (by omega) e1, pk_in t 3 t3 rfl, ?_⟩
      rw [e1, nI_clamp (by omega), nI_clamp (by omega), hf (5 + t) (by omega), (hP.1 t t3).1, (hR.1 t t3).1]
      refine pk_le (S t) (p t) (fun z => nm_r (nI_1 t) (ih (t + 1) (by omega) (fun s hs => ?_))) (fun z => ?_)
      · rcases Nat.decEq s t with y | y
        · exact hno s (by omega)
        · rw [y]; omega
      · have : rr_dead sz o = true := hd.mpr (by rcases (show t = 0 ∨ t = 1 ∨ t = 2 by omega) with rfl | rfl | rfl <;> omega)
        rw [this] at h; exact h
  exact ⟨4, key 3 0 (by omega) (fun s hs => by omega)⟩
theorem xs_dead9 (hP : rr_Pg sz ks os S) (hO : rr_Fo S L) (hF : rr_Fx L fo) (hn : L.length ≤ 560) {post : Int32 → SX → Prop} (h : post (nI (rr_dd sz L)) (ec, nI L.length, sz, ks, os, hi, et, ek, eo, mb, kb, oc, pa, nt, fo)) : ∃ N, wX_deadlocks_9 post ec (nI L.length) sz ks os hi et ek eo mb kb oc pa nt fo N 0 0 := by
  refine loop_0 (fun N k (x : Int32) => wX_deadlocks_9 post ec (nI L.length) sz ks os hi et ek eo mb kb oc pa nt fo N x (nI k)) (fun k x => x = nI (rr_dd sz (L.take k))) L.length 0 rfl ?_ ?_
  · intro N x hx
    rw [List.take_length] at hx
    subst hx
    exact br_t (nI_le (Nat.le_refl _) (by omega)) h
  · intro N k x hkl hx ih
    subst hx
    obtain ⟨o, ho⟩ : ∃ o, L[k]? = some o := ⟨_, List.getElem?_eq_getElem hkl⟩
    obtain ⟨p', hR⟩ := hO o (List.mem_of_getElem? ho)
    have ht : rr_dd sz (L.take (k + 1)) = rr_dd sz (L.take k) + if rr_dead sz o = true then 1 else 0 := by
      unfold rr_dd
      rw [List.take_succ, ho, List.countP_append]
      show _ + List.countP (rr_dead sz) [o] = _
      rw [List.countP_singleton]
    refine br_f (nI_ge hkl (by omega)) (xs_opleft hP hR (by omega) (hF k o ho) (rr_bd (fun z => nm_r (nI_1 k) (ih _ ?_)) (fun z => nm_r (nI_1 _) (nm_r (nI_1 k) (ih _ ?_)))))
    · rw [ht, if_neg (by rw [z]; decide)]; rfl
    · rw [ht, if_pos z]
end
theorem rr_L560 {sz ks os r : Nat → Int32} {S p : Nat → Nat} (hP : rr_Pg sz ks os S) (hR : rr_Rk S r p) : (rr_dfs sz ks os 9 r []).length ≤ 560 ∧ 1 ≤ (rr_dfs sz ks os 9 r []).length ∧ rr_Fo S (rr_dfs sz ks os 9 r []) := by
  obtain ⟨a, b, c⟩ := rr_root hP hR
  have h := rr_dfs_len hP 9 r p [] hR (by omega)
  have e : ([] : List (Nat → Int32)).length = 0 := rfl
  refine ⟨by omega, h.2.2, rr_dfs_Fo hP 9 r p [] hR (fun o ho => by cases ho)⟩
theorem i_vc_deadlocks {k : Nat} {u : SX} {v : SY} (I : i_Rel k u v) (hk : k + 4 ≤ 2048) : wpX_deadlocks (fun r u' => wpY_deadlocks (fun r' v' => r' = r ∧ i_Rel (k + 4) u' v') v) u := by
  obtain ⟨S, T, n, B, fx, fy, dy, sz, ks, os, hi, et, ek, eo, mb, kb, oc, pa, nt, fo, bg, va, rg, ho, pl, dn, ol, rl, sm, kp, tr, fd, rfl, rfl, hG, hX, hY⟩ := I
  have hR := (rr_Go_Rk hG 0 (Nat.zero_le n)).1
  obtain ⟨l1, l2, l3⟩ := rr_L560 hG.1 hR
  unfold wpX_deadlocks wpY_deadlocks
  exact xs_find (e := 0) hG.1 hR (by omega) (hX.1 0 (Nat.zero_le n)) (fun pa' nt' fo' hF => xs_dead9 hG.1 l3 hF l1 (ys_all hG hY.2.1 hY.2.2 (fun va rg ho pl dn ol kp tr fd hY1 hd1 _ => ⟨rfl, rr_mk hG hX ⟨hY.1, hY1, hd1⟩⟩)))
def rr_gm (c : Nat → Int32) : Nat → Int32
  | 0 => c 0
  | k + 1 => if c (k + 1) ≤ rr_gm c k then rr_gm c k else c (k + 1)
def rr_cv (L : List (Nat → Int32)) (w k : Nat) : Int32 := (L[k]?.getD (fun _ => 0)) w
theorem rr_gm_s {c : Nat → Int32} {k : Nat} (h : 1 ≤ k) : rr_gm c (k + 1 - 1) = if c k ≤ rr_gm c (k - 1) then rr_gm c (k - 1) else c k := by
  obtain ⟨k, rfl⟩ : ∃ m, k = m + 1 := ⟨k - 1, by omega⟩
  rfl
section
variable {ec fx cn fy dy : Int32} {sz ks os hi et ek eo mb kb oc pa nt fo bg va rg ho pl dn ol rl sm kp tr fd : Nat → Int32}
variable {L : List (Nat → Int32)} {w : Nat}
theorem xs_great24 (hw : w < 2) (hF : rr_Fx L fo) (hn : L.length ≤ 560) (h1 : 1 ≤ L.length) {post : Int32 → SX → Prop} (h : post (rr_gm (rr_cv L w) (L.length - 1)) (ec, nI L.length, sz, ks, os, hi, et, ek, eo, mb, kb, oc, pa, nt, fo)) : ∃ N, wX_greatest_24 post (nI w) ec (nI L.length) sz ks os hi et ek eo mb kb oc pa nt fo N (rr_cv L w 0) 1 := by
  refine pk_loop (fun N k (x : Int32) => wX_greatest_24 post (nI w) ec (nI L.length) sz ks os hi et ek eo mb kb oc pa nt fo N x (nI k)) (fun k x => 1 ≤ k ∧ x = rr_gm (rr_cv L w) (k - 1)) L.length 1 (rr_cv L w 0) h1 ⟨Nat.le_refl 1, rfl⟩ ?_ ?_
  · intro N x ⟨_, hx⟩
    subst hx
    exact br_t (nI_le (Nat.le_refl _) (by omega)) h
  · intro N k x hkl ⟨k1, hx⟩ ih
    subst hx
    obtain ⟨o, ho⟩ : ∃ o, L[k]? = some o := ⟨_, List.getElem?_eq_getElem hkl⟩
    have e1 := rr_ix08 k w
    have hv : fo (nI k * 8 + nI w).toNatClampNeg = rr_cv L w k := by
      rw [e1, nI_clamp (by omega), hF k o ho w (by omega)]; unfold rr_cv; rw [ho]; rfl
    refine br_f (nI_ge hkl (by omega)) ⟨pk_in _ _ (by omega) e1, nm_r hv ?_⟩
    have gs := rr_gm_s (c := rr_cv L w) k1
    by_cases z : rr_cv L w k ≤ rr_gm (rr_cv L w) (k - 1)
    · rw [if_pos z] at gs; exact br_t z (nm_r (nI_1 k) (ih _ ⟨by omega, gs.symm⟩))
    · rw [if_neg z] at gs; exact br_f z (nm_r (nI_1 k) (ih _ ⟨by omega, gs.symm⟩))
theorem ys_great25 (hw : w < 2) (hF : rr_Fy sz L fd) (hn : L.length ≤ 560) (h1 : 1 ≤ L.length) {post : Int32 → SY → Prop} (h : post (rr_gm (rr_cv L w) (L.length - 1)) (cn, nI L.length, dy, ks, os, sz, bg, va, rg, ho, pl, dn, ol, rl, sm, kp, tr, fd)) : ∃ N, wY_greatest_25 post (nI w) cn (nI L.length) dy ks os sz bg va rg ho pl dn ol rl sm kp tr fd N (rr_cv L w 0) 1 := by
  refine pk_loop (fun N k (x : Int32) => wY_greatest_25 post (nI w) cn (nI L.length) dy ks os sz bg va rg ho pl dn ol rl sm kp tr fd N x (nI k)) (fun k x => 1 ≤ k ∧ x = rr_gm (rr_cv L w) (k - 1)) L.length 1 (rr_cv L w 0) h1 ⟨Nat.le_refl 1, rfl⟩ ?_ ?_
  · intro N x ⟨_, hx⟩
    subst hx
    exact br_t (nI_le (Nat.le_refl _) (by omega)) h
  · intro N k x hkl ⟨k1, hx⟩ ih
    subst hx
    obtain ⟨o, ho⟩ : ∃ o, L[k]? = some o := ⟨_, List.getElem?_eq_getElem hkl⟩
    have e1 : 6 * nI k + nI w = nI (6 * k + w) := by rw [show (6 : Int32) = nI 6 from rfl, pk_mul, nI_add]
    have hv : fd (6 * nI k + nI w).toNatClampNeg = rr_cv L w k := by
      rw [e1, nI_clamp (by omega), hF k o ho w (by omega)]; unfold rr_cv rr_pt; rw [ho, if_pos (by omega)]; rfl
    have vv : vp_in (6 * nI k + nI w) 4200 := pk_in _ _ (by omega) e1
    refine br_f (nI_ge hkl (by omega)) ⟨vv, ?_⟩
    rw [hv]
    have gs := rr_gm_s (c := rr_cv L w) k1
    by_cases z : rr_cv L w k ≤ rr_gm (rr_cv L w) (k - 1)
    · rw [if_pos z] at gs; exact br_t z (nm_r (nI_1 k) (ih _ ⟨by omega, gs.symm⟩))
    · rw [if_neg z] at gs; exact br_f z ⟨vv, nm_e (nm_r (nI_1 k) (ih _ ⟨by omega, gs.symm⟩))⟩
end
theorem i_vc_greatest {k : Nat} {u : SX} {v : SY} (I : i_Rel k u v) (hk : k + 4 ≤ 2048) (v1 : Int32) : wpX_greatest (fun r u' => wpY_greatest (fun r' v' => r' = r ∧ i_Rel (k + 4) u' v') v v1) u v1 := by
  obtain ⟨S, T, n, B, fx, fy, dy, sz, ks, os, hi, et, ek, eo, mb, kb, oc, pa, nt, fo, bg, va, rg, ho, pl, dn, ol, rl, sm, kp, tr, fd, rfl, rfl, hG, hX, hY⟩ := I
  have hR := (rr_Go_Rk hG 0 (Nat.zero_le n)).1
  obtain ⟨l1, l2, l3⟩ := rr_L560 hG.1 hR
  unfold wpX_greatest wpY_greatest
  rcases rr_arg2 v1 with h | ⟨w, hw, rfl⟩
  · exact xs_var_f h (br_t rfl (ys_in_f (b := 1) (by omega) h (br_t rfl ⟨rfl, rr_mk hG hX hY⟩)))
  · have cw : (nI w).toNatClampNeg = w := nI_clamp (by omega)
    have l1' : (rr_dfs sz ks os 9 (rr_run ks os B T 0) []).length ≤ 560 := l1
    obtain ⟨o, ho⟩ : ∃ o, (rr_dfs sz ks os 9 (rr_run ks os B T 0) [])[0]? = some o := ⟨_, List.getElem?_eq_getElem l2⟩
    have hcv : rr_cv (rr_dfs sz ks os 9 (rr_run ks os B T 0) []) w 0 = o w := by unfold rr_cv; rw [ho]; rfl
    refine xs_var_t hw (br_f (by decide) (xs_find (e := 0) hG.1 hR (by omega) (hX.1 0 (Nat.zero_le n)) (fun pa' nt' fo' hF => ⟨pk_in w 4480 (by omega) rfl, nm_r (show _ = rr_cv (rr_dfs sz ks os 9 (rr_run ks os B T 0) []) w 0 by rw [cw, hcv]; have := hF 0 o ho w (by omega); rw [show 8 * 0 + w = w by omega] at this; exact this) (xs_great24 hw hF l1 l2 ?_)⟩)))
    refine ys_in_t (b := 1) (by omega) (by omega) (br_f (by decide) (ys_all hG hY.2.1 hY.2.2 (fun va rg ho' pl dn ol kp tr fd hY1 hd1 hFy => ⟨pk_in w 4200 (by omega) rfl, nm_r (show _ = rr_cv (rr_dfs sz ks os 9 (rr_run ks os B T 0) []) w 0 by rw [cw, hcv]; have := hFy 0 o ho w (by omega); rw [show 6 * 0 + w = w by omega] at this; rw [this]; unfold rr_pt; rw [if_pos (by omega)]) (ys_great25 hw hFy l1 l2 ⟨rfl, rr_mk hG hX ⟨hY.1, hY1, hd1⟩⟩)⟩)))
