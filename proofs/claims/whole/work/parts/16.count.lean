def rr_cs (g : Nat → Bool) : Nat → Nat
  | 0 => 0
  | m + 1 => rr_cs g m + (if g m then 1 else 0)
def rr_ct (f : Nat → Nat → Bool) : Nat → Nat
  | 0 => 0
  | m + 1 => rr_ct f m + rr_cs (fun i => f i m) m
theorem rr_cs_le (g : Nat → Bool) : ∀ m, rr_cs g m ≤ m := by
  intro m
  induction m with
  | zero => exact Nat.le_refl 0
  | succ m ih => show rr_cs g m + _ ≤ m + 1; cases g m <;> simp <;> omega
theorem rr_cs0 {g : Nat → Bool} : ∀ m, rr_cs g m = 0 ↔ ∀ i, i < m → g i = false := by
  intro m
  induction m with
  | zero => exact ⟨fun _ i hil => by omega, fun _ => rfl⟩
  | succ m ih =>
    have e : rr_cs g (m + 1) = rr_cs g m + (if g m then 1 else 0) := rfl
    rw [e]
    constructor
    · intro h i hil
      have h1 : rr_cs g m = 0 := by omega
      have h2 : (if g m then 1 else 0) = 0 := by omega
      rcases Nat.decEq i m with z | z
      · exact ih.mp h1 i (by omega)
      · rw [z]
        rcases y : g m with _ | _
        · rfl
        · rw [y] at h2; exact absurd h2 (by decide)
    · intro h
      rw [ih.mpr (fun i hil => h i (by omega)), h m (by omega)]; rfl
theorem rr_cs_t {g : Nat → Bool} {m : Nat} (h : g m = true) : rr_cs g (m + 1) = rr_cs g m + 1 := by
  show rr_cs g m + (if g m then 1 else 0) = _; rw [h]; rfl
theorem rr_cs_f {g : Nat → Bool} {m : Nat} (h : g m = false) : rr_cs g (m + 1) = rr_cs g m := by
  show rr_cs g m + (if g m then 1 else 0) = _; rw [h]; rfl
/-- one counting loop -/
theorem rr_one {j : Nat} {g : Nat → Bool} {K : Int32 → Prop} (V : Nat → Int32 → Int32 → Prop) (a : Nat)
    (v0 : ∀ M x, K x → V (M + 1) x (nI j))
    (vs : ∀ M i x, i < j → (g i = true → V M (x + 1) (nI (i + 1))) → (g i = false → V M x (nI (i + 1))) → V (M + 1) x (nI i))
    (h : K (nI (a + rr_cs g j))) : ∃ M, V M (nI a) 0 := by
  refine loop_0 (fun M i (x : Int32) => V M x (nI i)) (fun i x => x = nI (a + rr_cs g i)) j (nI a) rfl ?_ ?_
  · intro M x hx; exact v0 M x (by rw [hx]; exact h)
  · intro M i x hil hx ih
    refine vs M i x hil (fun z => ih _ ?_) (fun z => ih _ ?_)
    · rw [hx, nI_1, rr_cs_t z, Nat.add_assoc]
    · rw [hx, rr_cs_f z]
/-- a counting loop in a loop -/
theorem rr_dbl {n : Nat} {f : Nat → Nat → Bool} {K : Int32 → Prop} (W : Nat → Int32 → Int32 → Prop) (V : (Int32 → Int32 → Prop) → Nat → Nat → Int32 → Int32 → Prop)
    (w0 : ∀ N x, K x → W (N + 1) x (nI n))
    (ws : ∀ N j x, j < n → (∃ M, V (W N) j M x 0) → W (N + 1) x (nI j))
    (v0 : ∀ J j M x, j < n → J x (nI (j + 1)) → V J j (M + 1) x (nI j))
    (vs : ∀ J j M i x, i < j → j < n → (f i j = true → V J j M (x + 1) (nI (i + 1))) → (f i j = false → V J j M x (nI (i + 1))) → V J j (M + 1) x (nI i))
    (h : K (nI (rr_ct f n))) : ∃ N, W N 0 0 := by
  refine loop_0 (fun N j (x : Int32) => W N x (nI j)) (fun j x => x = nI (rr_ct f j)) n 0 rfl ?_ ?_
  · intro N x hx; exact w0 N x (by rw [hx]; exact h)
  · intro N j x hj hx ih
    subst hx
    refine ws N j _ hj (rr_one (g := fun i => f i j) (K := fun x => W N x (nI (j + 1))) (V (W N) j) (rr_ct f j) (fun M x hK => v0 (W N) j M x hj hK) (fun M i x hil h1 h2 => vs (W N) j M i x hil hj h1 h2) (ih _ rfl))
def rr_bw (P : Nat → Nat → Bool) (i j : Nat) : Bool := (List.range 8).any (fun a => P i a && P a j)
theorem rr_bw_t {P : Nat → Nat → Bool} {i j : Nat} : rr_bw P i j = true ↔ ∃ a, a < 8 ∧ P i a = true ∧ P a j = true := by
  unfold rr_bw; rw [List.any_eq_true]
  constructor
  · rintro ⟨a, ha, h⟩
    rw [Bool.and_eq_true] at h
    exact ⟨a, List.mem_range.mp ha, h.1, h.2⟩
  · rintro ⟨a, ha, h1, h2⟩
    exact ⟨a, List.mem_range.mpr ha, by rw [h1, h2]; rfl⟩
section
variable {ec fx cn fy dy : Int32} {sz ks os hi et ek eo mb kb oc pa nt fo bg va rg ho pl dn ol rl sm kp tr fd : Nat → Int32}
variable {S T od : Nat → Nat} {n : Nat}
theorem xs_conflicts (hE : rr_Ev n T od) (hX : rr_Xe n ks os T od et ek eo) {post : Int32 → Prop} (h : post (nI (rr_ct (rr_cf ks os T od) n))) : wpX_conflicts post (nI n, fx, sz, ks, os, hi, et, ek, eo, mb, kb, oc, pa, nt, fo) := by
  have n8 := hE.1
  refine rr_dbl (n := n) (f := rr_cf ks os T od) (K := post) (fun N x j => wX_conflicts_4 post (nI n) fx sz ks os hi et ek eo mb kb oc pa nt fo N x j) (fun J j M x i => wX_conflicts_14 post J (nI j) (nI n) fx sz ks os hi et ek eo mb kb oc pa nt fo M x i) (fun N x hp => br_t (nI_le (Nat.le_refl n) (by omega)) hp) (fun N j x hj hv => br_f (nI_ge hj (by omega)) hv) (fun J j M x hj hJ => br_t (nI_le (Nat.le_refl j) (by omega)) (nm_r (nI_1 j) hJ)) (fun J j M i x hil hj h1 h2 => br_f (nI_ge hil (by omega)) (xs_conf hE hX (by omega) hj (rr_bd (fun z => nm_r (nI_1 i) (h2 z)) (fun z => nm_e (nm_r (nI_1 i) (h1 z)))))) h
theorem ys_conflicts (hP : rr_Pg sz ks os S) (hE : rr_Ev n T od) (hD : rr_Ye n od dn) {post : Int32 → Prop} (h : post (nI (rr_ct (rr_cf ks os T od) n))) : wpY_conflicts post (nI n, fy, dy, ks, os, sz, bg, va, rg, ho, pl, dn, ol, rl, sm, kp, tr, fd) := by
  have n8 := hE.1
  refine rr_dbl (n := n) (f := rr_cf ks os T od) (K := post) (fun N x j => wY_conflicts_4 post (nI n) fy dy ks os sz bg va rg ho pl dn ol rl sm kp tr fd N x j) (fun J j M x i => wY_conflicts_14 post J (nI j) (nI n) fy dy ks os sz bg va rg ho pl dn ol rl sm kp tr fd M x i) (fun N x hp => br_t (nI_le (Nat.le_refl n) (by omega)) hp) (fun N j x hj hv => br_f (nI_ge hj (by omega)) hv) (fun J j M x hj hJ => br_t (nI_le (Nat.le_refl j) (by omega)) (nm_r (nI_1 j) hJ)) (fun J j M i x hil hj h1 h2 => br_f (nI_ge hil (by omega)) (ys_conf hP hE hD (by omega) hj (rr_bd (fun z => nm_r (nI_1 i) (h2 z)) (fun z => nm_e (nm_r (nI_1 i) (h1 z)))))) h
theorem xs_through (n8 : n ≤ 8) {i j : Nat} (hil : i < j) (hj : j < n) {P : Nat → Nat → Bool} (hlt : ∀ a b, P a b = true → a < b) (hM : ∀ j, j < n → ∀ b, b < 32 → bt (mb j) b = P b j) {post : Int32 → Prop} (h : post (rr_b (rr_bw P i j))) : wpX_mustThroughAnother post (nI n, fx, sz, ks, os, hi, et, ek, eo, mb, kb, oc, pa, nt, fo) (nI i) (nI j) := by
  have vj : vp_in (nI j) 8 := pk_in j 8 (by omega) rfl
  have key : ∀ d m, m + d = j → i < m → (∀ a, a < m → ¬ (P i a = true ∧ P a j = true)) → wX_mustThroughAnother_4 post (nI i) (nI j) (nI n) fx sz ks os hi et ek eo mb kb oc pa nt fo (d + 1) (nI m) := by
    intro d
    induction d with
    | zero =>
      intro m hm him hno
      obtain rfl : m = j := by omega
      have : rr_bw P i m = false := by
        rcases z : rr_bw P i m with _ | _
        · rfl
        · obtain ⟨a, _, h1, h2⟩ := rr_bw_t.mp z
          exact absurd ⟨h1, h2⟩ (hno a (hlt a m h2))
      rw [this] at h
      exact br_t (nI_le (Nat.le_refl m) (by omega)) h
    | succ d ih =>
      intro m hm him hno
      have cont : ¬ (P i m = true ∧ P m j = true) → wX_mustThroughAnother_4 post (nI i) (nI j) (nI n) fx sz ks os hi et ek eo mb kb oc pa nt fo (d + 1) (nI (m + 1)) := fun q => ih (m + 1) (by omega) (by omega) (fun a ha => by
        rcases Nat.decEq a m with z | z
        · exact hno a (by omega)
        · rw [z]; exact q)
      refine br_f (nI_ge (by omega) (by omega)) ⟨pk_in m 8 (by omega) rfl, xs_cont (by omega) ?_⟩
      rw [nI_clamp (by omega), hM m (by omega) i (by omega)]
      refine rr_bd (fun z => nm_r (nI_1 m) (cont (fun q => by rw [z] at q; cases q.1))) (fun z => ⟨vj, xs_cont (by omega) ?_⟩)
      rw [nI_clamp (by omega), hM j hj m (by omega)]
      refine rr_bd (fun y => nm_r (nI_1 m) (cont (fun q => by rw [y] at q; cases q.2))) (fun y => ?_)
      rw [rr_bw_t.mpr ⟨m, by omega, z, y⟩] at h
      exact h
  refine nm_r (nI_1 i) ⟨j - (i + 1) + 1, key (j - (i + 1)) (i + 1) (by omega) (by omega) (fun a ha q => ?_)⟩
  have := hlt i a q.1; omega
theorem ys_between (n8 : n ≤ 8) {i j : Nat} (hil : i < j) (hj : j < n) {P : Nat → Nat → Bool} (hlt : ∀ a b, P a b = true → a < b) (hM : ∀ i, i < 8 → ∀ j, j < 8 → rl (8 * i + j) = rr_b (decide (j < n) && P i j)) {post : Int32 → Prop} (h : post (rr_b (rr_bw P i j))) : wpY_isBetween post (nI n, fy, dy, ks, os, sz, bg, va, rg, ho, pl, dn, ol, rl, sm, kp, tr, fd) (nI i) (nI j) := by
  have key : ∀ d m, m + d = n → (∀ a, a < m → ¬ (P i a = true ∧ P a j = true)) → wY_isBetween_2 post (nI i) (nI j) (nI n) fy dy ks os sz bg va rg ho pl dn ol rl sm kp tr fd (d + 1) (nI m) := by
    intro d
    induction d with
    | zero =>
      intro m hm hno
      obtain rfl : m = n := by omega
      have : rr_bw P i j = false := by
        rcases z : rr_bw P i j with _ | _
        · rfl
        · obtain ⟨a, _, h1, h2⟩ := rr_bw_t.mp z
          have := hlt a j h2
          exact absurd ⟨h1, h2⟩ (hno a (by omega))
      rw [this] at h
      exact br_t (nI_le (Nat.le_refl m) (by omega)) h
    | succ d ih =>
      intro m hm hno
      have cont : ¬ (P i m = true ∧ P m j = true) → wY_isBetween_2 post (nI i) (nI j) (nI n) fy dy ks os sz bg va rg ho pl dn ol rl sm kp tr fd (d + 1) (nI (m + 1)) := fun q => ih (m + 1) (by omega) (fun a ha => by
        rcases Nat.decEq a m with z | z
        · exact hno a (by omega)
        · rw [z]; exact q)
      have e1 := rr_ixr i m
      have e2 := rr_ixr m j
      refine br_f (nI_ge (by omega) (by omega)) ⟨pk_in _ _ (by omega) e1, ?_⟩
      rw [e1, nI_clamp (by omega), hM i (by omega) m (by omega), decide_eq_true (show m < n by omega), Bool.true_and]
      refine rr_bd (fun z => nm_r (nI_1 m) (cont (fun q => by rw [z] at q; cases q.1))) (fun z => ⟨pk_in _ _ (by omega) e2, ?_⟩)
      rw [e2, nI_clamp (by omega), hM m (by omega) j (by omega), decide_eq_true hj, Bool.true_and]
      refine rr_bd (fun y => nm_r (nI_1 m) (cont (fun q => by rw [y] at q; cases q.2))) (fun y => ?_)
      rw [rr_bw_t.mpr ⟨m, by omega, z, y⟩] at h
      exact h
  exact ⟨n + 1, key n 0 (by omega) (fun a ha => by omega)⟩
theorem xs_needed (hE : rr_Ev n T od) (hX : rr_Xe n ks os T od et ek eo) {P : Nat → Nat → Bool} (hlt : ∀ a b, P a b = true → a < b) (hM : ∀ j, j < n → ∀ b, b < 32 → bt (mb j) b = P b j) {post : Int32 → Prop} (h : post (nI (rr_ct (fun i j => rr_cf ks os T od i j && !(rr_bw P i j)) n))) : wpX_needed post (nI n, fx, sz, ks, os, hi, et, ek, eo, mb, kb, oc, pa, nt, fo) := by
  have n8 := hE.1
  refine rr_dbl (n := n) (f := fun i j => rr_cf ks os T od i j && !(rr_bw P i j)) (K := post) (fun N x j => wX_needed_4 post (nI n) fx sz ks os hi et ek eo mb kb oc pa nt fo N x j) (fun J j M x i => wX_needed_14 post J (nI j) (nI n) fx sz ks os hi et ek eo mb kb oc pa nt fo M x i) (fun N x hp => br_t (nI_le (Nat.le_refl n) (by omega)) hp) (fun N j x hj hv => br_f (nI_ge hj (by omega)) hv) (fun J j M x hj hJ => br_t (nI_le (Nat.le_refl j) (by omega)) (nm_r (nI_1 j) hJ)) (fun J j M i x hil hj h1 h2 => br_f (nI_ge hil (by omega)) (xs_conf hE hX (by omega) hj (rr_bd (fun z => nm_r (nI_1 i) (h2 ?_)) (fun z => xs_through n8 hil hj hlt hM (rr_bd (fun y => nm_e (nm_r (nI_1 i) (h1 ?_))) (fun y => nm_r (nI_1 i) (h2 ?_))))))) h
  · show (rr_cf ks os T od i j && !(rr_bw P i j)) = false; rw [z]; rfl
  · show (rr_cf ks os T od i j && !(rr_bw P i j)) = true; rw [z, y]; rfl
  · show (rr_cf ks os T od i j && !(rr_bw P i j)) = false; rw [z, y]; rfl
theorem ys_needed9 (hP : rr_Pg sz ks os S) (hE : rr_Ev n T od) (hD : rr_Ye n od dn) {P : Nat → Nat → Bool} (hlt : ∀ a b, P a b = true → a < b) (hM : ∀ i, i < 8 → ∀ j, j < 8 → rl (8 * i + j) = rr_b (decide (j < n) && P i j)) {post : Int32 → SY → Prop} (h : post (nI (rr_ct (fun i j => rr_cf ks os T od i j && !(rr_bw P i j)) n)) (nI n, fy, dy, ks, os, sz, bg, va, rg, ho, pl, dn, ol, rl, sm, kp, tr, fd)) : ∃ N, wY_needed_9 post (nI n) fy dy ks os sz bg va rg ho pl dn ol rl sm kp tr fd N 0 0 := by
  have n8 := hE.1
  refine rr_dbl (n := n) (f := fun i j => rr_cf ks os T od i j && !(rr_bw P i j)) (K := fun x => post x (nI n, fy, dy, ks, os, sz, bg, va, rg, ho, pl, dn, ol, rl, sm, kp, tr, fd)) (fun N x j => wY_needed_9 post (nI n) fy dy ks os sz bg va rg ho pl dn ol rl sm kp tr fd N x j) (fun J j M x i => wY_needed_19 post J (nI j) (nI n) fy dy ks os sz bg va rg ho pl dn ol rl sm kp tr fd M x i) (fun N x hp => br_t (nI_le (Nat.le_refl n) (by omega)) hp) (fun N j x hj hv => br_f (nI_ge hj (by omega)) hv) (fun J j M x hj hJ => br_t (nI_le (Nat.le_refl j) (by omega)) (nm_r (nI_1 j) hJ)) (fun J j M i x hil hj h1 h2 => br_f (nI_ge hil (by omega)) (ys_conf hP hE hD (by omega) hj (rr_bd (fun z => nm_r (nI_1 i) (h2 ?_)) (fun z => ys_between n8 hil hj hlt hM (rr_bd (fun y => nm_e (nm_r (nI_1 i) (h1 ?_))) (fun y => nm_r (nI_1 i) (h2 ?_))))))) h
  · show (rr_cf ks os T od i j && !(rr_bw P i j)) = false; rw [z]; rfl
  · show (rr_cf ks os T od i j && !(rr_bw P i j)) = true; rw [z, y]; rfl
  · show (rr_cf ks os T od i j && !(rr_bw P i j)) = false; rw [z, y]; rfl
end
theorem i_vc_conflicts {k : Nat} {u : SX} {v : SY} (I : i_Rel k u v) (hk : k + 4 ≤ 2048) : wpX_conflicts (fun r => wpY_conflicts (fun r' => r' = r ∧ i_Rel (k + 4) u v) v) u := by
  obtain ⟨S, T, n, B, fx, fy, dy, sz, ks, os, hi, et, ek, eo, mb, kb, oc, pa, nt, fo, bg, va, rg, ho, pl, dn, ol, rl, sm, kp, tr, fd, rfl, rfl, hG, hX, hY⟩ := I
  exact xs_conflicts (rr_Ev_of hG) hX.2.1 (ys_conflicts hG.1 (rr_Ev_of hG) (rr_Ye_of hY) ⟨rfl, rr_mk hG hX hY⟩)
theorem i_vc_needed {k : Nat} {u : SX} {v : SY} (I : i_Rel k u v) (hk : k + 4 ≤ 2048) : wpX_needed (fun r => wpY_needed (fun r' v' => r' = r ∧ i_Rel (k + 4) u v') v) u := by
  obtain ⟨S, T, n, B, fx, fy, dy, sz, ks, os, hi, et, ek, eo, mb, kb, oc, pa, nt, fo, bg, va, rg, ho, pl, dn, ol, rl, sm, kp, tr, fd, rfl, rfl, hG, hX, hY⟩ := I
  refine xs_needed (P := rr_P (rr_E false ks os T (rr_od ks os B T)) 8) (rr_Ev_of hG) hX.2.1 (fun a b => rr_P_lt 8 a b) hX.2.2.1 ?_
  unfold wpY_needed
  exact ys_close false hG.1 (rr_Ev_of hG) (rr_Ye_of hY) (fun a ha => ys_needed9 (P := rr_P (rr_E false ks os T (rr_od ks os B T)) 8) hG.1 (rr_Ev_of hG) (rr_Ye_of hY) (fun a b => rr_P_lt 8 a b) ha ⟨rfl, rr_mk hG hX hY⟩)
