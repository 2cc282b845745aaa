theorem rr_btN {x b : Nat} (hx : x < 2 ^ 32) (hb : b < 32) : bt (nI x) b = x.testBit b := by
  show (BitVec.ofNat 32 x).getLsbD b = _
  rw [BitVec.getLsbD_ofNat]; simp [hb]
def rr_clr (s j : Nat) : Nat := if s.testBit j then s - 2 ^ j else s
theorem rr_clr1 : ∀ s, s < 256 → ∀ j, j < 8 → nI s &&& (((1 : Int32) <<< (nI j &&& 31)) ^^^ (-1)) = nI (rr_clr s j) := by decide +kernel
theorem rr_clr2 : ∀ s, s < 256 → ∀ j, j < 8 → rr_clr s j ≤ s ∧ (s.testBit j = true → rr_clr s j < s) ∧ (s.testBit j = false → rr_clr s j = s) := by decide +kernel
theorem rr_clr3 {s j b : Nat} (hs : s < 256) (hj : j < 8) (hb : b < 8) : (rr_clr s j).testBit b = (s.testBit b && !(decide (b = j))) := by
  have h2 := (rr_clr2 s hs j hj).1
  rw [← rr_btN (x := rr_clr s j) (by omega) (by omega), ← rr_clr1 s hs j hj, b_and, b_xor, b_m1 b (by omega), rr_bshl (by omega) (by omega), rr_btN (by omega) (by omega)]
  simp
theorem rr_pw : ∀ n, n ≤ 8 → (1 : Int32) <<< (nI n &&& 31) = nI (2 ^ n) ∧ 2 ^ n ≤ 256 ∧ 1 ≤ 2 ^ n := by decide +kernel
theorem rr_bitS {s b : Nat} (hs : s < 256) (hb : b < 8) : (nI s >>> (nI b &&& 31)) &&& 1 = 1 ↔ s.testBit b = true := by
  rw [rr_bitb _ (by omega), rr_btN (by omega) (by omega)]
theorem rr_sub0 (x y : Int32) : x &&& (y ^^^ (-1)) = 0 ↔ ∀ b, b < 32 → bt x b = true → bt y b = true := by
  constructor
  · intro h b hb hx
    have e : bt (x &&& (y ^^^ (-1))) b = bt 0 b := congrArg (fun z => bt z b) h
    rw [b_and, b_xor, b_m1 b hb, b_0, hx] at e
    rcases z : bt y b with _ | _
    · rw [z] at e; cases e
    · rfl
  · intro h
    refine b_ext (fun b hb => ?_)
    rw [b_and, b_xor, b_m1 b hb, b_0]
    rcases z : bt x b with _ | _
    · rfl
    · rw [h b hb z]; rfl
def rr_lst (M : Nat → Nat → Bool) (n s m : Nat) : Bool := (List.range n).all (fun a => !(s.testBit a && M m a))
def rr_prd (M : Nat → Nat → Bool) (s m : Nat) : Bool := (List.range 8).all (fun b => !(M b m) || (rr_clr s m).testBit b)
theorem rr_lst_t {M : Nat → Nat → Bool} {n s m : Nat} : rr_lst M n s m = true ↔ ∀ a, a < n → s.testBit a = true → M m a = false := by
  unfold rr_lst; rw [List.all_eq_true]
  constructor
  · intro h a ha hs
    have := h a (List.mem_range.mpr ha)
    rw [hs] at this; simpa using this
  · intro h a ha
    have := h a (List.mem_range.mp ha)
    rcases z : s.testBit a with _ | _
    · rfl
    · rw [this z]; rfl
theorem rr_prd_t {M : Nat → Nat → Bool} {s m : Nat} : rr_prd M s m = true ↔ ∀ b, b < 8 → M b m = true → (rr_clr s m).testBit b = true := by
  unfold rr_prd; rw [List.all_eq_true]
  constructor
  · intro h b hb hm
    have := h b (List.mem_range.mpr hb)
    rw [hm] at this; simpa using this
  · intro h b hb
    have := h b (List.mem_range.mp hb)
    rcases z : M b m with _ | _
    · rfl
    · rw [this z]; rfl
def rr_sf (u : Nat → Bool) (c : Nat → Int32) (s : Nat) : Nat → Int32
  | 0 => 0
  | m + 1 => if s.testBit m && u m then rr_sf u c s m + c (rr_clr s m) else rr_sf u c s m
theorem rr_sf_t {u : Nat → Bool} {c : Nat → Int32} {s m : Nat} (h : s.testBit m = true) (h2 : u m = true) : rr_sf u c s (m + 1) = rr_sf u c s m + c (rr_clr s m) := if_pos (by rw [h, h2]; rfl)
theorem rr_sf_f {u : Nat → Bool} {c : Nat → Int32} {s m : Nat} (h : s.testBit m = false ∨ u m = false) : rr_sf u c s (m + 1) = rr_sf u c s m := if_neg (by
  rcases h with h | h
  · rw [h]; simp
  · rw [h]; simp)
theorem rr_sf_congr {u : Nat → Bool} {c c' : Nat → Int32} {s : Nat} (hs : s < 256) (h : ∀ a, a < s → c' a = c a) : ∀ m, m ≤ 8 → rr_sf u c' s m = rr_sf u c s m := by
  intro m
  induction m with
  | zero => intro _; rfl
  | succ m ih =>
    intro hm
    rcases z : s.testBit m with _ | _
    · rw [rr_sf_f (Or.inl z), rr_sf_f (Or.inl z), ih (by omega)]
    · rcases y : u m with _ | _
      · rw [rr_sf_f (Or.inr y), rr_sf_f (Or.inr y), ih (by omega)]
      · rw [rr_sf_t z y, rr_sf_t z y, ih (by omega), h _ ((rr_clr2 s hs m (by omega)).2.1 z)]
def rr_cl (M : Nat → Nat → Bool) (n s : Nat) : Prop := ∀ j, j < n → s.testBit j = true → ∀ b, M b j = true → s.testBit b = true
theorem rr_ord {M : Nat → Nat → Bool} {n : Nat} (n8 : n ≤ 8) (hlt : ∀ a b, M a b = true → a < b) {a c : Nat → Int32} (a0 : a 0 = 1) (c0 : c 0 = 1)
    (ha : ∀ s, 1 ≤ s → s < 2 ^ n → a s = rr_sf (rr_prd M s) a s n) (hc : ∀ s, 1 ≤ s → s < 2 ^ n → c s = rr_sf (rr_lst M n s) c s n) :
    ∀ s, s < 2 ^ n → (rr_cl M n s → a s = c s) ∧ (¬ rr_cl M n s → a s = 0) := by
  have p8 := (rr_pw n n8).2.1
  intro s
  induction s using Nat.strongRecOn with
  | _ s ih =>
  intro hs
  rcases Nat.eq_zero_or_pos s with z | z
  · subst z
    refine ⟨fun _ => by rw [a0, c0], fun h => absurd (fun j hj hb => ?_) h⟩
    rw [Nat.zero_testBit] at hb; cases hb
  · rw [ha s z hs, hc s z hs]
    have s256 : s < 256 := by omega
    constructor
    · intro hcl
      have key : ∀ m, m ≤ n → rr_sf (rr_prd M s) a s m = rr_sf (rr_lst M n s) c s m := by
        intro m
        induction m with
        | zero => intro _; rfl
        | succ m ihm =>
          intro hm
          have ihm := ihm (by omega)
          rcases y : s.testBit m with _ | _
          · rw [rr_sf_f (Or.inl y), rr_sf_f (Or.inl y), ihm]
          · have hp : rr_prd M s m = true := rr_prd_t.mpr (fun b hb hM => by
              rw [rr_clr3 s256 (by omega) hb, hcl m (by omega) y b hM, decide_eq_false (by have := hlt b m hM; omega)]; rfl)
            have hlt' := (rr_clr2 s s256 m (by omega)).2.1 y
            obtain ⟨i1, i2⟩ := ih (rr_clr s m) hlt' (by omega)
            rw [rr_sf_t y hp]
            rcases w : rr_lst M n s m with _ | _
            · have : ¬ rr_cl M n (rr_clr s m) := by
                intro q
                have : rr_lst M n s m = true := rr_lst_t.mpr (fun k hk hb => by
                  rcases e : M m k with _ | _
                  · rfl
                  · have hmk := hlt m k e
                    have h1 : (rr_clr s m).testBit k = true := by
                      rw [rr_clr3 s256 (by omega) (by omega), hb, decide_eq_false (by omega)]; rfl
                    have h2 := q k hk h1 m e
                    rw [rr_clr3 s256 (by omega) (by omega), decide_eq_true rfl] at h2
                    simp at h2)
                rw [this] at w; cases w
              rw [rr_sf_f (Or.inr w), i2 this, Int32.add_zero, ihm]
            · have : rr_cl M n (rr_clr s m) := by
                intro j hj hb b hM
                rw [rr_clr3 s256 (by omega) (by omega), Bool.and_eq_true] at hb
                have h1 := hcl j hj hb.1 b hM
                have hbj := hlt b j hM
                rw [rr_clr3 s256 (by omega) (by omega), h1]
                have : b ≠ m := by
                  intro e
                  subst e
                  have := rr_lst_t.mp w j hj hb.1
                  rw [this] at hM; cases hM
                rw [decide_eq_false this]; rfl
              rw [rr_sf_t y w, i1 this, ihm]
      exact key n (Nat.le_refl n)
    · intro hncl
      obtain ⟨j, hj, hb, b, hM, hnb⟩ : ∃ j, j < n ∧ s.testBit j = true ∧ ∃ b, M b j = true ∧ s.testBit b = false := by
        refine Classical.byContradiction (fun q => hncl (fun j hj hb b hM => ?_))
        rcases e : s.testBit b with _ | _
        · exact absurd ⟨j, hj, hb, b, hM, e⟩ q
        · rfl
      have hbj := hlt b j hM
      have key : ∀ m, m ≤ n → rr_sf (rr_prd M s) a s m = 0 := by
        intro m
        induction m with
        | zero => intro _; rfl
        | succ m ihm =>
          intro hm
          have ihm := ihm (by omega)
          rcases y : s.testBit m with _ | _
          · rw [rr_sf_f (Or.inl y), ihm]
          · rcases w : rr_prd M s m with _ | _
            · rw [rr_sf_f (Or.inr w), ihm]
            · have hlt' := (rr_clr2 s s256 m (by omega)).2.1 y
              have nb : (rr_clr s m).testBit b = false := by rw [rr_clr3 s256 (by omega) (by omega), hnb]; rfl
              have hmj : j ≠ m := by
                intro e
                subst e
                have := rr_prd_t.mp w b (by omega) hM
                rw [nb] at this; cases this
              have : ¬ rr_cl M n (rr_clr s m) := by
                intro q
                have h1 : (rr_clr s m).testBit j = true := by
                  rw [rr_clr3 s256 (by omega) (by omega), hb, decide_eq_false hmj]; rfl
                have := q j hj h1 b hM
                rw [nb] at this; cases this
              rw [rr_sf_t y w, (ih (rr_clr s m) hlt' (by omega)).2 this, ihm]; rfl
      exact key n (Nat.le_refl n)
theorem rr_full : ∀ n, n ≤ 8 → ∀ b, b < n → (2 ^ n - 1).testBit b = true := by decide +kernel
section
variable {ec fx : Int32} {sz ks os hi et ek eo mb kb oc pa nt fo : Nat → Int32}
variable {n : Nat} {M : Nat → Nat → Bool}
theorem xs_ordersOf (n8 : n ≤ 8) (hlt : ∀ a b, M a b = true → a < b) (hM : ∀ j, j < n → ∀ b, b < 32 → bt (mb j) b = M b j) {s : Nat} (hs : s < 2 ^ n) {post : Int32 → Prop} (h : post (rr_sf (rr_prd M s) oc s n)) : wpX_ordersOf post (nI n, fx, sz, ks, os, hi, et, ek, eo, mb, kb, oc, pa, nt, fo) (nI s) := by
  have p8 := (rr_pw n n8).2.1
  refine loop_0 (fun N m (x : Int32) => wX_ordersOf_4 post (nI s) (nI n) fx sz ks os hi et ek eo mb kb oc pa nt fo N x (nI m)) (fun m x => x = rr_sf (rr_prd M s) oc s m) n 0 rfl ?_ ?_
  · intro N x hx; subst hx; exact br_t (nI_le (Nat.le_refl n) (by omega)) h
  · intro N m x hm hx ih
    subst hx
    have c2 := rr_clr2 s (by omega) m (by omega)
    refine br_f (nI_ge hm (by omega)) (nm_r (rr_clr1 s (by omega) m (by omega)) ?_)
    rcases y : s.testBit m with _ | _
    · exact br_t (by rw [c2.2.2 y]) (nm_r (nI_1 m) (ih _ (rr_sf_f (Or.inl y)).symm))
    · have hl := c2.2.1 y
      refine br_f (fun z => by rw [nI_eq (by omega) (by omega)] at z; omega) ⟨pk_in m 8 (by omega) rfl, ?_⟩
      rw [nI_clamp (show m < 2 ^ 31 by omega)]
      have q : (mb m &&& (nI (rr_clr s m) ^^^ (-1)) = 0) ↔ rr_prd M s m = true := by
        rw [rr_sub0, rr_prd_t]
        constructor
        · intro h b hb hMb
          have := h b (by omega) (by rw [hM m hm b (by omega)]; exact hMb)
          rw [rr_btN (by omega) (by omega)] at this; exact this
        · intro h b hb hbt
          rw [hM m hm b hb] at hbt
          have := hlt b m hbt
          rw [rr_btN (by omega) hb]; exact h b (by omega) hbt
      by_cases w : mb m &&& (nI (rr_clr s m) ^^^ (-1)) = 0
      · refine br_t w ⟨pk_in _ _ (by omega) rfl, nm_r (show _ = rr_sf (rr_prd M s) oc s (m + 1) by rw [nI_clamp (by omega), rr_sf_t y (q.mp w)]) (nm_r (nI_1 m) (ih _ rfl))⟩
      · refine br_f w (nm_r (nI_1 m) (ih _ (rr_sf_f (Or.inr ?_)).symm))
        rcases e : rr_prd M s m with _ | _
        · rfl
        · exact absurd (q.mpr e) w
theorem xs_orders (n8 : n ≤ 8) (hlt : ∀ a b, M a b = true → a < b) (hM : ∀ j, j < n → ∀ b, b < 32 → bt (mb j) b = M b j) {post : Int32 → SX → Prop}
    (H : ∀ a, a 0 = 1 → (∀ s, 1 ≤ s → s < 2 ^ n → a s = rr_sf (rr_prd M s) a s n) → post (a (2 ^ n - 1)) (nI n, fx, sz, ks, os, hi, et, ek, eo, mb, kb, a, pa, nt, fo)) : wpX_orders post (nI n, fx, sz, ks, os, hi, et, ek, eo, mb, kb, oc, pa, nt, fo) := by
  obtain ⟨e1, p8, p1⟩ := rr_pw n n8
  refine nm_r (show _ = nI (2 ^ n - 1) by rw [e1]; exact pk_sub (b := 1) p1) (nm_e ?_)
  refine pk_loop (fun N s a => wX_orders_18 post (nI (2 ^ n - 1)) (nI n) fx N (nI s) sz ks os hi et ek eo mb kb a pa nt fo) (fun s a => 1 ≤ s ∧ a 0 = 1 ∧ ∀ i, 1 ≤ i → i < s → a i = rr_sf (rr_prd M i) a i n) (2 ^ n) 1 (upd oc 0 1) p1 ⟨Nat.le_refl 1, rfl, fun i h1 h2 => by omega⟩ ?_ ?_
  · intro N a ⟨_, h0, h1⟩
    refine br_t (nI_lt (by omega) (by omega)) ⟨pk_in _ _ (by omega) rfl, ?_⟩
    rw [nI_clamp (by omega)]; exact H a h0 h1
  · intro N s a hs ⟨s1, h0, h1⟩ ih
    refine br_f (nI_nlt (by omega) (by omega)) (xs_ordersOf n8 hlt hM hs ⟨pk_in _ _ (by omega) rfl, nm_r (show _ = upd a s (rr_sf (rr_prd M s) a s n) by rw [nI_clamp (by omega)]) (nm_r (nI_1 s) ?_)⟩)
    refine ih _ ⟨by omega, by rw [pk_un (by omega)]; exact h0, fun i g1 g2 => ?_⟩
    rw [rr_sf_congr (c := a) (show i < 256 by omega) (fun b hb => pk_un (by omega)) n n8]
    rcases Nat.decEq i s with z | z
    · rw [pk_un z]; exact h1 i g1 (by omega)
    · rw [z, pk_us]
end
section
variable {cn fy dy : Int32} {ks os sz bg va rg ho pl dn ol rl sm kp tr fd : Nat → Int32}
variable {n : Nat} {M : Nat → Nat → Bool}
theorem ys_last (n8 : n ≤ 8) (hM : ∀ i, i < 8 → ∀ j, j < 8 → rl (8 * i + j) = rr_b (decide (j < n) && M i j)) {s m : Nat} (hs : s < 256) (hm : m < n) {post : Int32 → Prop} (h : post (rr_b (rr_lst M n s m))) : wpY_canBeLast post (nI n, fy, dy, ks, os, sz, bg, va, rg, ho, pl, dn, ol, rl, sm, kp, tr, fd) (nI m) (nI s) := by
  have key : ∀ d i, i + d = n → (∀ a, a < i → s.testBit a = true → M m a = false) → wY_canBeLast_2 post (nI m) (nI s) (nI n) fy dy ks os sz bg va rg ho pl dn ol rl sm kp tr fd (d + 1) (nI i) := by
    intro d
    induction d with
    | zero =>
      intro i hi' hno
      obtain rfl : i = n := by omega
      rw [rr_lst_t.mpr hno] at h
      exact br_t (nI_le (Nat.le_refl _) (by omega)) h
    | succ d ih =>
      intro i hi' hno
      have cont : (s.testBit i = true → M m i = false) → wY_canBeLast_2 post (nI m) (nI s) (nI n) fy dy ks os sz bg va rg ho pl dn ol rl sm kp tr fd (d + 1) (nI (i + 1)) := fun q => ih (i + 1) (by omega) (fun a ha hb => by
        rcases Nat.decEq a i with z | z
        · exact hno a (by omega) hb
        · rw [z] at hb ⊢; exact q hb)
      have bb := rr_bitS hs (show i < 8 by omega)
      have e1 := rr_ixr m i
      refine br_f (nI_ge (by omega) (by omega)) ?_
      rcases y : s.testBit i with _ | _
      · exact br_f (fun z => by rw [bb, y] at z; cases z) (nm_r (nI_1 i) (cont (fun z => by rw [y] at z; cases z)))
      · refine br_t (bb.mpr y) ⟨pk_in _ _ (by omega) e1, ?_⟩
        rw [e1, nI_clamp (by omega), hM m (by omega) i (by omega), decide_eq_true (show i < n by omega), Bool.true_and]
        refine rr_bd (fun z => nm_r (nI_1 i) (cont (fun _ => z))) (fun z => ?_)
        have : rr_lst M n s m = false := by
          rcases e : rr_lst M n s m with _ | _
          · rfl
          · have := rr_lst_t.mp e i (by omega) y
            rw [this] at z; cases z
        rw [this] at h; exact h
  exact ⟨n + 1, key n 0 (by omega) (fun a ha => by omega)⟩
theorem ys_orders14 (n8 : n ≤ 8) (hM : ∀ i, i < 8 → ∀ j, j < 8 → rl (8 * i + j) = rr_b (decide (j < n) && M i j)) {post : Int32 → SY → Prop}
    (H : ∀ a, a 0 = 1 → (∀ s, 1 ≤ s → s < 2 ^ n → a s = rr_sf (rr_lst M n s) a s n) → post (a (2 ^ n - 1)) (nI n, fy, dy, ks, os, sz, bg, va, rg, ho, pl, dn, ol, rl, a, kp, tr, fd)) : ∃ N, wY_orders_14 post (nI n) fy dy N 1 ks os sz bg va rg ho pl dn ol rl ((upd sm 0 1)) kp tr fd := by
  obtain ⟨e1, p8, p1⟩ := rr_pw n n8
  have e2 : nI (2 ^ n) - 1 = nI (2 ^ n - 1) := pk_sub (b := 1) p1
  refine pk_loop (fun N s a => wY_orders_14 post (nI n) fy dy N (nI s) ks os sz bg va rg ho pl dn ol rl a kp tr fd) (fun s a => 1 ≤ s ∧ a 0 = 1 ∧ ∀ i, 1 ≤ i → i < s → a i = rr_sf (rr_lst M n i) a i n) (2 ^ n) 1 (upd sm 0 1) p1 ⟨Nat.le_refl 1, rfl, fun i h1 h2 => by omega⟩ ?_ ?_
  · intro N a ⟨_, h0, h1⟩
    refine br_t (by rw [e1]; exact nI_le (Nat.le_refl _) (by omega)) ⟨by rw [e1, e2]; exact pk_in _ _ (by omega) rfl, ?_⟩
    rw [e1, e2, nI_clamp (by omega)]; exact H a h0 h1
  · intro N s a hs ⟨s1, h0, h1⟩ ih
    have cs : (nI s).toNatClampNeg = s := nI_clamp (by omega)
    have vs : vp_in (nI s) 256 := pk_in s 256 (by omega) rfl
    refine br_f (by rw [e1]; exact nI_ge hs (by omega)) ⟨vs, nm_r (show _ = upd a s 0 by rw [cs]) ?_⟩
    refine loop_0 (fun L m b => wY_orders_33 post (wY_orders_14 post (nI n) fy dy N) (nI s) (nI n) fy dy L (nI m) ks os sz bg va rg ho pl dn ol rl b kp tr fd) (fun m b => b s = rr_sf (rr_lst M n s) a s m ∧ ∀ i, i ≠ s → b i = a i) n (upd a s 0) ⟨pk_us, fun i hil => pk_un hil⟩ ?_ ?_
    · intro L b ⟨b1, b2⟩
      refine br_t (nI_le (Nat.le_refl n) (by omega)) (nm_r (nI_1 s) (ih b ⟨by omega, by rw [b2 0 (by omega)]; exact h0, fun i g1 g2 => ?_⟩))
      rw [rr_sf_congr (c := a) (show i < 256 by omega) (fun c hc => b2 c (by omega)) n n8]
      rcases Nat.decEq i s with z | z
      · rw [b2 i z]; exact h1 i g1 (by omega)
      · rw [z, b1]
    · intro L m b hm ⟨b1, b2⟩ ihb
      have bb := rr_bitS (show s < 256 by omega) (show m < 8 by omega)
      have c1 := rr_clr1 s (by omega) m (by omega)
      have c2 := rr_clr2 s (by omega) m (by omega)
      have st : ∀ (x : Int32), x = rr_sf (rr_lst M n s) a s (m + 1) → wY_orders_33 post (wY_orders_14 post (nI n) fy dy N) (nI s) (nI n) fy dy L (nI (m + 1)) ks os sz bg va rg ho pl dn ol rl ((upd b s x)) kp tr fd := fun x hx => ihb _ ⟨by rw [pk_us]; exact hx, fun i hil => by rw [pk_un hil]; exact b2 i hil⟩
      have no : (s.testBit m = false ∨ rr_lst M n s m = false) → wY_orders_63 post (wY_orders_14 post (nI n) fy dy N) (wY_orders_33 post (wY_orders_14 post (nI n) fy dy N) (nI s) (nI n) fy dy L) (nI s) (nI m) (nI n) fy dy ks os sz bg va rg ho pl dn ol rl b kp tr fd := by
        intro z
        refine br_t rfl ⟨vs, vs, nm_r (show _ = upd b s (b s) by rw [cs]) (nm_r (nI_1 m) (st _ (by rw [rr_sf_f z]; exact b1)))⟩
      refine br_f (nI_ge hm (by omega)) ?_
      rcases y : s.testBit m with _ | _
      · exact br_f (fun z => by rw [bb, y] at z; cases z) (no (Or.inl y))
      · have hl := c2.2.1 y
        refine br_t (bb.mpr y) (ys_last n8 hM (by omega) hm (rr_bd (fun w => no (Or.inr w)) (fun w => br_f (by decide) ⟨vs, by rw [c1]; exact pk_in _ _ (by omega) rfl, vs, nm_r (show _ = upd b s (rr_sf (rr_lst M n s) a s (m + 1)) by rw [cs, c1, nI_clamp (by omega), b1, b2 _ (by omega), rr_sf_t y w]) (nm_r (nI_1 m) (st _ rfl))⟩)))
end
theorem i_vc_orders {k : Nat} {u : SX} {v : SY} (I : i_Rel k u v) (hk : k + 4 ≤ 2048) : wpX_orders (fun r u' => wpY_orders (fun r' v' => r' = r ∧ i_Rel (k + 4) u' v') v) u := by
  obtain ⟨S, T, n, B, fx, fy, dy, sz, ks, os, hi, et, ek, eo, mb, kb, oc, pa, nt, fo, bg, va, rg, ho, pl, dn, ol, rl, sm, kp, tr, fd, rfl, rfl, hG, hX, hY⟩ := I
  have n8 := rr_Go_8 hG (Nat.le_refl n)
  obtain ⟨e1, p8, p1⟩ := rr_pw n n8
  refine xs_orders (M := rr_P (rr_E false ks os T (rr_od ks os B T)) 8) n8 (fun a b => rr_P_lt 8 a b) hX.2.2.1 (fun a a0 ha => ?_)
  unfold wpY_orders
  refine ys_close false hG.1 (rr_Ev_of hG) (rr_Ye_of hY) (fun rl' hrl => nm_e (ys_orders14 (M := rr_P (rr_E false ks os T (rr_od ks os B T)) 8) n8 hrl (fun c c0 hc => ⟨?_, rr_mk hG hX hY⟩)))
  refine ((rr_ord n8 (fun a b => rr_P_lt 8 a b) a0 c0 ha hc (2 ^ n - 1) (by omega)).1 (fun j hj _ b hM => ?_)).symm
  exact rr_full n n8 b (by have := rr_P_lt 8 b j hM; omega)
