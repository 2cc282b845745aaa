theorem rr_ix0 (e a : Nat) : nI e * 10 + nI a = nI (10 * e + a) := by
  rw [show (10 : Int32) = nI 10 from rfl, pk_mul, nI_add, Nat.mul_comm]
theorem rr_ixa (e a b : Nat) : nI e * 10 + nI a + nI b = nI (10 * e + (a + b)) := by
  rw [rr_ix0, nI_add, Nat.add_assoc]
theorem rr_ix5 (e t : Nat) : nI e * 10 + 5 + nI t = nI (10 * e + (5 + t)) := rr_ixa e 5 t
theorem rr_ix8 (e t : Nat) : nI e * 10 + 8 + nI t = nI (10 * e + (8 + t)) := rr_ixa e 8 t
theorem rr_ix2 (e t : Nat) : nI e * 10 + 2 + nI t = nI (10 * e + (2 + t)) := rr_ixa e 2 t
theorem rr_iy (d a b : Nat) : nI d + nI a + nI b = nI (d + (a + b)) := by rw [nI_add, nI_add, Nat.add_assoc]
theorem rr_iy5 (d t : Nat) : nI d + 5 + nI t = nI (d + (5 + t)) := rr_iy d 5 t
theorem rr_iy8 (d t : Nat) : nI d + 8 + nI t = nI (d + (8 + t)) := rr_iy d 8 t
theorem rr_iy2 (d t : Nat) : nI d + 2 + nI t = nI (d + (2 + t)) := rr_iy d 2 t
theorem rr_lt3 {t : Nat} (h : t < 3) : ¬ (3 : Int32) ≤ nI t := nI_ge (b := 3) h (by decide)
theorem rr_gl {a q : Nat → Int32} {D i : Nat} {v : Int32} (h : ∀ c, c < 10 → a (D + c) = q c) : ∀ c, c < 10 → upd a (D + i) v (D + c) = upd q i v c := by
  intro c hc
  rcases Nat.decEq c i with z | z
  · rw [pk_un (by omega), pk_un z, h c hc]
  · rw [z, pk_us, pk_us]
def rr_m1 (sz ks os r : Nat → Int32) (t : Nat) (x : Int32) : Int32 := if rr_en sz ks os t r then x ||| ((1 : Int32) <<< (nI t &&& 31)) else x
def rr_msk (sz ks os r : Nat → Int32) : Int32 := rr_m1 sz ks os r 2 (rr_m1 sz ks os r 1 (rr_m1 sz ks os r 0 0))
theorem rr_msk0 {sz ks os r : Nat → Int32} : rr_msk sz ks os r = 0 ↔ rr_any sz ks os r = false := by
  unfold rr_msk rr_any rr_m1
  cases rr_en sz ks os 0 r <;> cases rr_en sz ks os 1 r <;> cases rr_en sz ks os 2 r <;> decide
section
variable {ec fx : Int32} {sz ks os hi et ek eo mb kb oc pa nt fo : Nat → Int32}
variable {S p : Nat → Nat} {r : Nat → Int32} {e t : Nat}
theorem xs_can_history (hP : rr_Pg sz ks os S) (hR : rr_Rk S r p) (he : e ≤ 8) (ht : t < 3) (hr : ∀ c, c < 10 → hi (10 * e + c) = r c) {post : Int32 → Prop} (h : post (rr_b (rr_en sz ks os t r))) : wpX_canStep__history post (ec, fx, sz, ks, os, hi, et, ek, eo, mb, kb, oc, pa, nt, fo) (nI e) (nI t) := by
  have hS := rr_S4 hP ht
  have hp := rr_p4 hP hR ht
  have e1 : nI e * 10 + 5 + nI t = nI (10 * e + (5 + t)) := rr_ix5 e t
  have c1 : hi (nI e * 10 + 5 + nI t).toNatClampNeg = r (5 + t) := by rw [e1, nI_clamp (by omega)]; exact hr _ (by omega)
  have ct : (nI t).toNatClampNeg = t := nI_clamp (by omega)
  refine ⟨pk_in _ _ (by omega) e1, nm_r c1 ⟨pk_in t 3 ht rfl, ?_⟩⟩
  rw [ct]
  by_cases hl : r (5 + t) < sz t
  · have e2 : nI t * 4 + r (5 + t) = nI (rr_op t r) := by
      rw [rr_opN hP hR ht, (hR.1 t ht).1, show (4 : Int32) = nI 4 from rfl, pk_mul, nI_add, Nat.mul_comm]
    have ho := rr_op12 hP hR ht hl
    have c2 : (nI (rr_op t r)).toNatClampNeg = rr_op t r := nI_clamp (by omega)
    have lk : (ks (rr_op t r) = 3 ∨ ks (rr_op t r) = 4) → wX_canStep__history_56 post (nI e) (nI t) (nI (rr_op t r)) (ks (rr_op t r)) ec fx sz ks os hi et ek eo mb kb oc pa nt fo := by
      intro hk
      have hx : rr_ox os t r < 2 ∧ os (rr_op t r) = nI (rr_ox os t r) := by
        rcases rr_views hP hR ht hl with ⟨_, hx⟩ | ⟨_, hx⟩ | z | ⟨_, hx⟩ | ⟨_, hx⟩
        · exact hx
        · exact hx
        · rw [z] at hk; rcases hk with y | y <;> exact absurd y (by decide)
        · exact hx
        · exact hx
      have hx1 := hx.1
      have e3 : nI e * 10 + 8 + os (nI (rr_op t r)).toNatClampNeg = nI (10 * e + (8 + rr_ox os t r)) := by
        rw [c2, hx.2]; exact rr_ix8 e (rr_ox os t r)
      have c3 : hi (nI e * 10 + 8 + os (nI (rr_op t r)).toNatClampNeg).toNatClampNeg = r (8 + rr_ox os t r) := by
        rw [e3, nI_clamp (by omega)]; exact hr _ (by omega)
      refine ⟨pk_in _ _ ho rfl, pk_in _ _ (by omega) e3, nm_r c3 ?_⟩
      rcases hk with hk | hk
      · refine br_t hk ?_
        rw [rr_en_l hl hk] at h
        by_cases z : r (8 + rr_ox os t r) = -1000000004
        · rw [decide_eq_true z] at h; exact br_t z h
        · rw [decide_eq_false z] at h; exact br_f z h
      · refine br_f (by rw [hk]; decide) ?_
        rw [rr_en_u hl hk] at h
        by_cases z : r (8 + rr_ox os t r) = nI t
        · rw [decide_eq_true z] at h; exact br_t z h
        · rw [decide_eq_false z] at h; exact br_f z h
    refine br_t hl (nm_r e2 ⟨pk_in _ _ ho rfl, nm_r (congrArg ks c2) ?_⟩)
    by_cases h3 : ks (rr_op t r) = 3
    · exact br_t h3 (lk (Or.inl h3))
    · refine br_f h3 ?_
      by_cases h4 : ks (rr_op t r) = 4
      · exact br_t h4 (lk (Or.inr h4))
      · rw [rr_en_o hl h3 h4] at h; exact br_f h4 h
  · rw [rr_en_no hl] at h; exact br_f hl h
theorem xs_thr1_history (hP : rr_Pg sz ks os S) (hR : rr_Rk S r p) (he : e ≤ 8) (ht : t < 3) (hr : ∀ c, c < 10 → hi (10 * e + c) = r c) {post : Int32 → Prop} {n : Nat} {x : Int32} (h : wX_threadsThatCanStep__history_5 post (nI e) ec fx sz ks os hi et ek eo mb kb oc pa nt fo n (rr_m1 sz ks os r t x) (nI (t + 1))) : wX_threadsThatCanStep__history_5 post (nI e) ec fx sz ks os hi et ek eo mb kb oc pa nt fo (n + 1) x (nI t) := by
  refine br_f (rr_lt3 ht) (xs_can_history hP hR he ht hr ?_)
  unfold rr_m1 at h
  refine rr_bd (fun z => ?_) (fun z => ?_)
  · rw [z] at h; exact nm_r (nI_1 t) h
  · rw [z] at h; exact nm_e (nm_r (nI_1 t) h)
theorem xs_thr_history (hP : rr_Pg sz ks os S) (hR : rr_Rk S r p) (he : e ≤ 8) (hr : ∀ c, c < 10 → hi (10 * e + c) = r c) {post : Int32 → Prop} (h : post (rr_msk sz ks os r)) : wpX_threadsThatCanStep__history post (ec, fx, sz, ks, os, hi, et, ek, eo, mb, kb, oc, pa, nt, fo) (nI e) :=
  ⟨4, xs_thr1_history (t := 0) hP hR he (by omega) hr (xs_thr1_history (t := 1) hP hR he (by omega) hr (xs_thr1_history (t := 2) hP hR he (by omega) hr (br_t (by decide) h)))⟩
theorem xs_nop_history (hP : rr_Pg sz ks os S) (hR : rr_Rk S r p) (he : e ≤ 8) (ht : t < 3) (hr : ∀ c, c < 10 → hi (10 * e + c) = r c) {post : Int32 → Prop} (h : post (nI (rr_op t r))) : wpX_nextOperation__history post (ec, fx, sz, ks, os, hi, et, ek, eo, mb, kb, oc, pa, nt, fo) (nI e) (nI t) := by
  have hp := rr_p4 hP hR ht
  have e1 : nI e * 10 + 5 + nI t = nI (10 * e + (5 + t)) := rr_ix5 e t
  refine ⟨pk_in _ _ (by omega) e1, ?_⟩
  have e2 : nI t * 4 + hi (nI e * 10 + 5 + nI t).toNatClampNeg = nI (rr_op t r) := by
    rw [e1, nI_clamp (by omega), hr _ (by omega), rr_opN hP hR ht, (hR.1 t ht).1, show (4 : Int32) = nI 4 from rfl, pk_mul, nI_add, Nat.mul_comm]
  rw [e2]; exact h
theorem xs_take_history (hP : rr_Pg sz ks os S) (hR : rr_Rk S r p) (he : e < 8) (ht : t < 3) (hr : ∀ c, c < 10 → hi (10 * e + c) = r c) (hl : r (5 + t) < sz t) {post : SX → Prop}
    (H : ∀ a, (∀ c, c < 10 → a (10 * (e + 1) + c) = rr_st ks os t r c) → (∀ j, j < 10 * (e + 1) ∨ 10 * (e + 2) ≤ j → a j = hi j) → post (ec, fx, sz, ks, os, a, et, ek, eo, mb, kb, oc, pa, nt, fo)) : wpX_takeStep__history post (ec, fx, sz, ks, os, hi, et, ek, eo, mb, kb, oc, pa, nt, fo) (nI e) (nI t) := by
  refine nm_r (show nI e * 10 = nI (10 * e) by rw [show (10 : Int32) = nI 10 from rfl, pk_mul, Nat.mul_comm]) (nm_r (show nI (10 * e) + 10 = nI (10 * (e + 1)) from nI_add (10 * e) 10) ?_)
  refine loop_0 (fun n i a => wX_takeStep__history_16 post (nI e) (nI t) (nI (10 * e)) (nI (10 * (e + 1))) ec fx n (nI i) sz ks os a et ek eo mb kb oc pa nt fo) (fun i a => (∀ c, c < i → a (10 * (e + 1) + c) = hi (10 * e + c)) ∧ ∀ j, j < 10 * (e + 1) ∨ 10 * (e + 1) + i ≤ j → a j = hi j) 10 hi ⟨fun c hc => by omega, fun j _ => rfl⟩ ?_ ?_
  · intro n a ⟨h1, h2⟩
    have hr' : ∀ c, c < 10 → a (10 * e + c) = r c := fun c hc => by rw [h2 _ (by omega)]; exact hr c hc
    have hq : ∀ c, c < 10 → a (10 * (e + 1) + c) = r c := fun c hc => by rw [h1 c hc]; exact hr c hc
    have ho := rr_op12 hP hR ht hl
    have c2 : (nI (rr_op t r)).toNatClampNeg = rr_op t r := nI_clamp (by omega)
    have e5 : nI (10 * (e + 1)) + 5 + nI t = nI (10 * (e + 1) + (5 + t)) := rr_iy5 _ _
    have e2 : nI (10 * (e + 1)) + 2 + nI t = nI (10 * (e + 1) + (2 + t)) := rr_iy2 _ _
    have e2' : nI (10 * e) + 2 + nI t = nI (10 * e + (2 + t)) := rr_iy2 _ _
    have u5 : upd a (nI (10 * (e + 1)) + 5 + nI t).toNatClampNeg (a (nI (10 * (e + 1)) + 5 + nI t).toNatClampNeg + 1) = upd a (10 * (e + 1) + (5 + t)) (r (5 + t) + 1) := by
      rw [e5, nI_clamp (by omega), hq _ (by omega)]
    have g5 : ∀ c, c < 10 → upd a (10 * (e + 1) + (5 + t)) (r (5 + t) + 1) (10 * (e + 1) + c) = upd r (5 + t) (r (5 + t) + 1) c := rr_gl hq
    have g5' : ∀ c, c < 10 → upd a (10 * (e + 1) + (5 + t)) (r (5 + t) + 1) (10 * e + c) = r c := fun c hc => by rw [pk_un (by omega)]; exact hr' c hc
    have fr : ∀ i, i < 10 → ∀ v j, j < 10 * (e + 1) ∨ 10 * (e + 2) ≤ j → upd (upd a (10 * (e + 1) + (5 + t)) (r (5 + t) + 1)) (10 * (e + 1) + i) v j = hi j := by
      intro i hi v j hj
      rw [pk_un (by omega), pk_un (by omega)]; exact h2 j (by omega)
    have fin : ∀ i, i < 10 → ∀ v, rr_st ks os t r = upd (upd r (5 + t) (r (5 + t) + 1)) i v → post (ec, fx, sz, ks, os, (upd (upd a (10 * (e + 1) + (5 + t)) (r (5 + t) + 1)) (10 * (e + 1) + i) v), et, ek, eo, mb, kb, oc, pa, nt, fo) := by
      intro i hi v hst
      exact H _ (fun c hc => by rw [hst]; exact rr_gl g5 c hc) (fr i hi v)
    refine br_t (show (10 : Int32) ≤ nI 10 by decide) (xs_nop_history hP hR (by omega) ht hr' ?_)
    refine ⟨pk_in _ _ ho rfl, nm_r (congrArg os c2) ⟨pk_in _ _ (by omega) e5, pk_in _ _ (by omega) e5, nm_r u5 ⟨pk_in _ _ ho rfl, nm_r (congrArg ks c2) ?_⟩⟩⟩
    rcases rr_views hP hR ht hl with ⟨hk, hx, ex⟩ | ⟨hk, hx, ex⟩ | hk | ⟨hk, hx, ex⟩ | ⟨hk, hx, ex⟩
    · rw [hk, ex]
      have i1 : nI (10 * e) + nI (rr_ox os t r) = nI (10 * e + rr_ox os t r) := nI_add _ _
      refine br_f (by decide) (br_f (by decide) (br_t rfl ⟨pk_in _ _ (by omega) i1, pk_in _ _ (by omega) e2, nm_r ?_ (fin (2 + t) (by omega) (r (rr_ox os t r)) (rr_st0 hk))⟩))
      rw [e2, i1, nI_clamp (by omega), nI_clamp (by omega), g5' _ (by omega)]
    · rw [hk, ex]
      have i1 : nI (10 * (e + 1)) + nI (rr_ox os t r) = nI (10 * (e + 1) + rr_ox os t r) := nI_add _ _
      refine br_f (by decide) (br_f (by decide) (br_f (by decide) (br_t rfl ⟨pk_in _ _ (by omega) e2', pk_in _ _ (by omega) i1, nm_r ?_ (fin (rr_ox os t r) (by omega) (r (2 + t)) (rr_st1 hk))⟩)))
      rw [e2', i1, nI_clamp (by omega), nI_clamp (by omega), g5' _ (by omega)]
    · rw [hk]
      refine br_f (by decide) (br_f (by decide) (br_f (by decide) (br_f (by decide) (br_t rfl ⟨pk_in _ _ (by omega) e2, pk_in _ _ (by omega) e2, nm_r ?_ (fin (2 + t) (by omega) (r (2 + t) + os (rr_op t r)) (rr_st2 hk))⟩))))
      rw [e2, nI_clamp (by omega), g5 _ (by omega), pk_un (by omega)]
    · rw [hk, ex]
      have i1 : nI (10 * (e + 1)) + 8 + nI (rr_ox os t r) = nI (10 * (e + 1) + (8 + rr_ox os t r)) := rr_iy8 _ _
      refine br_f (by decide) (br_f (by decide) (br_f (by decide) (br_f (by decide) (br_f (by decide) (br_t rfl ⟨pk_in _ _ (by omega) i1, nm_r ?_ (fin (8 + rr_ox os t r) (by omega) (nI t) (rr_st3 hk))⟩)))))
      rw [i1, nI_clamp (by omega)]
    · rw [hk, ex]
      have i1 : nI (10 * (e + 1)) + 8 + nI (rr_ox os t r) = nI (10 * (e + 1) + (8 + rr_ox os t r)) := rr_iy8 _ _
      refine br_f (by decide) (br_t (by decide) ⟨pk_in _ _ (by omega) i1, nm_r ?_ (fin (8 + rr_ox os t r) (by omega) (-1000000004) (rr_st4 hk))⟩)
      rw [i1, nI_clamp (by omega)]
  · intro n i a hil ⟨h1, h2⟩ ih
    have i1 : nI (10 * e) + nI i = nI (10 * e + i) := nI_add _ _
    have i2 : nI (10 * (e + 1)) + nI i = nI (10 * (e + 1) + i) := nI_add _ _
    refine br_f (nI_ge (b := 10) hil (by decide)) ⟨pk_in _ _ (by omega) i1, pk_in _ _ (by omega) i2, nm_r (show _ = upd a (10 * (e + 1) + i) (hi (10 * e + i)) by rw [i1, i2, nI_clamp (by omega), nI_clamp (by omega), h2 _ (by omega)]) (nm_r (nI_1 i) (ih _ ⟨fun c hc => ?_, fun j hj => ?_⟩))⟩
    · rcases Nat.decEq c i with z | z
      · rw [pk_un (by omega)]; exact h1 c (by omega)
      · rw [z, pk_us]
    · rw [pk_un (by omega)]; exact h2 j (by omega)
theorem xs_can_path (hP : rr_Pg sz ks os S) (hR : rr_Rk S r p) (he : e ≤ 8) (ht : t < 3) (hr : ∀ c, c < 10 → pa (10 * e + c) = r c) {post : Int32 → Prop} (h : post (rr_b (rr_en sz ks os t r))) : wpX_canStep__path post (ec, fx, sz, ks, os, hi, et, ek, eo, mb, kb, oc, pa, nt, fo) (nI e) (nI t) := by
  have hS := rr_S4 hP ht
  have hp := rr_p4 hP hR ht
  have e1 : nI e * 10 + 5 + nI t = nI (10 * e + (5 + t)) := rr_ix5 e t
  have c1 : pa (nI e * 10 + 5 + nI t).toNatClampNeg = r (5 + t) := by rw [e1, nI_clamp (by omega)]; exact hr _ (by omega)
  have ct : (nI t).toNatClampNeg = t := nI_clamp (by omega)
  refine ⟨pk_in _ _ (by omega) e1, nm_r c1 ⟨pk_in t 3 ht rfl, ?_⟩⟩
  rw [ct]
  by_cases hl : r (5 + t) < sz t
  · have e2 : nI t * 4 + r (5 + t) = nI (rr_op t r) := by
      rw [rr_opN hP hR ht, (hR.1 t ht).1, show (4 : Int32) = nI 4 from rfl, pk_mul, nI_add, Nat.mul_comm]
    have ho := rr_op12 hP hR ht hl
    have c2 : (nI (rr_op t r)).toNatClampNeg = rr_op t r := nI_clamp (by omega)
    have lk : (ks (rr_op t r) = 3 ∨ ks (rr_op t r) = 4) → wX_canStep__path_56 post (nI e) (nI t) (nI (rr_op t r)) (ks (rr_op t r)) ec fx sz ks os hi et ek eo mb kb oc pa nt fo := by
      intro hk
      have hx : rr_ox os t r < 2 ∧ os (rr_op t r) = nI (rr_ox os t r) := by
        rcases rr_views hP hR ht hl with ⟨_, hx⟩ | ⟨_, hx⟩ | z | ⟨_, hx⟩ | ⟨_, hx⟩
        · exact hx
        · exact hx
        · rw [z] at hk; rcases hk with y | y <;> exact absurd y (by decide)
        · exact hx
        · exact hx
      have hx1 := hx.1
      have e3 : nI e * 10 + 8 + os (nI (rr_op t r)).toNatClampNeg = nI (10 * e + (8 + rr_ox os t r)) := by
        rw [c2, hx.2]; exact rr_ix8 e (rr_ox os t r)
      have c3 : pa (nI e * 10 + 8 + os (nI (rr_op t r)).toNatClampNeg).toNatClampNeg = r (8 + rr_ox os t r) := by
        rw [e3, nI_clamp (by omega)]; exact hr _ (by omega)
      refine ⟨pk_in _ _ ho rfl, pk_in _ _ (by omega) e3, nm_r c3 ?_⟩
      rcases hk with hk | hk
      · refine br_t hk ?_
        rw [rr_en_l hl hk] at h
        by_cases z : r (8 + rr_ox os t r) = -1000000004
        · rw [decide_eq_true z] at h; exact br_t z h
        · rw [decide_eq_false z] at h; exact br_f z h
      · refine br_f (by rw [hk]; decide) ?_
        rw [rr_en_u hl hk] at h
        by_cases z : r (8 + rr_ox os t r) = nI t
        · rw [decide_eq_true z] at h; exact br_t z h
        · rw [decide_eq_false z] at h; exact br_f z h
    refine br_t hl (nm_r e2 ⟨pk_in _ _ ho rfl, nm_r (congrArg ks c2) ?_⟩)
    by_cases h3 : ks (rr_op t r) = 3
    · exact br_t h3 (lk (Or.inl h3))
    · refine br_f h3 ?_
      by_cases h4 : ks (rr_op t r) = 4
      · exact br_t h4 (lk (Or.inr h4))
      · rw [rr_en_o hl h3 h4] at h; exact br_f h4 h
  · rw [rr_en_no hl] at h; exact br_f hl h
theorem xs_thr1_path (hP : rr_Pg sz ks os S) (hR : rr_Rk S r p) (he : e ≤ 8) (ht : t < 3) (hr : ∀ c, c < 10 → pa (10 * e + c) = r c) {post : Int32 → Prop} {n : Nat} {x : Int32} (h : wX_threadsThatCanStep__path_5 post (nI e) ec fx sz ks os hi et ek eo mb kb oc pa nt fo n (rr_m1 sz ks os r t x) (nI (t + 1))) : wX_threadsThatCanStep__path_5 post (nI e) ec fx sz ks os hi et ek eo mb kb oc pa nt fo (n + 1) x (nI t) := by
  refine br_f (rr_lt3 ht) (xs_can_path hP hR he ht hr ?_)
  unfold rr_m1 at h
  refine rr_bd (fun z => ?_) (fun z => ?_)
  · rw [z] at h; exact nm_r (nI_1 t) h
  · rw [z] at h; exact nm_e (nm_r (nI_1 t) h)
theorem xs_thr_path (hP : rr_Pg sz ks os S) (hR : rr_Rk S r p) (he : e ≤ 8) (hr : ∀ c, c < 10 → pa (10 * e + c) = r c) {post : Int32 → Prop} (h : post (rr_msk sz ks os r)) : wpX_threadsThatCanStep__path post (ec, fx, sz, ks, os, hi, et, ek, eo, mb, kb, oc, pa, nt, fo) (nI e) :=
  ⟨4, xs_thr1_path (t := 0) hP hR he (by omega) hr (xs_thr1_path (t := 1) hP hR he (by omega) hr (xs_thr1_path (t := 2) hP hR he (by omega) hr (br_t (by decide) h)))⟩
theorem xs_nop_path (hP : rr_Pg sz ks os S) (hR : rr_Rk S r p) (he : e ≤ 8) (ht : t < 3) (hr : ∀ c, c < 10 → pa (10 * e + c) = r c) {post : Int32 → Prop} (h : post (nI (rr_op t r))) : wpX_nextOperation__path post (ec, fx, sz, ks, os, hi, et, ek, eo, mb, kb, oc, pa, nt, fo) (nI e) (nI t) := by
  have hp := rr_p4 hP hR ht
  have e1 : nI e * 10 + 5 + nI t = nI (10 * e + (5 + t)) := rr_ix5 e t
  refine ⟨pk_in _ _ (by omega) e1, ?_⟩
  have e2 : nI t * 4 + pa (nI e * 10 + 5 + nI t).toNatClampNeg = nI (rr_op t r) := by
    rw [e1, nI_clamp (by omega), hr _ (by omega), rr_opN hP hR ht, (hR.1 t ht).1, show (4 : Int32) = nI 4 from rfl, pk_mul, nI_add, Nat.mul_comm]
  rw [e2]; exact h
theorem xs_take_path (hP : rr_Pg sz ks os S) (hR : rr_Rk S r p) (he : e < 8) (ht : t < 3) (hr : ∀ c, c < 10 → pa (10 * e + c) = r c) (hl : r (5 + t) < sz t) {post : SX → Prop}
    (H : ∀ a, (∀ c, c < 10 → a (10 * (e + 1) + c) = rr_st ks os t r c) → (∀ j, j < 10 * (e + 1) ∨ 10 * (e + 2) ≤ j → a j = pa j) → post (ec, fx, sz, ks, os, hi, et, ek, eo, mb, kb, oc, a, nt, fo)) : wpX_takeStep__path post (ec, fx, sz, ks, os, hi, et, ek, eo, mb, kb, oc, pa, nt, fo) (nI e) (nI t) := by
  refine nm_r (show nI e * 10 = nI (10 * e) by rw [show (10 : Int32) = nI 10 from rfl, pk_mul, Nat.mul_comm]) (nm_r (show nI (10 * e) + 10 = nI (10 * (e + 1)) from nI_add (10 * e) 10) ?_)
  refine loop_0 (fun n i a => wX_takeStep__path_16 post (nI e) (nI t) (nI (10 * e)) (nI (10 * (e + 1))) ec fx n (nI i) sz ks os hi et ek eo mb kb oc a nt fo) (fun i a => (∀ c, c < i → a (10 * (e + 1) + c) = pa (10 * e + c)) ∧ ∀ j, j < 10 * (e + 1) ∨ 10 * (e + 1) + i ≤ j → a j = pa j) 10 pa ⟨fun c hc => by omega, fun j _ => rfl⟩ ?_ ?_
  · intro n a ⟨h1, h2⟩
    have hr' : ∀ c, c < 10 → a (10 * e + c) = r c := fun c hc => by rw [h2 _ (by omega)]; exact hr c hc
    have hq : ∀ c, c < 10 → a (10 * (e + 1) + c) = r c := fun c hc => by rw [h1 c hc]; exact hr c hc
    have ho := rr_op12 hP hR ht hl
    have c2 : (nI (rr_op t r)).toNatClampNeg = rr_op t r := nI_clamp (by omega)
    have e5 : nI (10 * (e + 1)) + 5 + nI t = nI (10 * (e + 1) + (5 + t)) := rr_iy5 _ _
    have e2 : nI (10 * (e + 1)) + 2 + nI t = nI (10 * (e + 1) + (2 + t)) := rr_iy2 _ _
    have e2' : nI (10 * e) + 2 + nI t = nI (10 * e + (2 + t)) := rr_iy2 _ _
    have u5 : upd a (nI (10 * (e + 1)) + 5 + nI t).toNatClampNeg (a (nI (10 * (e + 1)) + 5 + nI t).toNatClampNeg + 1) = upd a (10 * (e + 1) + (5 + t)) (r (5 + t) + 1) := by
      rw [e5, nI_clamp (by omega), hq _ (by omega)]
    have g5 : ∀ c, c < 10 → upd a (10 * (e + 1) + (5 + t)) (r (5 + t) + 1) (10 * (e + 1) + c) = upd r (5 + t) (r (5 + t) + 1) c := rr_gl hq
    have g5' : ∀ c, c < 10 → upd a (10 * (e + 1) + (5 + t)) (r (5 + t) + 1) (10 * e + c) = r c := fun c hc => by rw [pk_un (by omega)]; exact hr' c hc
    have fr : ∀ i, i < 10 → ∀ v j, j < 10 * (e + 1) ∨ 10 * (e + 2) ≤ j → upd (upd a (10 * (e + 1) + (5 + t)) (r (5 + t) + 1)) (10 * (e + 1) + i) v j = pa j := by
      intro i hi v j hj
      rw [pk_un (by omega), pk_un (by omega)]; exact h2 j (by omega)
    have fin : ∀ i, i < 10 → ∀ v, rr_st ks os t r = upd (upd r (5 + t) (r (5 + t) + 1)) i v → post (ec, fx, sz, ks, os, hi, et, ek, eo, mb, kb, oc, (upd (upd a (10 * (e + 1) + (5 + t)) (r (5 + t) + 1)) (10 * (e + 1) + i) v), nt, fo) := by
      intro i hi v hst
      exact H _ (fun c hc => by rw [hst]; exact rr_gl g5 c hc) (fr i hi v)
    refine br_t (show (10 : Int32) ≤ nI 10 by decide) (xs_nop_path hP hR (by omega) ht hr' ?_)
    refine ⟨pk_in _ _ ho rfl, nm_r (congrArg os c2) ⟨pk_in _ _ (by omega) e5, pk_in _ _ (by omega) e5, nm_r u5 ⟨pk_in _ _ ho rfl, nm_r (congrArg ks c2) ?_⟩⟩⟩
    rcases rr_views hP hR ht hl with ⟨hk, hx, ex⟩ | ⟨hk, hx, ex⟩ | hk | ⟨hk, hx, ex⟩ | ⟨hk, hx, ex⟩
    · rw [hk, ex]
      have i1 : nI (10 * e) + nI (rr_ox os t r) = nI (10 * e + rr_ox os t r) := nI_add _ _
      refine br_f (by decide) (br_f (by decide) (br_t rfl ⟨pk_in _ _ (by omega) i1, pk_in _ _ (by omega) e2, nm_r ?_ (fin (2 + t) (by omega) (r (rr_ox os t r)) (rr_st0 hk))⟩))
      rw [e2, i1, nI_clamp (by omega), nI_clamp (by omega), g5' _ (by omega)]
    · rw [hk, ex]
      have i1 : nI (10 * (e + 1)) + nI (rr_ox os t r) = nI (10 * (e + 1) + rr_ox os t r) := nI_add _ _
      refine br_f (by decide) (br_f (by decide) (br_f (by decide) (br_t rfl ⟨pk_in _ _ (by omega) e2', pk_in _ _ (by omega) i1, nm_r ?_ (fin (rr_ox os t r) (by omega) (r (2 + t)) (rr_st1 hk))⟩)))
      rw [e2', i1, nI_clamp (by omega), nI_clamp (by omega), g5' _ (by omega)]
    · rw [hk]
      refine br_f (by decide) (br_f (by decide) (br_f (by decide) (br_f (by decide) (br_t rfl ⟨pk_in _ _ (by omega) e2, pk_in _ _ (by omega) e2, nm_r ?_ (fin (2 + t) (by omega) (r (2 + t) + os (rr_op t r)) (rr_st2 hk))⟩))))
      rw [e2, nI_clamp (by omega), g5 _ (by omega), pk_un (by omega)]
    · rw [hk, ex]
      have i1 : nI (10 * (e + 1)) + 8 + nI (rr_ox os t r) = nI (10 * (e + 1) + (8 + rr_ox os t r)) := rr_iy8 _ _
      refine br_f (by decide) (br_f (by decide) (br_f (by decide) (br_f (by decide) (br_f (by decide) (br_t rfl ⟨pk_in _ _ (by omega) i1, nm_r ?_ (fin (8 + rr_ox os t r) (by omega) (nI t) (rr_st3 hk))⟩)))))
      rw [i1, nI_clamp (by omega)]
    · rw [hk, ex]
      have i1 : nI (10 * (e + 1)) + 8 + nI (rr_ox os t r) = nI (10 * (e + 1) + (8 + rr_ox os t r)) := rr_iy8 _ _
      refine br_f (by decide) (br_t (by decide) ⟨pk_in _ _ (by omega) i1, nm_r ?_ (fin (8 + rr_ox os t r) (by omega) (-1000000004) (rr_st4 hk))⟩)
      rw [i1, nI_clamp (by omega)]
  · intro n i a hil ⟨h1, h2⟩ ih
    have i1 : nI (10 * e) + nI i = nI (10 * e + i) := nI_add _ _
    have i2 : nI (10 * (e + 1)) + nI i = nI (10 * (e + 1) + i) := nI_add _ _
    refine br_f (nI_ge (b := 10) hil (by decide)) ⟨pk_in _ _ (by omega) i1, pk_in _ _ (by omega) i2, nm_r (show _ = upd a (10 * (e + 1) + i) (pa (10 * e + i)) by rw [i1, i2, nI_clamp (by omega), nI_clamp (by omega), h2 _ (by omega)]) (nm_r (nI_1 i) (ih _ ⟨fun c hc => ?_, fun j hj => ?_⟩))⟩
    · rcases Nat.decEq c i with z | z
      · rw [pk_un (by omega)]; exact h1 c (by omega)
      · rw [z, pk_us]
    · rw [pk_un (by omega)]; exact h2 j (by omega)
end
