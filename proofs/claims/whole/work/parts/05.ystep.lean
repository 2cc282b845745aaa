def rr_hm (x : Int32) : Int32 := if x = -1000000004 then -1 else x
theorem rr_hm0 : rr_hm (-1000000004) = -1 := if_pos rfl
theorem rr_none_ne : ∀ t, t < 3 → ¬ nI t = -1000000004 := by decide +kernel
theorem rr_m1_ne : ∀ t, t < 3 → ¬ nI t = -1 := by decide +kernel
theorem rr_hmt {t : Nat} (h : t < 3) : rr_hm (nI t) = nI t := if_neg (rr_none_ne t h)
def rr_Hd (x : Int32) : Prop := x = -1000000004 ∨ ∃ t, t < 3 ∧ x = nI t
theorem rr_hm_n {x : Int32} (h : rr_Hd x) : rr_hm x = -1 ↔ x = -1000000004 := by
  rcases h with rfl | ⟨t, ht, rfl⟩
  · rw [rr_hm0]; simp
  · rw [rr_hmt ht]
    exact ⟨fun z => absurd z (rr_m1_ne t ht), fun z => absurd z (rr_none_ne t ht)⟩
theorem rr_hm_t {x : Int32} {t : Nat} (ht : t < 3) (h : rr_Hd x) : rr_hm x = nI t ↔ x = nI t := by
  rcases h with rfl | ⟨s, hs, rfl⟩
  · rw [rr_hm0]
    exact ⟨fun z => absurd z.symm (rr_m1_ne t ht), fun z => absurd z.symm (rr_none_ne t ht)⟩
  · rw [rr_hmt hs]
def rr_Yr (r va rg ho pl : Nat → Int32) : Prop := (∀ v, v < 2 → va v = r v) ∧ (∀ t, t < 3 → rg t = r (2 + t) ∧ pl t = r (5 + t)) ∧ ∀ m, m < 2 → ho m = rr_hm (r (8 + m))
def rr_Ol (ks os : Nat → Int32) (t : Nat) (r : Nat → Int32) (o : Int32) : Prop := (ks (rr_op t r) = 0 ∨ ks (rr_op t r) = 2 → o = r (2 + t)) ∧ (ks (rr_op t r) = 1 → o = r (rr_ox os t r))
theorem rr_and1 : ∀ x, x < 2 → (nI x &&& 1) = nI x := by decide +kernel
section
variable {cn fy dy : Int32} {ks os sz bg va rg ho pl dn ol rl sm kp tr fd : Nat → Int32}
variable {S p : Nat → Nat} {r : Nat → Int32} {e t : Nat}
theorem ys_in_f {x : Int32} {b : Nat} (hb : b + 1 < 2 ^ 31) (hx : x < 0 ∨ nI (b + 1) ≤ x) {post : Int32 → Prop} {u : SY} (h : post 0) : wpY_isIn post u x (nI b) := by
  unfold wpY_isIn
  by_cases z : x < 0
  · exact br_t z h
  · refine br_f z ?_
    rcases hx with y | y
    · exact absurd y z
    · obtain ⟨j, hj, rfl⟩ := nI_of z
      rw [nI_leI hb hj] at y
      exact br_t (nI_lt (by omega) hj) h
theorem ys_in_t {j b : Nat} (hb : b < 2 ^ 31) (hj : j ≤ b) {post : Int32 → Prop} {u : SY} (h : post 1) : wpY_isIn post u (nI j) (nI b) := by
  unfold wpY_isIn
  exact br_f (nI_pos (by omega)) (br_f (nI_nlt hj hb) h)
theorem ys_en (hP : rr_Pg sz ks os S) (hR : rr_Rk S r p) (ht : t < 3) (hY : rr_Yr r va rg ho pl) {post : Int32 → Prop} (h : post (rr_b (rr_en sz ks os t r))) : wpY_isEnabled post (cn, fy, dy, ks, os, sz, bg, va, rg, ho, pl, dn, ol, rl, sm, kp, tr, fd) (nI t) := by
  have hS := rr_S4 hP ht
  have hp := rr_p4 hP hR ht
  have ct : (nI t).toNatClampNeg = t := nI_clamp (by omega)
  have c1 : pl (nI t).toNatClampNeg = r (5 + t) := by rw [ct]; exact (hY.2.1 t ht).2
  have vt : vp_in (nI t) 3 := pk_in t 3 ht rfl
  refine ⟨vt, vt, ?_⟩
  rw [c1, ct]
  have hiff : r (5 + t) = sz t ↔ ¬ r (5 + t) < sz t := by
    rw [rr_lt hP hR ht, (hP.1 t ht).1, (hR.1 t ht).1, nI_eq (by omega) (by omega)]
    have := (hR.1 t ht).2
    omega
  by_cases hl : r (5 + t) < sz t
  · have e2 : 4 * nI t + r (5 + t) = nI (rr_op t r) := by
      rw [rr_opN hP hR ht, (hR.1 t ht).1, show (4 : Int32) = nI 4 from rfl, pk_mul, nI_add]
    have ho' := rr_op12 hP hR ht hl
    have c2 : (nI (rr_op t r)).toNatClampNeg = rr_op t r := nI_clamp (by omega)
    refine br_f (fun z => (hiff.mp z) hl) ?_
    rw [e2]
    have vo : vp_in (nI (rr_op t r)) 12 := pk_in _ _ ho' rfl
    refine ⟨vt, vo, nm_r (congrArg ks c2) ⟨vt, vo, nm_r (congrArg os c2) ?_⟩⟩
    rcases rr_views hP hR ht hl with ⟨hk, hx, ex⟩ | ⟨hk, hx, ex⟩ | hk | ⟨hk, hx, ex⟩ | ⟨hk, hx, ex⟩
    · rw [rr_en_o hl (by rw [hk]; decide) (by rw [hk]; decide)] at h
      exact br_t (by rw [hk]; decide) h
    · rw [rr_en_o hl (by rw [hk]; decide) (by rw [hk]; decide)] at h
      exact br_t (by rw [hk]; decide) h
    · rw [rr_en_o hl (by rw [hk]; decide) (by rw [hk]; decide)] at h
      exact br_t (by rw [hk]; decide) h
    · have c3 : ho (nI (rr_ox os t r)).toNatClampNeg = rr_hm (r (8 + rr_ox os t r)) := by rw [nI_clamp (by omega)]; exact hY.2.2 _ hx
      rw [ex, rr_and1 _ hx, c3]
      refine br_f (by rw [hk]; decide) ⟨pk_in _ 2 hx rfl, br_t hk ?_⟩
      rw [rr_en_l hl hk] at h
      have q := rr_hm_n (hR.2 _ hx)
      by_cases z : r (8 + rr_ox os t r) = -1000000004
      · rw [decide_eq_true z] at h; exact br_t (q.mpr z) h
      · rw [decide_eq_false z] at h; exact br_f (fun y => z (q.mp y)) h
    · have c3 : ho (nI (rr_ox os t r)).toNatClampNeg = rr_hm (r (8 + rr_ox os t r)) := by rw [nI_clamp (by omega)]; exact hY.2.2 _ hx
      rw [ex, rr_and1 _ hx, c3]
      refine br_f (by rw [hk]; decide) ⟨pk_in _ 2 hx rfl, br_f (by rw [hk]; decide) ?_⟩
      rw [rr_en_u hl hk] at h
      have q := rr_hm_t ht (hR.2 _ hx)
      by_cases z : r (8 + rr_ox os t r) = nI t
      · rw [decide_eq_true z] at h; exact br_t (q.mpr z) h
      · rw [decide_eq_false z] at h; exact br_f (fun y => z (q.mp y)) h
  · rw [rr_en_no hl] at h
    exact br_t (hiff.mpr hl) h
theorem rr_pl_up (hY : rr_Yr r va rg ho pl) (ht : t < 3) {i : Nat} {v : Int32} (hi : i < 5 ∨ 8 ≤ i) {s : Nat} (hs : s < 3) : upd pl t (pl t + 1) s = upd (upd r (5 + t) (r (5 + t) + 1)) i v (5 + s) := by
  rw [pk_un (show 5 + s ≠ i by omega)]
  rcases Nat.decEq s t with z | z
  · rw [pk_un z, pk_un (by omega)]; exact (hY.2.1 s hs).2
  · rw [z, pk_us, pk_us, (hY.2.1 t ht).2]
theorem ys_go146 (ht : t < 3) {post : SY → Prop} (H : post (nI (e + 1), fy, dy, ks, os, sz, bg, va, rg, ho, upd pl t (pl t + 1), dn, ol, rl, sm, kp, tr, fd)) : wY_go_146 post (nI t) (nI e) fy dy ks os sz bg va rg ho pl dn ol rl sm kp tr fd := by
  have ct : (nI t).toNatClampNeg = t := nI_clamp (by omega)
  have vt : vp_in (nI t) 3 := pk_in t 3 ht rfl
  exact ⟨vt, vt, nm_r (by rw [ct]) (nm_r (nI_1 e) H)⟩
theorem ys_go (hP : rr_Pg sz ks os S) (hR : rr_Rk S r p) (ht : t < 3) (hen : rr_en sz ks os t r = true) (he : e < 8) (hY : rr_Yr r va rg ho pl) {post : SY → Prop}
    (H : ∀ va' rg' ho' pl' dn' ol', rr_Yr (rr_st ks os t r) va' rg' ho' pl' → dn' e = nI (rr_op t r) → rr_Ol ks os t r (ol' e) → (∀ j, j ≠ e → dn' j = dn j ∧ ol' j = ol j) → post (nI (e + 1), fy, dy, ks, os, sz, bg, va', rg', ho', pl', dn', ol', rl, sm, kp, tr, fd)) : wpY_go post (nI e, fy, dy, ks, os, sz, bg, va, rg, ho, pl, dn, ol, rl, sm, kp, tr, fd) (nI t) := by
  have hl := rr_en_lt hen
  have hp := rr_p4 hP hR ht
  have ct : (nI t).toNatClampNeg = t := nI_clamp (by omega)
  have ce : (nI e).toNatClampNeg = e := nI_clamp (by omega)
  have vt : vp_in (nI t) 3 := pk_in t 3 ht rfl
  have ve : vp_in (nI e) 8 := pk_in e 8 he rfl
  have e2 : 4 * nI t + pl (nI t).toNatClampNeg = nI (rr_op t r) := by
    rw [ct, (hY.2.1 t ht).2, rr_opN hP hR ht, (hR.1 t ht).1, show (4 : Int32) = nI 4 from rfl, pk_mul, nI_add]
  have ho' := rr_op12 hP hR ht hl
  have c2 : (nI (rr_op t r)).toNatClampNeg = rr_op t r := nI_clamp (by omega)
  have vo : vp_in (nI (rr_op t r)) 12 := pk_in _ _ ho' rfl
  have fr : ∀ (a : Nat → Int32) v j, j ≠ e → upd a e v j = a j := fun a v j h => pk_un h
  refine ⟨vt, nm_r e2 ⟨vo, nm_r (congrArg ks c2) ⟨vo, nm_r (congrArg os c2) ⟨ve, nm_r (show _ = upd dn e (nI (rr_op t r)) by rw [ce]) ?_⟩⟩⟩⟩
  rcases rr_views hP hR ht hl with ⟨hk, hx, ex⟩ | ⟨hk, hx, ex⟩ | hk | ⟨hk, hx, ex⟩ | ⟨hk, hx, ex⟩
  · refine br_t hk ⟨vt, ve, nm_r (show _ = upd ol e (r (2 + t)) by rw [ce, ct, (hY.2.1 t ht).1]) (br_t hk ⟨by rw [ex]; exact pk_in _ _ hx rfl, vt, nm_r (show _ = upd rg t (r (rr_ox os t r)) by rw [ct, ex, nI_clamp (by omega), hY.1 _ hx]) (ys_go146 ht (H _ _ _ _ _ _ ?_ pk_us ?_ ?_))⟩)⟩
    · rw [rr_st0 hk]
      refine ⟨fun v hv => ?_, fun s hs => ⟨?_, rr_pl_up hY ht (by omega) hs⟩, fun m hm => ?_⟩
      · rw [pk_un (by omega), pk_un (by omega)]; exact hY.1 v hv
      · rcases Nat.decEq s t with z | z
        · rw [pk_un z, pk_un (by omega), pk_un (by omega)]; exact (hY.2.1 s hs).1
        · rw [z, pk_us, pk_us]
      · rw [pk_un (by omega), pk_un (by omega)]; exact hY.2.2 m hm
    · exact ⟨fun _ => pk_us, fun z => by rw [hk] at z; exact absurd z (by decide)⟩
    · exact fun j hj => ⟨fr _ _ _ hj, fr _ _ _ hj⟩
  · refine br_f (by rw [hk]; decide) (br_f (by rw [hk]; decide) (br_t hk ⟨by rw [ex]; exact pk_in _ _ hx rfl, ve, nm_r (show _ = upd ol e (r (rr_ox os t r)) by rw [ce, ex, nI_clamp (by omega), hY.1 _ hx]) ⟨vt, by rw [ex]; exact pk_in _ _ hx rfl, nm_r (show _ = upd va (rr_ox os t r) (r (2 + t)) by rw [ct, ex, nI_clamp (by omega), (hY.2.1 t ht).1]) (ys_go146 ht (H _ _ _ _ _ _ ?_ pk_us ?_ ?_))⟩⟩))
    · rw [rr_st1 hk]
      refine ⟨fun v hv => ?_, fun s hs => ⟨?_, rr_pl_up hY ht (by omega) hs⟩, fun m hm => ?_⟩
      · rcases Nat.decEq v (rr_ox os t r) with z | z
        · rw [pk_un z, pk_un z, pk_un (by omega)]; exact hY.1 v hv
        · rw [z, pk_us, pk_us]
      · rw [pk_un (by omega), pk_un (by omega)]; exact (hY.2.1 s hs).1
      · rw [pk_un (by omega), pk_un (by omega)]; exact hY.2.2 m hm
    · exact ⟨fun z => by rw [hk] at z; rcases z with y | y <;> exact absurd y (by decide), fun _ => pk_us⟩
    · exact fun j hj => ⟨fr _ _ _ hj, fr _ _ _ hj⟩
  · refine br_f (by rw [hk]; decide) (br_t hk ⟨vt, ve, nm_r (show _ = upd ol e (r (2 + t)) by rw [ce, ct, (hY.2.1 t ht).1]) (br_f (by rw [hk]; decide) ⟨vt, vt, nm_r (show _ = upd rg t (r (2 + t) + os (rr_op t r)) by rw [ct, (hY.2.1 t ht).1]) (ys_go146 ht (H _ _ _ _ _ _ ?_ pk_us ?_ ?_))⟩)⟩)
    · rw [rr_st2 hk]
      refine ⟨fun v hv => ?_, fun s hs => ⟨?_, rr_pl_up hY ht (by omega) hs⟩, fun m hm => ?_⟩
      · rw [pk_un (by omega), pk_un (by omega)]; exact hY.1 v hv
      · rcases Nat.decEq s t with z | z
        · rw [pk_un z, pk_un (by omega), pk_un (by omega)]; exact (hY.2.1 s hs).1
        · rw [z, pk_us, pk_us]
      · rw [pk_un (by omega), pk_un (by omega)]; exact hY.2.2 m hm
    · exact ⟨fun _ => pk_us, fun z => by rw [hk] at z; exact absurd z (by decide)⟩
    · exact fun j hj => ⟨fr _ _ _ hj, fr _ _ _ hj⟩
  · refine br_f (by rw [hk]; decide) (br_f (by rw [hk]; decide) (br_f (by rw [hk]; decide) (br_t hk ⟨by rw [ex]; exact pk_in _ _ hx rfl, nm_r (show _ = upd ho (rr_ox os t r) (nI t) by rw [ex, nI_clamp (by omega)]) (ys_go146 ht (H _ _ _ _ _ _ ?_ pk_us ?_ ?_))⟩)))
    · rw [rr_st3 hk]
      refine ⟨fun v hv => ?_, fun s hs => ⟨?_, rr_pl_up hY ht (by omega) hs⟩, fun m hm => ?_⟩
      · rw [pk_un (by omega), pk_un (by omega)]; exact hY.1 v hv
      · rw [pk_un (by omega), pk_un (by omega)]; exact (hY.2.1 s hs).1
      · rcases Nat.decEq m (rr_ox os t r) with z | z
        · rw [pk_un z, pk_un (by omega), pk_un (by omega)]; exact hY.2.2 m hm
        · rw [z, pk_us, pk_us, rr_hmt ht]
    · exact ⟨fun z => by rw [hk] at z; rcases z with y | y <;> exact absurd y (by decide), fun z => by rw [hk] at z; exact absurd z (by decide)⟩
    · exact fun j hj => ⟨fr _ _ _ hj, rfl⟩
  · refine br_f (by rw [hk]; decide) (br_f (by rw [hk]; decide) (br_f (by rw [hk]; decide) (br_f (by rw [hk]; decide) ⟨by rw [ex]; exact pk_in _ _ hx rfl, nm_r (show _ = upd ho (rr_ox os t r) (-1) by rw [ex, nI_clamp (by omega)]) (ys_go146 ht (H _ _ _ _ _ _ ?_ pk_us ?_ ?_))⟩)))
    · rw [rr_st4 hk]
      refine ⟨fun v hv => ?_, fun s hs => ⟨?_, rr_pl_up hY ht (by omega) hs⟩, fun m hm => ?_⟩
      · rw [pk_un (by omega), pk_un (by omega)]; exact hY.1 v hv
      · rw [pk_un (by omega), pk_un (by omega)]; exact (hY.2.1 s hs).1
      · rcases Nat.decEq m (rr_ox os t r) with z | z
        · rw [pk_un z, pk_un (by omega), pk_un (by omega)]; exact hY.2.2 m hm
        · rw [z, pk_us, pk_us, rr_hm0]
    · exact ⟨fun z => by rw [hk] at z; rcases z with y | y <;> exact absurd y (by decide), fun z => by rw [hk] at z; exact absurd z (by decide)⟩
    · exact fun j hj => ⟨fr _ _ _ hj, rfl⟩
theorem rr_pl_dn {i : Nat} {v : Int32} (hpl : ∀ s, s < 3 → pl s = upd (upd r (5 + t) (r (5 + t) + 1)) i v (5 + s)) (ht : t < 3) (hi : i < 5 ∨ 8 ≤ i) {s : Nat} (hs : s < 3) : upd pl t (pl t - 1) s = r (5 + s) := by
  rcases Nat.decEq s t with z | z
  · rw [pk_un z, hpl s hs, pk_un (by omega), pk_un (by omega)]
  · rw [z, pk_us, hpl t ht, pk_un (by omega), pk_us, Int32.add_sub_cancel]
theorem ys_un107 (ht : t < 3) {post : Int32 → SY → Prop} (H : post (nI t) (cn, fy, dy, ks, os, sz, bg, va, rg, ho, upd pl t (pl t - 1), dn, ol, rl, sm, kp, tr, fd)) : wY_undo_107 post (nI t) cn fy dy ks os sz bg va rg ho pl dn ol rl sm kp tr fd := by
  have ct : (nI t).toNatClampNeg = t := nI_clamp (by omega)
  have vt : vp_in (nI t) 3 := pk_in t 3 ht rfl
  exact ⟨vt, vt, nm_r (by rw [ct]) H⟩
theorem ys_undo (hP : rr_Pg sz ks os S) (hR : rr_Rk S r p) (ht : t < 3) (hen : rr_en sz ks os t r = true) (he : e < 8) (hY : rr_Yr (rr_st ks os t r) va rg ho pl) (hd : dn e = nI (rr_op t r)) (hol : rr_Ol ks os t r (ol e)) {post : Int32 → SY → Prop}
    (H : ∀ va' rg' ho' pl', rr_Yr r va' rg' ho' pl' → post (nI t) (nI e, fy, dy, ks, os, sz, bg, va', rg', ho', pl', dn, ol, rl, sm, kp, tr, fd)) : wpY_undo post (nI (e + 1), fy, dy, ks, os, sz, bg, va, rg, ho, pl, dn, ol, rl, sm, kp, tr, fd) := by
  have hl := rr_en_lt hen
  have hp := (rr_lt hP hR ht).mp hl
  have hS := rr_S4 hP ht
  have ct : (nI t).toNatClampNeg = t := nI_clamp (by omega)
  have ce : (nI e).toNatClampNeg = e := nI_clamp (by omega)
  have vt : vp_in (nI t) 3 := pk_in t 3 ht rfl
  have ve : vp_in (nI e) 8 := pk_in e 8 he rfl
  have ho' := rr_op12 hP hR ht hl
  have c2 : (nI (rr_op t r)).toNatClampNeg = rr_op t r := nI_clamp (by omega)
  have vo : vp_in (nI (rr_op t r)) 12 := pk_in _ _ ho' rfl
  have e4 : nI (rr_op t r) / 4 = nI t := by
    rw [show (4 : Int32) = nI 4 from rfl, pk_div (by omega) (by omega) (by omega), rr_opN hP hR ht]
    exact congrArg nI (by omega)
  refine nm_r (nI_pred e) ⟨ve, nm_r (show _ = nI (rr_op t r) by rw [ce]; exact hd) ⟨by decide, nm_r e4 ⟨vo, nm_r (congrArg ks c2) ⟨vo, nm_r (congrArg os c2) ?_⟩⟩⟩⟩
  rcases rr_views hP hR ht hl with ⟨hk, hx, ex⟩ | ⟨hk, hx, ex⟩ | hk | ⟨hk, hx, ex⟩ | ⟨hk, hx, ex⟩
  · rw [rr_st0 hk] at hY
    refine br_t hk ⟨ve, vt, nm_r (show _ = upd rg t (r (2 + t)) by rw [ct, ce, hol.1 (Or.inl hk)]) (ys_un107 ht (H _ _ _ _ ⟨fun v hv => ?_, fun s hs => ⟨?_, rr_pl_dn (fun s hs => (hY.2.1 s hs).2) ht (by omega) hs⟩, fun m hm => ?_⟩))⟩
    · rw [hY.1 v hv, pk_un (by omega), pk_un (by omega)]
    · rcases Nat.decEq s t with z | z
      · rw [pk_un z, (hY.2.1 s hs).1, pk_un (by omega), pk_un (by omega)]
      · rw [z, pk_us]
    · rw [hY.2.2 m hm, pk_un (by omega), pk_un (by omega)]
  · rw [rr_st1 hk] at hY
    refine br_f (by rw [hk]; decide) (br_f (by rw [hk]; decide) (br_t hk ⟨ve, by rw [ex]; exact pk_in _ _ hx rfl, nm_r (show _ = upd va (rr_ox os t r) (r (rr_ox os t r)) by rw [ce, ex, nI_clamp (by omega), hol.2 hk]) (ys_un107 ht (H _ _ _ _ ⟨fun v hv => ?_, fun s hs => ⟨?_, rr_pl_dn (fun s hs => (hY.2.1 s hs).2) ht (by omega) hs⟩, fun m hm => ?_⟩))⟩))
    · rcases Nat.decEq v (rr_ox os t r) with z | z
      · rw [pk_un z, hY.1 v hv, pk_un z, pk_un (by omega)]
      · rw [z, pk_us]
    · rw [(hY.2.1 s hs).1, pk_un (by omega), pk_un (by omega)]
    · rw [hY.2.2 m hm, pk_un (by omega), pk_un (by omega)]
  · rw [rr_st2 hk] at hY
    refine br_f (by rw [hk]; decide) (br_t hk ⟨ve, vt, nm_r (show _ = upd rg t (r (2 + t)) by rw [ct, ce, hol.1 (Or.inr hk)]) (ys_un107 ht (H _ _ _ _ ⟨fun v hv => ?_, fun s hs => ⟨?_, rr_pl_dn (fun s hs => (hY.2.1 s hs).2) ht (by omega) hs⟩, fun m hm => ?_⟩))⟩)
    · rw [hY.1 v hv, pk_un (by omega), pk_un (by omega)]
    · rcases Nat.decEq s t with z | z
      · rw [pk_un z, (hY.2.1 s hs).1, pk_un (by omega), pk_un (by omega)]
      · rw [z, pk_us]
    · rw [hY.2.2 m hm, pk_un (by omega), pk_un (by omega)]
  · rw [rr_st3 hk] at hY
    refine br_f (by rw [hk]; decide) (br_f (by rw [hk]; decide) (br_f (by rw [hk]; decide) (br_t hk ⟨by rw [ex]; exact pk_in _ _ hx rfl, nm_r (show _ = upd ho (rr_ox os t r) (-1) by rw [ex, nI_clamp (by omega)]) (ys_un107 ht (H _ _ _ _ ⟨fun v hv => ?_, fun s hs => ⟨?_, rr_pl_dn (fun s hs => (hY.2.1 s hs).2) ht (by omega) hs⟩, fun m hm => ?_⟩))⟩)))
    · rw [hY.1 v hv, pk_un (by omega), pk_un (by omega)]
    · rw [(hY.2.1 s hs).1, pk_un (by omega), pk_un (by omega)]
    · rcases Nat.decEq m (rr_ox os t r) with z | z
      · rw [pk_un z, hY.2.2 m hm, pk_un (by omega), pk_un (by omega)]
      · rw [z, pk_us, rr_en_3 hen hk, rr_hm0]
  · rw [rr_st4 hk] at hY
    refine br_f (by rw [hk]; decide) (br_f (by rw [hk]; decide) (br_f (by rw [hk]; decide) (br_f (by rw [hk]; decide) ⟨by rw [ex]; exact pk_in _ _ hx rfl, nm_r (show _ = upd ho (rr_ox os t r) (nI t) by rw [ex, nI_clamp (by omega)]) (ys_un107 ht (H _ _ _ _ ⟨fun v hv => ?_, fun s hs => ⟨?_, rr_pl_dn (fun s hs => (hY.2.1 s hs).2) ht (by omega) hs⟩, fun m hm => ?_⟩))⟩)))
    · rw [hY.1 v hv, pk_un (by omega), pk_un (by omega)]
    · rw [(hY.2.1 s hs).1, pk_un (by omega), pk_un (by omega)]
    · rcases Nat.decEq m (rr_ox os t r) with z | z
      · rw [pk_un z, hY.2.2 m hm, pk_un (by omega), pk_un (by omega)]
      · rw [z, pk_us, rr_en_4 hen hk, rr_hmt ht]
theorem ys_next (hP : rr_Pg sz ks os S) (hR : rr_Rk S r p) (hY : rr_Yr r va rg ho pl) {x : Int32} (hx : x + 1 = nI t) (ht : t ≤ 3) {post : Int32 → Prop}
    (H : ∀ t', t ≤ t' → t' ≤ 3 → (∀ s, t ≤ s → s < t' → rr_en sz ks os s r = false) → (t' < 3 → rr_en sz ks os t' r = true) → post (nI t')) : wpY_nextEnabled post (cn, fy, dy, ks, os, sz, bg, va, rg, ho, pl, dn, ol, rl, sm, kp, tr, fd) x := by
  refine nm_r hx ⟨4, ?_⟩
  have key : ∀ j t, t + j = 3 → (∀ t', t ≤ t' → t' ≤ 3 → (∀ s, t ≤ s → s < t' → rr_en sz ks os s r = false) → (t' < 3 → rr_en sz ks os t' r = true) → post (nI t')) → ∀ n, j < n → wY_nextEnabled_4 post cn fy dy ks os sz bg va rg ho pl dn ol rl sm kp tr fd n (nI t) := by
    intro j
    induction j with
    | zero =>
      intro t hj H n hn
      obtain ⟨n, rfl⟩ : ∃ m, n = m + 1 := ⟨n - 1, by omega⟩
      obtain rfl : t = 3 := by omega
      exact br_t (show (3 : Int32) ≤ nI 3 by decide) (H 3 (by omega) (by omega) (fun s h1 h2 => by omega) (fun z => by omega))
    | succ j ih =>
      intro t hj H n hn
      obtain ⟨n, rfl⟩ : ∃ m, n = m + 1 := ⟨n - 1, by omega⟩
      refine br_f (rr_lt3 (by omega)) (ys_en hP hR (by omega) hY (rr_bd (fun z => ?_) (fun z => ?_)))
      · refine nm_r (nI_1 t) (ih (t + 1) (by omega) (fun t' h1 h2 h3 h4 => H t' (by omega) h2 (fun s h5 h6 => ?_) h4) n (by omega))
        rcases Nat.decEq s t with y | y
        · exact h3 s (by omega) h6
        · rw [y]; exact z
      · exact H t (by omega) (by omega) (fun s h1 h2 => by omega) (fun _ => z)
  exact key (3 - t) t (by omega) H 4 (by omega)
end
