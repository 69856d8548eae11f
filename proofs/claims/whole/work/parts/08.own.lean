/-! ===== hops, extend, destroy, and the opening of a stream ===== -/
section
variable {k : Nat} {N J G : Nat → Nat} {L : List oc_C} {hc rh so sh uw gc gb ql xS xB xT rl jn gd lb cS cF cL cB cT : Nat → Int32} {n : Int32}
theorem oc_x_hopsB {post : Int32 → Prop} {x : Int32} (h : x < 0 ∨ 2 ≤ x) (p : post (-1)) : wpX_hops post (hc, rh, so, sh, uw, gc, gb, ql, xS, xB, xT) x := by
  unfold wpX_hops
  exact oc_x_cirB h (br_t rfl p)
theorem oc_x_hops {post : Int32 → Prop} {c : Nat} (h : c < 2) (p : post (hc c)) : wpX_hops post (hc, rh, so, sh, uw, gc, gb, ql, xS, xB, xT) (nI c) := by
  unfold wpX_hops
  exact oc_x_cir h (br_f (by decide) ⟨vp_in_nI h (by omega), by rw [nI_clamp (by omega)]; exact p⟩)
theorem oc_y_hopsB {post : Int32 → Prop} {x : Int32} (h : x < 0 ∨ 2 ≤ x) (p : post (-1)) : wpY_hops post (n, hc, rl, jn, gd, lb, cS, cF, cL, cB, cT) x := by
  unfold wpY_hops
  exact oc_y_refB h (br_t rfl p)
theorem oc_y_hops {post : Int32 → Prop} {c : Nat} (h : c < 2) (p : post (hc c)) : wpY_hops post (n, hc, rl, jn, gd, lb, cS, cF, cL, cB, cT) (nI c) := by
  unfold wpY_hops
  have e : ∀ r : Int32, ¬ r = -1 → (r = -1 → post (-1)) ∧ (¬ r = -1 → vp_in (nI c) 2 ∧ post (hc (nI c).toNatClampNeg)) := fun r hr => br_f hr ⟨vp_in_nI h (by omega), by rw [nI_clamp (by omega)]; exact p⟩
  by_cases h0 : hc c = 0
  · exact oc_y_ref0 h h0 (e (-5) (by decide))
  · exact oc_y_ref h h0 (e 0 (by decide))
theorem oc_x_extB {post : Int32 → SX → Prop} {x y : Int32} (h : x < 0 ∨ 2 ≤ x) (p : post (-1) (hc, rh, so, sh, uw, gc, gb, ql, xS, xB, xT)) : wpX_extend post (hc, rh, so, sh, uw, gc, gb, ql, xS, xB, xT) x y := by
  unfold wpX_extend
  exact oc_x_cirB h (br_t rfl p)
theorem oc_x_extR {post : Int32 → SX → Prop} {c : Nat} {y : Int32} (hc2 : c < 2) (h : y < 0 ∨ 5 ≤ y) (p : post (-2) (hc, rh, so, sh, uw, gc, gb, ql, xS, xB, xT)) : wpX_extend post (hc, rh, so, sh, uw, gc, gb, ql, xS, xB, xT) (nI c) y := by
  unfold wpX_extend
  refine oc_x_cir hc2 (br_f (by decide) (br_c (fun _ => p) (fun h1 => br_f ?_ p)))
  exact Int32.not_lt.mpr (h.resolve_left h1)
theorem oc_x_extH {post : Int32 → SX → Prop} {c r : Nat} (hc2 : c < 2) (hr : r < 5) (h : rh (c * 5 + r) = 1) (p : post (-2) (hc, rh, so, sh, uw, gc, gb, ql, xS, xB, xT)) : wpX_extend post (hc, rh, so, sh, uw, gc, gb, ql, xS, xB, xT) (nI c) (nI r) := by
  unfold wpX_extend
  refine oc_x_cir hc2 (br_f (by decide) (br_f (nI_pos (by omega)) (br_t (nI_lt (b := 5) hr (by decide)) (nm_r (e' := nI (c * 5 + r)) (oc_m5 c r) ⟨vp_in_nI (by omega) (by omega), br_f ?_ p⟩))))
  rw [nI_clamp (by omega), h]
  decide
theorem oc_x_extF {post : Int32 → SX → Prop} {c r : Nat} (hc2 : c < 2) (hr : r < 5) (h : rh (c * 5 + r) = 0) (h3 : hc c = nI 3) (p : post (-4) (hc, rh, so, sh, uw, gc, gb, ql, xS, xB, xT)) : wpX_extend post (hc, rh, so, sh, uw, gc, gb, ql, xS, xB, xT) (nI c) (nI r) := by
  unfold wpX_extend
  refine oc_x_cir hc2 (br_f (by decide) (br_f (nI_pos (by omega)) (br_t (nI_lt (b := 5) hr (by decide)) (nm_r (e' := nI (c * 5 + r)) (oc_m5 c r) ⟨vp_in_nI (by omega) (by omega), br_t ?_ ⟨vp_in_nI hc2 (by omega), br_f ?_ p⟩⟩))))
  · rw [nI_clamp (by omega), h]
  · rw [nI_clamp (by omega), h3]
    decide
theorem oc_x_ext {post : Int32 → SX → Prop} {c r m : Nat} (hc2 : c < 2) (hr : r < 5) (h : rh (c * 5 + r) = 0) (h3 : hc c = nI m) (hm : m < 3) (p : post (nI (m + 1)) (upd hc c (nI (m + 1)), upd rh (c * 5 + r) 1, so, sh, uw, gc, gb, ql, xS, xB, xT)) : wpX_extend post (hc, rh, so, sh, uw, gc, gb, ql, xS, xB, xT) (nI c) (nI r) := by
  unfold wpX_extend
  have e : (nI c).toNatClampNeg = c := nI_clamp (by omega)
  have e2 : (nI (c * 5 + r)).toNatClampNeg = c * 5 + r := nI_clamp (by omega)
  have hi : vp_in (nI c) 2 := vp_in_nI hc2 (by omega)
  have hi2 : vp_in (nI (c * 5 + r)) 10 := vp_in_nI (by omega) (by omega)
  refine oc_x_cir hc2 (br_f (by decide) (br_f (nI_pos (by omega)) (br_t (nI_lt (b := 5) hr (by decide)) (nm_r (e' := nI (c * 5 + r)) (oc_m5 c r) ⟨hi2, br_t ?_ ⟨hi, br_t ?_ ⟨hi2, nm_r (e' := upd rh (c * 5 + r) 1) ?_ ⟨hi, hi, nm_r (e' := upd hc c (nI (m + 1))) ?_ ⟨hi, ?_⟩⟩⟩⟩⟩))))
  · rw [e2, h]
  · rw [e, h3]
    exact nI_lt (b := 3) hm (by decide)
  · rw [e2, oc_b1]
  · rw [e, h3, nI_1]
  · rw [e, pk_us]
    exact p
theorem oc_y_extB {post : Int32 → SY → Prop} {x y : Int32} (h : x < 0 ∨ 2 ≤ x) (p : post (-1) (n, hc, rl, jn, gd, lb, cS, cF, cL, cB, cT)) : wpY_extend post (n, hc, rl, jn, gd, lb, cS, cF, cL, cB, cT) x y := by
  unfold wpY_extend
  exact oc_y_refB h (br_t rfl p)
theorem oc_y_any {post : Int32 → Prop} {c : Nat} (h : c < 2) (p : ∀ r : Int32, ¬ r = -1 → post r) : wpY_refusal post (n, hc, rl, jn, gd, lb, cS, cF, cL, cB, cT) (nI c) := by
  by_cases h0 : hc c = 0
  · exact oc_y_ref0 h h0 (p (-5) (by decide))
  · exact oc_y_ref h h0 (p 0 (by decide))
theorem oc_y_extR {post : Int32 → SY → Prop} {c : Nat} {y : Int32} (hc2 : c < 2) (h : y < 0 ∨ 5 ≤ y) (p : post (-2) (n, hc, rl, jn, gd, lb, cS, cF, cL, cB, cT)) : wpY_extend post (n, hc, rl, jn, gd, lb, cS, cF, cL, cB, cT) (nI c) y := by
  unfold wpY_extend
  refine oc_y_any hc2 (fun r hr => br_f hr (br_c (fun _ => p) (fun h1 => br_f ?_ p)))
  exact oc_ngt (a := 4) (by decide) (h.resolve_left h1)
theorem oc_y_extH {post : Int32 → SY → Prop} {c r m t : Nat} (hc2 : c < 2) (hr : r < 5) (h3 : hc c = nI m) (hm : m ≤ 3) (ht : t < m) (h : rl (c * 3 + t) = nI r) (p : post (-2) (n, hc, rl, jn, gd, lb, cS, cF, cL, cB, cT)) : wpY_extend post (n, hc, rl, jn, gd, lb, cS, cF, cL, cB, cT) (nI c) (nI r) := by
  unfold wpY_extend
  have e : (nI c).toNatClampNeg = c := nI_clamp (by omega)
  have hi : vp_in (nI c) 2 := vp_in_nI hc2 (by omega)
  have g : ∀ d i : Nat, i + d = t → wY_extend_25 post (nI c) (nI r) n hc rl jn gd lb cS cF cL cB cT (d + 1) (nI i) := by
    intro d
    induction d with
    | zero =>
      intro i hit
      have e1 : i = t := by omega
      subst e1
      refine ⟨hi, br_f ?_ ?_⟩
      · rw [e, h3]
        exact nI_ge ht (by omega)
      · rw [oc_m3]
        refine ⟨vp_in_nI (by omega) (by omega), br_t ?_ p⟩
        rw [nI_clamp (by omega)]
        exact h
    | succ d ih =>
      intro i hit
      refine ⟨hi, br_f ?_ ?_⟩
      · rw [e, h3]
        exact nI_ge (by omega) (by omega)
      · rw [oc_m3]
        exact ⟨vp_in_nI (by omega) (by omega), br_c (fun _ => p) (fun _ => nm_r (nI_1 i) (ih (i + 1) (by omega)))⟩
  exact oc_y_any hc2 (fun r hr1 => br_f hr1 (br_f (nI_pos (by omega)) (br_t (nI_le (b := 4) (by omega) (by decide)) ⟨t + 1, g t 0 (by omega)⟩)))
theorem oc_y_ext_l {post : Int32 → SY → Prop} {c r m : Nat} (hc2 : c < 2) (h3 : hc c = nI m) (hm : m ≤ 3) (h : ∀ t, t < m → rl (c * 3 + t) ≠ nI r)
    (p4 : m = 3 → post (-4) (n, hc, rl, jn, gd, lb, cS, cF, cL, cB, cT)) (p : m < 3 → post (nI (m + 1)) (n, upd hc c (nI (m + 1)), upd rl (c * 3 + m) (nI r), jn, gd, lb, cS, cF, cL, cB, cT)) : ∀ d i : Nat, i + d = m → wY_extend_25 post (nI c) (nI r) n hc rl jn gd lb cS cF cL cB cT (d + 1) (nI i) := by
  have e : (nI c).toNatClampNeg = c := nI_clamp (by omega)
  have hi : vp_in (nI c) 2 := vp_in_nI hc2 (by omega)
  intro d
  induction d with
  | zero =>
    intro i him
    have e1 : i = m := by omega
    subst e1
    refine ⟨hi, br_t ?_ ⟨hi, ?_⟩⟩
    · rw [e, h3]
      exact nI_le (Nat.le_refl _) (by omega)
    · by_cases h33 : i = 3
      · refine br_t ?_ (p4 h33)
        rw [e, h3, h33]
        rfl
      · refine br_f ?_ ⟨hi, ?_⟩
        · rw [e, h3]
          exact fun z => h33 ((nI_eq (b := 3) (by omega) (by decide)).mp z)
        · have e2 : nI c * 3 + hc (nI c).toNatClampNeg = nI (c * 3 + i) := by rw [e, h3, oc_m3]
          rw [e2]
          refine ⟨vp_in_nI (by omega) (by omega), nm_r (e' := upd rl (c * 3 + i) (nI r)) (by rw [nI_clamp (by omega)]) ⟨hi, hi, nm_r (e' := upd hc c (nI (i + 1))) (by rw [e, h3, nI_1]) ⟨hi, ?_⟩⟩⟩
          rw [e, pk_us]
          exact p (by omega)
  | succ d ih =>
    intro i him
    refine ⟨hi, br_f ?_ ?_⟩
    · rw [e, h3]
      exact nI_ge (by omega) (by omega)
    · rw [oc_m3]
      refine ⟨vp_in_nI (by omega) (by omega), br_f ?_ (nm_r (nI_1 i) (ih (i + 1) (by omega)))⟩
      rw [nI_clamp (by omega)]
      exact h i (by omega)
theorem oc_y_ext {post : Int32 → SY → Prop} {c r m : Nat} (hc2 : c < 2) (hr : r < 5) (h3 : hc c = nI m) (hm : m ≤ 3) (h : ∀ t, t < m → rl (c * 3 + t) ≠ nI r)
    (p4 : m = 3 → post (-4) (n, hc, rl, jn, gd, lb, cS, cF, cL, cB, cT)) (p : m < 3 → post (nI (m + 1)) (n, upd hc c (nI (m + 1)), upd rl (c * 3 + m) (nI r), jn, gd, lb, cS, cF, cL, cB, cT)) : wpY_extend post (n, hc, rl, jn, gd, lb, cS, cF, cL, cB, cT) (nI c) (nI r) := by
  unfold wpY_extend
  exact oc_y_any hc2 (fun r hr1 => br_f hr1 (br_f (nI_pos (by omega)) (br_t (nI_le (b := 4) (by omega) (by decide)) ⟨m + 1, oc_y_ext_l hc2 h3 hm h p4 p m 0 (by omega)⟩)))
theorem oc_x_desR {post : Int32 → SX → Prop} {x r : Int32} (h : ∀ P : Int32 → Prop, P r → wpX_circuitRefusal P (hc, rh, so, sh, uw, gc, gb, ql, xS, xB, xT) x) (hr : ¬ r = 0) (p : post r (hc, rh, so, sh, uw, gc, gb, ql, xS, xB, xT)) : wpX_destroy post (hc, rh, so, sh, uw, gc, gb, ql, xS, xB, xT) x := by
  unfold wpX_destroy
  exact h _ (br_f hr p)
theorem oc_y_desR {post : Int32 → SY → Prop} {x r : Int32} (h : ∀ P : Int32 → Prop, P r → wpY_refusal P (n, hc, rl, jn, gd, lb, cS, cF, cL, cB, cT) x) (hr : ¬ 0 ≤ r) (p : post r (n, hc, rl, jn, gd, lb, cS, cF, cL, cB, cT)) : wpY_destroy post (n, hc, rl, jn, gd, lb, cS, cF, cL, cB, cT) x := by
  unfold wpY_destroy
  exact h _ (br_f hr p)
theorem oc_x_des {post : Int32 → SX → Prop} {c : Nat} (hc2 : c < 2) (h0 : ¬ hc c = 0) (hok : ∀ x ∈ L, oc_ok x) (hU : oc_U L uw)
    (p : post (nI (L.length - (oc_D c L).length)) (upd hc c 0, oc_fl rh (c * 5) (c * 5 + 5) 0, oc_fl so (c * 3) (c * 3 + 3) 0, sh, oc_fl uw (c * 6) (c * 6 + 6) 0, oc_fl gc (c * 6) (c * 6 + 6) 0, gb, oc_fl ql (c * 6) (c * 6 + 6) 0, xS, xB, xT)) :
    wpX_destroy post (hc, rh, so, sh, uw, gc, gb, ql, xS, xB, xT) (nI c) := by
  unfold wpX_destroy
  refine oc_x_ref hc2 h0 (br_t rfl ?_)
  refine oc_x_cuw hc2 (hU (c * 6) (by omega)).1 (hU (c * 6 + 1) (by omega)).1 (hU (c * 6 + 2) (by omega)).1 (hU (c * 6 + 3) (by omega)).1 (hU (c * 6 + 4) (by omega)).1 (hU (c * 6 + 5) (by omega)).1 ?_
  have hl := oc_lost (c := c) L hok
  rw [show oc_n (c * 6) L + oc_n (c * 6 + 1) L + oc_n (c * 6 + 2) L + oc_n (c * 6 + 3) L + oc_n (c * 6 + 4) L + oc_n (c * 6 + 5) L = L.length - (oc_D c L).length by omega]
  exact oc_x_td hc2 p
theorem oc_x_opnR {post : Int32 → SX → Prop} {x y r : Int32} (h : ∀ P : Int32 → Prop, P r → wpX_circuitRefusal P (hc, rh, so, sh, uw, gc, gb, ql, xS, xB, xT) x) (hr : ¬ r = 0) (p : post r (hc, rh, so, sh, uw, gc, gb, ql, xS, xB, xT)) : wpX_open post (hc, rh, so, sh, uw, gc, gb, ql, xS, xB, xT) x y := by
  unfold wpX_open
  exact h _ (br_f hr p)
theorem oc_y_opnR {post : Int32 → SY → Prop} {x y r : Int32} (h : ∀ P : Int32 → Prop, P r → wpY_refusal P (n, hc, rl, jn, gd, lb, cS, cF, cL, cB, cT) x) (hr : ¬ 0 ≤ r) (p : post r (n, hc, rl, jn, gd, lb, cS, cF, cL, cB, cT)) : wpY_open post (n, hc, rl, jn, gd, lb, cS, cF, cL, cB, cT) x y := by
  unfold wpY_open
  exact h _ (br_f hr p)
theorem oc_x_opnS {post : Int32 → SX → Prop} {c : Nat} {y : Int32} (hc2 : c < 2) (h0 : ¬ hc c = 0) (h : y < 0 ∨ 3 ≤ y) (p : post (-3) (hc, rh, so, sh, uw, gc, gb, ql, xS, xB, xT)) : wpX_open post (hc, rh, so, sh, uw, gc, gb, ql, xS, xB, xT) (nI c) y := by
  unfold wpX_open
  exact oc_x_ref hc2 h0 (br_t rfl (oc_x_strB h (br_t rfl p)))
theorem oc_y_opnS {post : Int32 → SY → Prop} {c : Nat} {y : Int32} (hc2 : c < 2) (h0 : ¬ hc c = 0) (h : y < 0 ∨ 3 ≤ y) (p : post (-3) (n, hc, rl, jn, gd, lb, cS, cF, cL, cB, cT)) : wpY_open post (n, hc, rl, jn, gd, lb, cS, cF, cL, cB, cT) (nI c) y := by
  unfold wpY_open
  exact oc_y_ref hc2 h0 (br_t (by decide) (br_c (fun _ => p) (fun h1 => br_f (oc_ngt (a := 2) (by decide) (h.resolve_left h1)) p)))
theorem oc_x_opnO {post : Int32 → SX → Prop} {c s : Nat} (hc2 : c < 2) (h0 : ¬ hc c = 0) (hs : s < 3) (h : so (c * 3 + s) = 1) (p : post (-8) (hc, rh, so, sh, uw, gc, gb, ql, xS, xB, xT)) : wpX_open post (hc, rh, so, sh, uw, gc, gb, ql, xS, xB, xT) (nI c) (nI s) := by
  unfold wpX_open
  refine oc_x_ref hc2 h0 (br_t rfl (oc_x_str hs (br_f (by decide) (oc_x_pl ⟨vp_in_nI (by omega) (by omega), br_f ?_ p⟩))))
  rw [nI_clamp (by omega), h]
  decide
theorem oc_y_opnO {post : Int32 → SY → Prop} {c s : Nat} (hc2 : c < 2) (h0 : ¬ hc c = 0) (hs : s < 3) (h : ¬ jn (c * 3 + s) < 0) (p : post (-8) (n, hc, rl, jn, gd, lb, cS, cF, cL, cB, cT)) : wpY_open post (n, hc, rl, jn, gd, lb, cS, cF, cL, cB, cT) (nI c) (nI s) := by
  unfold wpY_open
  refine oc_y_ref hc2 h0 (br_t (by decide) (br_f (nI_pos (by omega)) (br_t (nI_le (b := 2) (by omega) (by decide)) (nm_r (e' := nI (c * 3 + s)) (oc_m3 c s) ⟨vp_in_nI (by omega) (by omega), br_f ?_ p⟩))))
  rw [nI_clamp (by omega)]
  exact h
theorem oc_x_opn {post : Int32 → SX → Prop} {c s j : Nat} (hc2 : c < 2) (h0 : hc c = nI (j + 1)) (hj : j < 3) (hs : s < 3) (h : so (c * 3 + s) = 0) (p : post (nI j) (hc, rh, upd so (c * 3 + s) 1, upd sh (c * 3 + s) (nI j), uw, gc, gb, ql, xS, xB, xT)) : wpX_open post (hc, rh, so, sh, uw, gc, gb, ql, xS, xB, xT) (nI c) (nI s) := by
  unfold wpX_open
  have e : (nI c).toNatClampNeg = c := nI_clamp (by omega)
  have e2 : (nI (c * 3 + s)).toNatClampNeg = c * 3 + s := nI_clamp (by omega)
  have hi : vp_in (nI (c * 3 + s)) 6 := vp_in_nI (by omega) (by omega)
  refine oc_x_ref hc2 (by rw [h0]; exact nI_ne0 (by omega) (by omega)) (br_t rfl (oc_x_str hs (br_f (by decide) (oc_x_pl ⟨hi, br_t ?_ ⟨hi, nm_r (e' := upd so (c * 3 + s) 1) ?_ ⟨vp_in_nI hc2 (by omega), hi, nm_r (e' := upd sh (c * 3 + s) (nI j)) ?_ ⟨hi, ?_⟩⟩⟩⟩))))
  · rw [e2, h]
  · rw [e2, oc_b1]
  · rw [e2, e, h0, nI_pred]
  · rw [e2, pk_us]
    exact p
theorem oc_y_opn {post : Int32 → SY → Prop} {c s j : Nat} (hc2 : c < 2) (h0 : hc c = nI (j + 1)) (hj : j < 3) (hs : s < 3) (h : jn (c * 3 + s) < 0) (p : post (nI j) (n, hc, rl, upd jn (c * 3 + s) (nI j), upd (upd gd ((c * 3 + s) * 2) 0) ((c * 3 + s) * 2 + 1) 0, lb, cS, cF, cL, cB, cT)) : wpY_open post (n, hc, rl, jn, gd, lb, cS, cF, cL, cB, cT) (nI c) (nI s) := by
  unfold wpY_open
  have e : (nI c).toNatClampNeg = c := nI_clamp (by omega)
  have e2 : (nI (c * 3 + s)).toNatClampNeg = c * 3 + s := nI_clamp (by omega)
  have hi : vp_in (nI (c * 3 + s)) 6 := vp_in_nI (by omega) (by omega)
  have e3 : nI (c * 3 + s) * 2 = nI ((c * 3 + s) * 2) := oc_m2 _
  refine oc_y_ref hc2 (by rw [h0]; exact nI_ne0 (by omega) (by omega)) (br_t (by decide) (br_f (nI_pos (by omega)) (br_t (nI_le (b := 2) (by omega) (by decide)) (nm_r (e' := nI (c * 3 + s)) (oc_m3 c s) ⟨hi, br_t ?_ ⟨vp_in_nI hc2 (by omega), hi, nm_r (e' := upd jn (c * 3 + s) (nI j)) ?_ ?_⟩⟩))))
  · rw [e2]
    exact h
  · rw [e2, e, h0, nI_pred]
  · rw [e3]
    refine ⟨vp_in_nI (by omega) (by omega), nm_r (e' := upd gd ((c * 3 + s) * 2) 0) (by rw [nI_clamp (by omega)]) ⟨oc_ia1 (by omega) (by omega), nm_r (e' := upd (upd gd ((c * 3 + s) * 2) 0) ((c * 3 + s) * 2 + 1) 0) (by rw [oc_ca1 (by omega)]) ⟨hi, ?_⟩⟩⟩
    rw [e2, pk_us]
    exact p
end
theorem i_vc_hops {k : Nat} {u : SX} {v : SY} (I : i_Rel k u v) (hk : k + 5 ≤ 2561) (v1 : Int32) : wpX_hops (fun r => wpY_hops (fun r' => r' = r ∧ i_Rel (k + 5) u v) v v1) u v1 := by
  obtain ⟨hc, rh, so, sh, uw, gc, gb, ql, xS, xB, xT⟩ := u
  obtain ⟨n, hd, rl, jn, gd, lb, cS, cF, cL, cB, cT⟩ := v
  obtain ⟨rfl, N, J, G, L, K, hY⟩ := I
  rcases oc_ixo v1 2 (by decide) with h | ⟨c, hc2, rfl⟩
  · exact oc_x_hopsB h (oc_y_hopsB h ⟨rfl, oc_mk5 K hY⟩)
  · exact oc_x_hops hc2 (oc_y_hops hc2 ⟨rfl, oc_mk5 K hY⟩)
theorem i_vc_extend {k : Nat} {u : SX} {v : SY} (I : i_Rel k u v) (hk : k + 5 ≤ 2561) (v1 : Int32) (v2 : Int32) : wpX_extend (fun r u' => wpY_extend (fun r' v' => r' = r ∧ i_Rel (k + 5) u' v') v v1 v2) u v1 v2 := by
  obtain ⟨hc, rh, so, sh, uw, gc, gb, ql, xS, xB, xT⟩ := u
  obtain ⟨n, hd, rl, jn, gd, lb, cS, cF, cL, cB, cT⟩ := v
  obtain ⟨rfl, N, J, G, L, K, hY⟩ := I
  rcases oc_ixo v1 2 (by decide) with h | ⟨c, hc2, rfl⟩
  · exact oc_x_extB h (oc_y_extB h ⟨rfl, oc_mk5 K hY⟩)
  · rcases oc_ixo v2 5 (by decide) with h | ⟨r, hr, rfl⟩
    · exact oc_x_extR hc2 h (oc_y_extR hc2 h ⟨rfl, oc_mk5 K hY⟩)
    · obtain ⟨hN, hN3⟩ := K.1 c hc2
      rcases K.2.1 c r hc2 hr with ⟨h1, h2⟩ | ⟨h1, t, ht, h2⟩
      · by_cases h3 : N c = 3
        · exact oc_x_extF hc2 hr h1 (by rw [hN, h3]) (oc_y_ext hc2 hr hN hN3 h2 (fun _ => ⟨rfl, oc_mk5 K hY⟩) (fun z => absurd z (by omega)))
        · exact oc_x_ext hc2 hr h1 hN (by omega) (oc_y_ext hc2 hr hN hN3 h2 (fun z => absurd z h3) (fun _ => ⟨rfl, oc_mk (oc_K_ext K hc2 hr (by omega)) hY⟩))
      · exact oc_x_extH hc2 hr h1 (oc_y_extH hc2 hr hN hN3 ht h2 ⟨rfl, oc_mk5 K hY⟩)
theorem i_vc_destroy {k : Nat} {u : SX} {v : SY} (I : i_Rel k u v) (hk : k + 5 ≤ 2561) (v1 : Int32) : wpX_destroy (fun r u' => wpY_destroy (fun r' v' => r' = r ∧ i_Rel (k + 5) u' v') v v1) u v1 := by
  obtain ⟨hc, rh, so, sh, uw, gc, gb, ql, xS, xB, xT⟩ := u
  obtain ⟨n, hd, rl, jn, gd, lb, cS, cF, cL, cB, cT⟩ := v
  obtain ⟨rfl, N, J, G, L, K, hY⟩ := I
  rcases oc_refus K.1 v1 with ⟨r, h1, h2, h3, h4⟩ | ⟨c, hc2, rfl, hN, h0⟩
  · exact oc_x_desR h3 h1 (oc_y_desR h4 h2 ⟨rfl, oc_mk5 K hY⟩)
  · have hok := oc_L_ok K.2.2.2.2.2.1
    have hU := K.2.2.2.2.2.2.1
    exact oc_x_des hc2 h0 hok hU (oc_y_des hc2 h0 hok (oc_U_len hU hok) hY (fun m aS aF aL aB aT hY2 => ⟨rfl, oc_mk (oc_K_des K c) hY2⟩))
theorem i_vc_open {k : Nat} {u : SX} {v : SY} (I : i_Rel k u v) (hk : k + 5 ≤ 2561) (v1 : Int32) (v2 : Int32) : wpX_open (fun r u' => wpY_open (fun r' v' => r' = r ∧ i_Rel (k + 5) u' v') v v1 v2) u v1 v2 := by
  obtain ⟨hc, rh, so, sh, uw, gc, gb, ql, xS, xB, xT⟩ := u
  obtain ⟨n, hd, rl, jn, gd, lb, cS, cF, cL, cB, cT⟩ := v
  obtain ⟨rfl, N, J, G, L, K, hY⟩ := I
  rcases oc_refus K.1 v1 with ⟨r, h1, h2, h3, h4⟩ | ⟨c, hc2, rfl, hN, h0⟩
  · exact oc_x_opnR h3 h1 (oc_y_opnR h4 h2 ⟨rfl, oc_mk5 K hY⟩)
  · rcases oc_ixo v2 3 (by decide) with h | ⟨s, hs, rfl⟩
    · exact oc_x_opnS hc2 h0 h (oc_y_opnS hc2 h0 h ⟨rfl, oc_mk5 K hY⟩)
    · rcases K.2.2.1 (c * 3 + s) (by omega) with ⟨j1, j2, j3⟩ | ⟨j, j1, j2, j3, j4, j5, j6⟩
      · obtain ⟨hN1, hN3⟩ := K.1 c hc2
        obtain ⟨j, hj⟩ : ∃ j, N c = j + 1 := ⟨N c - 1, by omega⟩
        rw [hj] at hN1
        have hd : (c * 3 + s) / 3 = c := by omega
        exact oc_x_opn hc2 hN1 (by omega) hs j2 (oc_y_opn hc2 hN1 (by omega) hs (by rw [j3]; decide) ⟨rfl, oc_mk (oc_K_open K (by omega) (by rw [hd]; exact hj) j1) hY⟩)
      · exact oc_x_opnO hc2 h0 hs j3 (oc_y_opnO hc2 h0 hs (by rw [j5]; exact nI_pos (by omega)) ⟨rfl, oc_mk5 K hY⟩)
