/-! ===== the component's own methods, each with a general post ===== -/
theorem oc_fl_00 (a : Nat → Int32) (p : Nat) (v : Int32) : oc_fl a p (p + 0) v = a := oc_fl_0 a p v
theorem oc_sh_00 (a : Nat → Int32) (p : Nat) : oc_sh a p (p + 0) = a := oc_sh_0 a p
theorem oc_ia {a b N : Nat} (h : a + b < N) (hN : N < 2 ^ 31) : vp_in (nI a + nI b) N := by
  rw [nI_add]
  exact vp_in_nI h hN
theorem oc_ca {a b : Nat} (h : a + b < 2 ^ 31) : (nI a + nI b).toNatClampNeg = a + b := by
  rw [nI_add]
  exact nI_clamp h
theorem oc_ia1 {a N : Nat} (h : a + 1 < N) (hN : N < 2 ^ 31) : vp_in (nI a + 1) N := by
  rw [nI_1]
  exact vp_in_nI h hN
theorem oc_ca1 {a : Nat} (h : a + 1 < 2 ^ 31) : (nI a + 1).toNatClampNeg = a + 1 := by
  rw [nI_1]
  exact nI_clamp h
theorem oc_m3 (a b : Nat) : nI a * 3 + nI b = nI (a * 3 + b) := by
  rw [show (3 : Int32) = nI 3 from rfl, pk_mul, nI_add]
theorem oc_m5 (a b : Nat) : nI a * 5 + nI b = nI (a * 5 + b) := by
  rw [show (5 : Int32) = nI 5 from rfl, pk_mul, nI_add]
theorem oc_m2 (a : Nat) : nI a * 2 = nI (a * 2) := by
  rw [show (2 : Int32) = nI 2 from rfl, pk_mul]
theorem oc_m8 (a : Nat) : nI a * 8 = nI (a * 8) := by
  rw [show (8 : Int32) = nI 8 from rfl, pk_mul]
theorem oc_m9 (a : Nat) : nI a * 9 = nI (a * 9) := by
  rw [show (9 : Int32) = nI 9 from rfl, pk_mul]
theorem oc_p1 (a : Nat) : nI a + 1 = nI (a + 1) := nI_1 a
theorem oc_p0 (a : Nat) : nI a + 0 = nI a := by
  rw [show (0 : Int32) = nI 0 from rfl, nI_add]
  rfl
theorem oc_b0 : vp_nar .boolean 0 = 0 := by decide
theorem oc_b1 : vp_nar .boolean 1 = 1 := by decide
theorem oc_bN {f : Nat} (h : f < 2) : vp_nar .boolean (nI f) = nI f := by
  match f, h with
  | 0, _ => exact oc_b0
  | 1, _ => exact oc_b1
theorem oc_f2 {f : Nat} (h : f < 2) : f = 0 ∨ f = 1 := by omega
theorem oc_x_cir {post : Int32 → Prop} {c : Nat} (hc2 : c < 2) (p : post 1) : wpX_isCircuit post (nI c) :=
  br_f (nI_pos (by omega)) (br_f (nI_ge (b := 2) hc2 (by decide)) p)
theorem oc_x_cirB {post : Int32 → Prop} {x : Int32} (h : x < 0 ∨ 2 ≤ x) (p : post 0) : wpX_isCircuit post x :=
  br_c (fun _ => p) (fun h0 => br_t (h.resolve_left h0) p)
theorem oc_x_str {post : Int32 → Prop} {c : Nat} (hc2 : c < 3) (p : post 1) : wpX_isStream post (nI c) :=
  br_f (nI_pos (by omega)) (br_f (nI_ge (b := 3) hc2 (by decide)) p)
theorem oc_x_strB {post : Int32 → Prop} {x : Int32} (h : x < 0 ∨ 3 ≤ x) (p : post 0) : wpX_isStream post x :=
  br_c (fun _ => p) (fun h0 => br_t (h.resolve_left h0) p)
theorem oc_x_lnk {post : Int32 → Prop} {c : Nat} (hc2 : c < 3) (p : post 1) : wpX_isLink post (nI c) :=
  br_f (nI_pos (by omega)) (br_f (nI_ge (b := 3) hc2 (by decide)) p)
theorem oc_x_lnkB {post : Int32 → Prop} {x : Int32} (h : x < 0 ∨ 3 ≤ x) (p : post 0) : wpX_isLink post x :=
  br_c (fun _ => p) (fun h0 => br_t (h.resolve_left h0) p)
theorem oc_x_pl {post : Int32 → Prop} {c s : Nat} (p : post (nI (c * 3 + s))) : wpX_streamPlace post (nI c) (nI s) := by
  unfold wpX_streamPlace
  rw [oc_m3]
  exact p
theorem oc_x_way {post : Int32 → Prop} {c s f : Nat} (hf : f < 2) (p : post (nI ((c * 3 + s) * 2 + (1 - f)))) : wpX_wayOf post (nI c) (nI s) (nI f) := by
  unfold wpX_wayOf
  refine oc_x_pl ?_
  match f, hf with
  | 0, _ =>
    refine br_t rfl ?_
    rw [oc_m2, oc_p1]
    exact p
  | 1, _ =>
    refine br_f (by decide) ?_
    rw [oc_m2, oc_p0]
    exact p
theorem oc_x_que {post : Int32 → Prop} {c l f : Nat} (hf : f < 2) (p : post (nI ((c * 3 + l) * 2 + (1 - f)))) : wpX_queueOf post (nI c) (nI l) (nI f) := by
  unfold wpX_queueOf
  rw [oc_m3, oc_m2, oc_p1, oc_p0]
  match f, hf with
  | 0, _ => exact br_t rfl p
  | 1, _ => exact br_f (by decide) p
section
variable {hc rh so sh uw gc gb ql xS xB xT : Nat → Int32}
theorem oc_x_refB {post : Int32 → Prop} {x : Int32} (h : x < 0 ∨ 2 ≤ x) (p : post (-1)) : wpX_circuitRefusal post (hc, rh, so, sh, uw, gc, gb, ql, xS, xB, xT) x := by
  unfold wpX_circuitRefusal
  exact oc_x_cirB h (br_t rfl p)
theorem oc_x_ref0 {post : Int32 → Prop} {c : Nat} (h : c < 2) (h0 : hc c = 0) (p : post (-5)) : wpX_circuitRefusal post (hc, rh, so, sh, uw, gc, gb, ql, xS, xB, xT) (nI c) := by
  unfold wpX_circuitRefusal
  exact oc_x_cir h (br_f (by decide) ⟨vp_in_nI h (by omega), br_t (by rw [nI_clamp (by omega)]; exact h0) p⟩)
theorem oc_x_ref {post : Int32 → Prop} {c : Nat} (h : c < 2) (h0 : ¬ hc c = 0) (p : post 0) : wpX_circuitRefusal post (hc, rh, so, sh, uw, gc, gb, ql, xS, xB, xT) (nI c) := by
  unfold wpX_circuitRefusal
  exact oc_x_cir h (br_f (by decide) ⟨vp_in_nI h (by omega), br_f (by rw [nI_clamp (by omega)]; exact h0) p⟩)
theorem oc_x_cuw_s {post : Int32 → Prop} {c i s m n : Nat} (hc2 : c < 2) (hi : i < 6) (hu : uw (c * 6 + i) = nI m) (p : wX_cellsUnderWay_12 post (nI (c * 6)) hc rh so sh uw gc gb ql xS xB xT n (nI (s + m)) (nI (i + 1))) :
    wX_cellsUnderWay_12 post (nI (c * 6)) hc rh so sh uw gc gb ql xS xB xT (n + 1) (nI s) (nI i) := by
  refine br_f (nI_ge (b := 6) hi (by decide)) ⟨oc_ia (by omega) (by omega), ?_⟩
  rw [oc_ca (by omega), hu, nI_add]
  exact nm_e (nm_r (nI_1 i) p)
theorem oc_x_cuw {post : Int32 → Prop} {c m0 m1 m2 m3 m4 m5 : Nat} (hc2 : c < 2) (h0 : uw (c * 6) = nI m0) (h1 : uw (c * 6 + 1) = nI m1) (h2 : uw (c * 6 + 2) = nI m2) (h3 : uw (c * 6 + 3) = nI m3) (h4 : uw (c * 6 + 4) = nI m4) (h5 : uw (c * 6 + 5) = nI m5)
    (p : post (nI (m0 + m1 + m2 + m3 + m4 + m5))) : wpX_cellsUnderWay post (hc, rh, so, sh, uw, gc, gb, ql, xS, xB, xT) (nI c) := by
  unfold wpX_cellsUnderWay
  refine oc_x_way (s := 0) (f := 1) (by decide) ?_
  rw [show (c * 3 + 0) * 2 + (1 - 1) = c * 6 by omega]
  refine ⟨7, ?_⟩
  have p6 : wX_cellsUnderWay_12 post (nI (c * 6)) hc rh so sh uw gc gb ql xS xB xT 1 (nI (0 + m0 + m1 + m2 + m3 + m4 + m5)) (nI 6) := by
    rw [Nat.zero_add]
    exact br_t (nI_le (a := 6) (b := 6) (Nat.le_refl 6) (by decide)) p
  exact oc_x_cuw_s (i := 0) (s := 0) (m := m0) hc2 (by omega) h0 (oc_x_cuw_s (m := m1) hc2 (by omega) h1 (oc_x_cuw_s (m := m2) hc2 (by omega) h2 (oc_x_cuw_s (m := m3) hc2 (by omega) h3 (oc_x_cuw_s (m := m4) hc2 (by omega) h4 (oc_x_cuw_s (m := m5) hc2 (by omega) h5 p6)))))
theorem oc_x_td4 {post : SX → Prop} {c : Nat} (hc2 : c < 2) (p : post (hc, rh, so, sh, uw, gc, gb, oc_fl ql (c * 6) (c * 6 + 6) 0, xS, xB, xT)) : ∀ d i : Nat, i + d = 6 →
    wX_takeDown_104 post (nI (c * 6)) (d + 1) (nI i) hc rh so sh uw gc gb (oc_fl ql (c * 6) (c * 6 + i) 0) xS xB xT := by
  intro d
  induction d with
  | zero =>
    intro i hi
    have e : i = 6 := by omega
    subst e
    exact br_t (nI_le (a := 6) (b := 6) (Nat.le_refl 6) (by decide)) p
  | succ d ih =>
    intro i hi
    refine br_f (nI_ge (b := 6) (by omega) (by decide)) ⟨oc_ia (by omega) (by omega), nm_r (e' := oc_fl ql (c * 6) (c * 6 + (i + 1)) 0) ?_ (nm_r (nI_1 i) (ih (i + 1) (by omega)))⟩
    rw [oc_ca (by omega)]
    exact oc_fl_s ql 0 (by omega)
theorem oc_x_td3 {post : SX → Prop} {c : Nat} (hc2 : c < 2) (p : post (hc, rh, so, sh, oc_fl uw (c * 6) (c * 6 + 6) 0, oc_fl gc (c * 6) (c * 6 + 6) 0, gb, oc_fl ql (c * 6) (c * 6 + 6) 0, xS, xB, xT)) : ∀ d i : Nat, i + d = 6 →
    wX_takeDown_64 post (nI c) (nI (c * 6)) (d + 1) (nI i) hc rh so sh (oc_fl uw (c * 6) (c * 6 + i) 0) (oc_fl gc (c * 6) (c * 6 + i) 0) gb ql xS xB xT := by
  intro d
  induction d with
  | zero =>
    intro i hi
    have e : i = 6 := by omega
    subst e
    refine br_t (nI_le (a := 6) (b := 6) (Nat.le_refl 6) (by decide)) ?_
    refine oc_x_que (l := 0) (f := 1) (by decide) ?_
    rw [show (c * 3 + 0) * 2 + (1 - 1) = c * 6 by omega]
    refine ⟨7, ?_⟩
    have g := oc_x_td4 (ql := ql) hc2 p 6 0 (by omega)
    rw [oc_fl_00] at g
    exact g
  | succ d ih =>
    intro i hi
    refine br_f (nI_ge (b := 6) (by omega) (by decide)) ⟨oc_ia (by omega) (by omega), nm_r (e' := oc_fl uw (c * 6) (c * 6 + (i + 1)) 0) ?_ ⟨oc_ia (by omega) (by omega), nm_r (e' := oc_fl gc (c * 6) (c * 6 + (i + 1)) 0) ?_ (nm_r (nI_1 i) (ih (i + 1) (by omega)))⟩⟩
    · rw [oc_ca (by omega)]
      exact oc_fl_s uw 0 (by omega)
    · rw [oc_ca (by omega)]
      exact oc_fl_s gc 0 (by omega)
theorem oc_x_td2 {post : SX → Prop} {c : Nat} (hc2 : c < 2) (p : post (hc, rh, oc_fl so (c * 3) (c * 3 + 3) 0, sh, oc_fl uw (c * 6) (c * 6 + 6) 0, oc_fl gc (c * 6) (c * 6 + 6) 0, gb, oc_fl ql (c * 6) (c * 6 + 6) 0, xS, xB, xT)) : ∀ d i : Nat, i + d = 3 →
    wX_takeDown_33 post (nI c) (d + 1) (nI i) hc rh (oc_fl so (c * 3) (c * 3 + i) 0) sh uw gc gb ql xS xB xT := by
  intro d
  induction d with
  | zero =>
    intro i hi
    have e : i = 3 := by omega
    subst e
    refine br_t (nI_le (a := 3) (b := 3) (Nat.le_refl 3) (by decide)) ?_
    refine oc_x_way (s := 0) (f := 1) (by decide) ?_
    rw [show (c * 3 + 0) * 2 + (1 - 1) = c * 6 by omega]
    refine ⟨7, ?_⟩
    have g := oc_x_td3 (uw := uw) (gc := gc) (ql := ql) hc2 p 6 0 (by omega)
    rw [oc_fl_00, oc_fl_00] at g
    exact g
  | succ d ih =>
    intro i hi
    refine br_f (nI_ge (b := 3) (by omega) (by decide)) (oc_x_pl ⟨vp_in_nI (by omega) (by omega), nm_r (e' := oc_fl so (c * 3) (c * 3 + (i + 1)) 0) ?_ (nm_r (nI_1 i) (ih (i + 1) (by omega)))⟩)
    rw [nI_clamp (by omega), oc_b0]
    exact oc_fl_s so 0 (by omega)
theorem oc_x_td1 {post : SX → Prop} {c : Nat} (hc2 : c < 2) (p : post (hc, oc_fl rh (c * 5) (c * 5 + 5) 0, oc_fl so (c * 3) (c * 3 + 3) 0, sh, oc_fl uw (c * 6) (c * 6 + 6) 0, oc_fl gc (c * 6) (c * 6 + 6) 0, gb, oc_fl ql (c * 6) (c * 6 + 6) 0, xS, xB, xT)) : ∀ d i : Nat, i + d = 5 →
    wX_takeDown_9 post (nI c) (d + 1) (nI i) hc (oc_fl rh (c * 5) (c * 5 + i) 0) so sh uw gc gb ql xS xB xT := by
  intro d
  induction d with
  | zero =>
    intro i hi
    have e : i = 5 := by omega
    subst e
    refine br_t (nI_le (a := 5) (b := 5) (Nat.le_refl 5) (by decide)) ⟨4, ?_⟩
    have g := oc_x_td2 (so := so) hc2 p 3 0 (by omega)
    rw [oc_fl_00] at g
    exact g
  | succ d ih =>
    intro i hi
    refine br_f (nI_ge (b := 5) (by omega) (by decide)) ⟨?_, nm_r (e' := oc_fl rh (c * 5) (c * 5 + (i + 1)) 0) ?_ (nm_r (nI_1 i) (ih (i + 1) (by omega)))⟩
    · rw [oc_m5]
      exact vp_in_nI (by omega) (by omega)
    · rw [oc_m5, nI_clamp (by omega), oc_b0]
      exact oc_fl_s rh 0 (by omega)
theorem oc_x_td {post : SX → Prop} {c : Nat} (hc2 : c < 2) (p : post (upd hc c 0, oc_fl rh (c * 5) (c * 5 + 5) 0, oc_fl so (c * 3) (c * 3 + 3) 0, sh, oc_fl uw (c * 6) (c * 6 + 6) 0, oc_fl gc (c * 6) (c * 6 + 6) 0, gb, oc_fl ql (c * 6) (c * 6 + 6) 0, xS, xB, xT)) :
    wpX_takeDown post (hc, rh, so, sh, uw, gc, gb, ql, xS, xB, xT) (nI c) := by
  unfold wpX_takeDown
  refine ⟨vp_in_nI hc2 (by omega), nm_r (e' := upd hc c 0) (by rw [nI_clamp (by omega)]) ⟨6, ?_⟩⟩
  have g := oc_x_td1 (hc := upd hc c 0) (rh := rh) hc2 p 5 0 (by omega)
  rw [oc_fl_00] at g
  exact g
theorem oc_x_isoC {post : Int32 → Prop} {x y : Int32} (h : x < 0 ∨ 2 ≤ x) (p : post 0) : wpX_isOpenStream post (hc, rh, so, sh, uw, gc, gb, ql, xS, xB, xT) x y := by
  unfold wpX_isOpenStream
  exact oc_x_cirB h (br_t rfl p)
theorem oc_x_isoS {post : Int32 → Prop} {c : Nat} {y : Int32} (hc2 : c < 2) (h : y < 0 ∨ 3 ≤ y) (p : post 0) : wpX_isOpenStream post (hc, rh, so, sh, uw, gc, gb, ql, xS, xB, xT) (nI c) y := by
  unfold wpX_isOpenStream
  exact oc_x_cir hc2 (br_f (by decide) (oc_x_strB h (br_t rfl p)))
theorem oc_x_iso0 {post : Int32 → Prop} {c s : Nat} (hc2 : c < 2) (hs : s < 3) (h : so (c * 3 + s) = 0) (p : post 0) : wpX_isOpenStream post (hc, rh, so, sh, uw, gc, gb, ql, xS, xB, xT) (nI c) (nI s) := by
  unfold wpX_isOpenStream
  exact oc_x_cir hc2 (br_f (by decide) (oc_x_str hs (br_f (by decide) (oc_x_pl ⟨vp_in_nI (by omega) (by omega), br_t (by rw [nI_clamp (by omega)]; exact h) p⟩))))
theorem oc_x_iso1 {post : Int32 → Prop} {c s : Nat} (hc2 : c < 2) (hs : s < 3) (h : so (c * 3 + s) = 1) (p : post 1) : wpX_isOpenStream post (hc, rh, so, sh, uw, gc, gb, ql, xS, xB, xT) (nI c) (nI s) := by
  unfold wpX_isOpenStream
  exact oc_x_cir hc2 (br_f (by decide) (oc_x_str hs (br_f (by decide) (oc_x_pl ⟨vp_in_nI (by omega) (by omega), br_f (by rw [nI_clamp (by omega), h]; decide) p⟩))))
theorem oc_x_ll0 {post : Int32 → Prop} {x y : Int32} (p : post 0) : wpX_lastLink post (hc, rh, so, sh, uw, gc, gb, ql, xS, xB, xT) x y 0 := by
  unfold wpX_lastLink
  exact br_t rfl p
theorem oc_x_ll1 {post : Int32 → Prop} {c s : Nat} (hc2 : c < 2) (hs : s < 3) (p : post (sh (c * 3 + s))) : wpX_lastLink post (hc, rh, so, sh, uw, gc, gb, ql, xS, xB, xT) (nI c) (nI s) 1 := by
  unfold wpX_lastLink
  exact br_f (by decide) (oc_x_pl ⟨vp_in_nI (by omega) (by omega), by rw [nI_clamp (by omega)]; exact p⟩)
theorem oc_x_fl1 {post : Int32 → Prop} {x y : Int32} (p : post 0) : wpX_firstLink post (hc, rh, so, sh, uw, gc, gb, ql, xS, xB, xT) x y 1 := by
  unfold wpX_firstLink
  refine br_f (by decide) ?_
  unfold wX_firstLink_12
  exact oc_x_ll0 p
theorem oc_x_fl0 {post : Int32 → Prop} {c s : Nat} (hc2 : c < 2) (hs : s < 3) (p : post (sh (c * 3 + s))) : wpX_firstLink post (hc, rh, so, sh, uw, gc, gb, ql, xS, xB, xT) (nI c) (nI s) 0 := by
  unfold wpX_firstLink
  refine br_t rfl ?_
  unfold wX_firstLink_12
  exact oc_x_ll1 hc2 hs p
theorem oc_x_app {post : SX → Prop} {q m : Nat} {x y z : Int32} (hq : q < 12) (hm : m < 9) (hl : ql q = nI m)
    (p : post (hc, rh, so, sh, uw, gc, gb, upd ql q (nI (m + 1)), upd xS (q * 9 + m) x, upd xB (q * 9 + m) y, upd xT (q * 9 + m) z)) : wpX_append post (hc, rh, so, sh, uw, gc, gb, ql, xS, xB, xT) (nI q) x y z := by
  unfold wpX_append
  have e : (nI q).toNatClampNeg = q := nI_clamp (by omega)
  have e2 : (nI (q * 9 + m)).toNatClampNeg = q * 9 + m := nI_clamp (by omega)
  have hi : vp_in (nI (q * 9 + m)) 108 := vp_in_nI (by omega) (by omega)
  have hi2 : vp_in (nI q) 12 := vp_in_nI hq (by omega)
  refine ⟨hi2, nm_r (e' := nI (q * 9 + m)) (by rw [e, hl, oc_m9, nI_add]) ⟨hi, nm_r (e' := upd xS (q * 9 + m) x) (by rw [e2]) ⟨hi, nm_r (e' := upd xB (q * 9 + m) y) (by rw [e2]) ⟨hi, nm_r (e' := upd xT (q * 9 + m) z) (by rw [e2]) ⟨hi2, hi2, nm_r (e' := upd ql q (nI (m + 1))) (by rw [e, hl, nI_1]) p⟩⟩⟩⟩⟩
theorem oc_x_rem_l {post : SX → Prop} {q m : Nat} (hq : q < 12) (hm : m < 9) (hl : ql q = nI (m + 1))
    (p : post (hc, rh, so, sh, uw, gc, gb, upd ql q (nI m), oc_sh xS (q * 9) (q * 9 + m), oc_sh xB (q * 9) (q * 9 + m), oc_sh xT (q * 9) (q * 9 + m))) : ∀ d i : Nat, i + d = m →
    wX_removeOldest_19 post (nI q) (nI (q * 9 + m)) (d + 1) (nI (q * 9 + i)) hc rh so sh uw gc gb ql (oc_sh xS (q * 9) (q * 9 + i)) (oc_sh xB (q * 9) (q * 9 + i)) (oc_sh xT (q * 9) (q * 9 + i)) := by
  intro d
  have e : (nI q).toNatClampNeg = q := nI_clamp (by omega)
  have hi2 : vp_in (nI q) 12 := vp_in_nI hq (by omega)
  induction d with
  | zero =>
    intro i hi
    have e1 : i = m := by omega
    subst e1
    exact br_t (nI_le (Nat.le_refl _) (by omega)) ⟨hi2, hi2, nm_r (e' := upd ql q (nI i)) (by rw [e, hl, nI_pred]) p⟩
  | succ d ih =>
    intro i hi
    have a1 : vp_in (nI (q * 9 + i) + 1) 108 := oc_ia1 (by omega) (by omega)
    have a2 : vp_in (nI (q * 9 + i)) 108 := vp_in_nI (by omega) (by omega)
    have b1 : (nI (q * 9 + i) + 1).toNatClampNeg = q * 9 + i + 1 := oc_ca1 (by omega)
    have b2 : (nI (q * 9 + i)).toNatClampNeg = q * 9 + i := nI_clamp (by omega)
    refine br_f (nI_ge (by omega) (by omega)) ⟨a1, a2, nm_r (e' := oc_sh xS (q * 9) (q * 9 + (i + 1))) ?_ ⟨a1, a2, nm_r (e' := oc_sh xB (q * 9) (q * 9 + (i + 1))) ?_ ⟨a1, a2, nm_r (e' := oc_sh xT (q * 9) (q * 9 + (i + 1))) ?_ (nm_r (nI_1 _) (ih (i + 1) (by omega)))⟩⟩⟩
    · rw [b1, b2]
      exact oc_sh_s xS (by omega)
    · rw [b1, b2]
      exact oc_sh_s xB (by omega)
    · rw [b1, b2]
      exact oc_sh_s xT (by omega)
theorem oc_x_rem {post : SX → Prop} {q m : Nat} (hq : q < 12) (hm : m < 9) (hl : ql q = nI (m + 1))
    (p : post (hc, rh, so, sh, uw, gc, gb, upd ql q (nI m), oc_sh xS (q * 9) (q * 9 + m), oc_sh xB (q * 9) (q * 9 + m), oc_sh xT (q * 9) (q * 9 + m))) : wpX_removeOldest post (hc, rh, so, sh, uw, gc, gb, ql, xS, xB, xT) (nI q) := by
  unfold wpX_removeOldest
  have e : (nI q).toNatClampNeg = q := nI_clamp (by omega)
  refine nm_r (e' := nI (q * 9)) (oc_m9 q) ⟨vp_in_nI hq (by omega), nm_r (e' := nI (q * 9 + m)) ?_ ⟨m + 1, ?_⟩⟩
  · rw [e, hl, nI_add, show q * 9 + (m + 1) = q * 9 + m + 1 by omega, nI_pred]
  · have g := oc_x_rem_l (xS := xS) (xB := xB) (xT := xT) hq hm hl p m 0 (by omega)
    rw [oc_sh_00, oc_sh_00, oc_sh_00] at g
    exact g
theorem oc_and7 {g : Nat} (h : g < 2 ^ 31) : nI g &&& 7 = nI (g % 8) := pk_andN (by omega) 3 (by decide)
theorem oc_x_del {post : SX → Prop} {w g m : Nat} {v : Int32} (hw : w < 12) (hg : g < 2 ^ 30) (hgc : gc w = nI g) (hu : uw w = nI (m + 1))
    (p : post (hc, rh, so, sh, upd uw w (nI m), upd gc w (nI (g + 1)), upd gb (w * 8 + g % 8) v, ql, xS, xB, xT)) : wpX_deliver post (hc, rh, so, sh, uw, gc, gb, ql, xS, xB, xT) (nI w) v := by
  unfold wpX_deliver
  have e : (nI w).toNatClampNeg = w := nI_clamp (by omega)
  have hi : vp_in (nI w) 12 := vp_in_nI hw (by omega)
  have e2 : nI w * 8 + (gc (nI w).toNatClampNeg &&& 7) = nI (w * 8 + g % 8) := by
    rw [e, hgc, oc_and7 (by omega), oc_m8, nI_add]
  refine ⟨hi, ?_⟩
  unfold wpX_gotPlace
  rw [e2]
  refine ⟨vp_in_nI (by omega) (by omega), nm_r (e' := upd gb (w * 8 + g % 8) v) (by rw [nI_clamp (by omega)]) ⟨hi, hi, nm_r (e' := upd gc w (nI (g + 1))) (by rw [e, hgc, nI_1]) ⟨hi, hi, nm_r (e' := upd uw w (nI m)) (by rw [e, hu, nI_pred]) p⟩⟩⟩
theorem oc_x_crR {post : Int32 → Prop} {x y z r : Int32} (h : ∀ P : Int32 → Prop, P r → wpX_circuitRefusal P (hc, rh, so, sh, uw, gc, gb, ql, xS, xB, xT) x) (hr : ¬ r = 0) (p : post r) : wpX_cellRefusal post (hc, rh, so, sh, uw, gc, gb, ql, xS, xB, xT) x y z := by
  unfold wpX_cellRefusal
  exact h _ (br_f hr p)
theorem oc_x_crL {post : Int32 → Prop} {c : Nat} {y z : Int32} (hc2 : c < 2) (h0 : ¬ hc c = 0) (h : y < 0 ∨ 3 ≤ y) (p : post (-7)) : wpX_cellRefusal post (hc, rh, so, sh, uw, gc, gb, ql, xS, xB, xT) (nI c) y z := by
  unfold wpX_cellRefusal
  exact oc_x_ref hc2 h0 (br_t rfl (oc_x_lnkB h (br_t rfl p)))
theorem oc_x_cr0 {post : Int32 → Prop} {c l f : Nat} (hc2 : c < 2) (h0 : ¬ hc c = 0) (hl : l < 3) (hf : f < 2) (h : ql ((c * 3 + l) * 2 + (1 - f)) = 0) (p : post (-7)) : wpX_cellRefusal post (hc, rh, so, sh, uw, gc, gb, ql, xS, xB, xT) (nI c) (nI l) (nI f) := by
  unfold wpX_cellRefusal
  exact oc_x_ref hc2 h0 (br_t rfl (oc_x_lnk hl (br_f (by decide) (oc_x_que hf ⟨vp_in_nI (by omega) (by omega), br_t (by rw [nI_clamp (by omega)]; exact h) p⟩))))
theorem oc_x_cr {post : Int32 → Prop} {c l f : Nat} (hc2 : c < 2) (h0 : ¬ hc c = 0) (hl : l < 3) (hf : f < 2) (h : ¬ ql ((c * 3 + l) * 2 + (1 - f)) = 0) (p : post 0) : wpX_cellRefusal post (hc, rh, so, sh, uw, gc, gb, ql, xS, xB, xT) (nI c) (nI l) (nI f) := by
  unfold wpX_cellRefusal
  exact oc_x_ref hc2 h0 (br_t rfl (oc_x_lnk hl (br_f (by decide) (oc_x_que hf ⟨vp_in_nI (by omega) (by omega), br_f (by rw [nI_clamp (by omega)]; exact h) p⟩))))
end
