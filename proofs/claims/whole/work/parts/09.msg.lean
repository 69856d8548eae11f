/-! ===== got, byteGot, waiting, tamper, send, reply ===== -/
section
variable {k : Nat} {N J G : Nat → Nat} {L : List oc_C} {hc rh so sh uw gc gb ql xS xB xT rl jn gd lb cS cF cL cB cT : Nat → Int32} {n : Int32}
theorem oc_x_gotC {post : Int32 → Prop} {x y z : Int32} (h : ∀ P : Int32 → Prop, P 0 → wpX_isOpenStream P (hc, rh, so, sh, uw, gc, gb, ql, xS, xB, xT) x y) (p : post 0) : wpX_got post (hc, rh, so, sh, uw, gc, gb, ql, xS, xB, xT) x y z := by
  unfold wpX_got
  exact h _ (br_t rfl p)
theorem oc_y_gotC {post : Int32 → Prop} {x y z : Int32} (h : ∀ P : Int32 → Prop, P 0 → wpY_isOpen P (n, hc, rl, jn, gd, lb, cS, cF, cL, cB, cT) x y) (p : post 0) : wpY_got post (n, hc, rl, jn, gd, lb, cS, cF, cL, cB, cT) x y z := by
  unfold wpY_got
  exact h _ (br_t rfl p)
theorem oc_x_got {post : Int32 → Prop} {c s f : Nat} (hc2 : c < 2) (hs : s < 3) (hf : f < 2) (h : ∀ P : Int32 → Prop, P 1 → wpX_isOpenStream P (hc, rh, so, sh, uw, gc, gb, ql, xS, xB, xT) (nI c) (nI s)) (p : post (gc ((c * 3 + s) * 2 + (1 - f)))) : wpX_got post (hc, rh, so, sh, uw, gc, gb, ql, xS, xB, xT) (nI c) (nI s) (nI f) := by
  unfold wpX_got
  refine h _ (br_f (by decide) (oc_x_way hf ⟨vp_in_nI (by omega) (by omega), ?_⟩))
  rw [nI_clamp (by omega)]
  exact p
theorem oc_y_got {post : Int32 → Prop} {c s f : Nat} (hc2 : c < 2) (hs : s < 3) (hf : f < 2) (h : ∀ P : Int32 → Prop, P 1 → wpY_isOpen P (n, hc, rl, jn, gd, lb, cS, cF, cL, cB, cT) (nI c) (nI s)) (p : post (gd ((c * 3 + s) * 2 + (1 - f)))) : wpY_got post (n, hc, rl, jn, gd, lb, cS, cF, cL, cB, cT) (nI c) (nI s) (nI f) := by
  unfold wpY_got
  refine h _ (br_f (by decide) ?_)
  rw [oc_m3, oc_m2, oc_p1, oc_p0]
  match f, hf with
  | 0, _ =>
    refine br_t rfl ⟨vp_in_nI (by omega) (by omega), ?_⟩
    rw [nI_clamp (by omega)]
    exact p
  | 1, _ =>
    refine br_f (by decide) ⟨vp_in_nI (by omega) (by omega), ?_⟩
    rw [nI_clamp (by omega)]
    exact p
theorem oc_x_bgC {post : Int32 → Prop} {x y z b : Int32} (h : ∀ P : Int32 → Prop, P 0 → wpX_isOpenStream P (hc, rh, so, sh, uw, gc, gb, ql, xS, xB, xT) x y) (p : post (-7)) : wpX_byteGot post (hc, rh, so, sh, uw, gc, gb, ql, xS, xB, xT) x y z b := by
  unfold wpX_byteGot
  exact h _ (br_t rfl p)
theorem oc_y_bgB {post : Int32 → Prop} {x y z b : Int32} (h : b < 0 ∨ 8 ≤ b) (p : post (-7)) : wpY_byteGot post (n, hc, rl, jn, gd, lb, cS, cF, cL, cB, cT) x y z b := by
  unfold wpY_byteGot
  exact br_c (fun _ => p) (fun h1 => br_t (oc_gt (a := 7) (by decide) (h.resolve_left h1)) p)
theorem oc_y_bgC {post : Int32 → Prop} {x y z : Int32} {b : Nat} (hb : b < 8) (h : ∀ P : Int32 → Prop, P 0 → wpY_isOpen P (n, hc, rl, jn, gd, lb, cS, cF, cL, cB, cT) x y) (p : post (-7)) : wpY_byteGot post (n, hc, rl, jn, gd, lb, cS, cF, cL, cB, cT) x y z (nI b) := by
  unfold wpY_byteGot
  refine br_f (nI_pos (by omega)) (br_f ?_ (oc_y_gotC h (br_f (nI_pos (by omega)) p)))
  exact fun z => absurd ((nI_ltI (a := 7) (by decide) (by omega)).mp z) (by omega)
theorem oc_x_bgB {post : Int32 → Prop} {c s f : Nat} {b : Int32} (hf : f < 2) (h : ∀ P : Int32 → Prop, P 1 → wpX_isOpenStream P (hc, rh, so, sh, uw, gc, gb, ql, xS, xB, xT) (nI c) (nI s)) (hb : b < 0 ∨ 8 ≤ b) (p : post (-7)) : wpX_byteGot post (hc, rh, so, sh, uw, gc, gb, ql, xS, xB, xT) (nI c) (nI s) (nI f) b := by
  unfold wpX_byteGot
  exact h _ (br_f (by decide) (oc_x_way hf (br_c (fun _ => p) (fun h1 => br_t (hb.resolve_left h1) p))))
theorem oc_x_bgN {post : Int32 → Prop} {c s f b g : Nat} (hc2 : c < 2) (hs : s < 3) (hf : f < 2) (h : ∀ P : Int32 → Prop, P 1 → wpX_isOpenStream P (hc, rh, so, sh, uw, gc, gb, ql, xS, xB, xT) (nI c) (nI s)) (hb : b < 8) (hg : gc ((c * 3 + s) * 2 + (1 - f)) = nI g) (hg2 : g < 2 ^ 30) (hn : ¬ b < g) (p : post (-7)) : wpX_byteGot post (hc, rh, so, sh, uw, gc, gb, ql, xS, xB, xT) (nI c) (nI s) (nI f) (nI b) := by
  unfold wpX_byteGot
  refine h _ (br_f (by decide) (oc_x_way hf (br_f (nI_pos (by omega)) (br_f (nI_ge (b := 8) hb (by decide)) ⟨vp_in_nI (by omega) (by omega), br_f ?_ p⟩))))
  rw [nI_clamp (by omega), hg]
  exact nI_nlt (by omega) (by omega)
theorem oc_x_bg {post : Int32 → Prop} {c s f b g : Nat} (hc2 : c < 2) (hs : s < 3) (hf : f < 2) (h : ∀ P : Int32 → Prop, P 1 → wpX_isOpenStream P (hc, rh, so, sh, uw, gc, gb, ql, xS, xB, xT) (nI c) (nI s)) (hb : b < 8) (hg : gc ((c * 3 + s) * 2 + (1 - f)) = nI g) (hg2 : g < 2 ^ 30) (hn : b < g)
    (p : post (gb (((c * 3 + s) * 2 + (1 - f)) * 8 + (g - 1 - b) % 8))) : wpX_byteGot post (hc, rh, so, sh, uw, gc, gb, ql, xS, xB, xT) (nI c) (nI s) (nI f) (nI b) := by
  unfold wpX_byteGot
  have e : (nI ((c * 3 + s) * 2 + (1 - f))).toNatClampNeg = (c * 3 + s) * 2 + (1 - f) := nI_clamp (by omega)
  have hi : vp_in (nI ((c * 3 + s) * 2 + (1 - f))) 12 := vp_in_nI (by omega) (by omega)
  refine h _ (br_f (by decide) (oc_x_way hf (br_f (nI_pos (by omega)) (br_f (nI_ge (b := 8) hb (by decide)) ⟨hi, br_t ?_ ⟨hi, ?_⟩⟩))))
  · rw [e, hg]
    exact nI_lt hn (by omega)
  · unfold wpX_gotPlace
    have e2 : nI ((c * 3 + s) * 2 + (1 - f)) * 8 + ((gc (nI ((c * 3 + s) * 2 + (1 - f))).toNatClampNeg - 1 - nI b) &&& 7) = nI (((c * 3 + s) * 2 + (1 - f)) * 8 + (g - 1 - b) % 8) := by
      rw [e, hg, show nI g - 1 = nI (g - 1) from pk_sub (b := 1) (by omega), pk_sub (by omega), oc_and7 (by omega), oc_m8, nI_add]
    rw [e2]
    refine ⟨vp_in_nI (by omega) (by omega), ?_⟩
    rw [nI_clamp (by omega)]
    exact p
theorem oc_y_bgN {post : Int32 → Prop} {c s f b g : Nat} (hc2 : c < 2) (hs : s < 3) (hf : f < 2) (h : ∀ P : Int32 → Prop, P 1 → wpY_isOpen P (n, hc, rl, jn, gd, lb, cS, cF, cL, cB, cT) (nI c) (nI s)) (hb : b < 8) (hg : gd ((c * 3 + s) * 2 + (1 - f)) = nI g) (hg2 : g < 2 ^ 30) (hn : ¬ b < g) (p : post (-7)) : wpY_byteGot post (n, hc, rl, jn, gd, lb, cS, cF, cL, cB, cT) (nI c) (nI s) (nI f) (nI b) := by
  unfold wpY_byteGot
  refine br_f (nI_pos (by omega)) (br_f ?_ (oc_y_got hc2 hs hf h (br_f ?_ p)))
  · exact fun z => absurd ((nI_ltI (a := 7) (by decide) (by omega)).mp z) (by omega)
  · rw [hg]
    exact nI_nlt (by omega) (by omega)
theorem oc_y_bg {post : Int32 → Prop} {c s f b g : Nat} (hc2 : c < 2) (hs : s < 3) (hf : f < 2) (h : ∀ P : Int32 → Prop, P 1 → wpY_isOpen P (n, hc, rl, jn, gd, lb, cS, cF, cL, cB, cT) (nI c) (nI s)) (hb : b < 8) (hg : gd ((c * 3 + s) * 2 + (1 - f)) = nI g) (hg2 : g < 2 ^ 30) (hn : b < g)
    (p : post (lb (((c * 3 + s) * 2 + (1 - f)) * 8 + b))) : wpY_byteGot post (n, hc, rl, jn, gd, lb, cS, cF, cL, cB, cT) (nI c) (nI s) (nI f) (nI b) := by
  unfold wpY_byteGot
  refine br_f (nI_pos (by omega)) (br_f ?_ (oc_y_got hc2 hs hf h (br_t ?_ ?_)))
  · exact fun z => absurd ((nI_ltI (a := 7) (by decide) (by omega)).mp z) (by omega)
  · rw [hg]
    exact nI_lt hn (by omega)
  · rw [oc_m3, oc_m2, oc_p1, oc_p0, oc_m8, oc_m8, nI_add, nI_add]
    match f, hf with
    | 0, _ =>
      refine br_t rfl ⟨vp_in_nI (by omega) (by omega), ?_⟩
      rw [nI_clamp (by omega)]
      exact p
    | 1, _ =>
      refine br_f (by decide) ⟨vp_in_nI (by omega) (by omega), ?_⟩
      rw [nI_clamp (by omega)]
      exact p
theorem oc_x_waC {post : Int32 → Prop} {x y z : Int32} (h : x < 0 ∨ 2 ≤ x) (p : post 0) : wpX_waiting post (hc, rh, so, sh, uw, gc, gb, ql, xS, xB, xT) x y z := by
  unfold wpX_waiting
  exact oc_x_cirB h (br_t rfl p)
theorem oc_x_waL {post : Int32 → Prop} {c : Nat} {y z : Int32} (hc2 : c < 2) (h : y < 0 ∨ 3 ≤ y) (p : post 0) : wpX_waiting post (hc, rh, so, sh, uw, gc, gb, ql, xS, xB, xT) (nI c) y z := by
  unfold wpX_waiting
  exact oc_x_cir hc2 (br_f (by decide) (oc_x_lnkB h (br_t rfl p)))
theorem oc_x_wa {post : Int32 → Prop} {c l f : Nat} (hc2 : c < 2) (hl : l < 3) (hf : f < 2) (p : post (ql ((c * 3 + l) * 2 + (1 - f)))) : wpX_waiting post (hc, rh, so, sh, uw, gc, gb, ql, xS, xB, xT) (nI c) (nI l) (nI f) := by
  unfold wpX_waiting
  refine oc_x_cir hc2 (br_f (by decide) (oc_x_lnk hl (br_f (by decide) (oc_x_que hf ⟨vp_in_nI (by omega) (by omega), ?_⟩))))
  rw [nI_clamp (by omega)]
  exact p
theorem oc_x_taR {post : Int32 → SX → Prop} {x y z b r : Int32} (h : ∀ P : Int32 → Prop, P r → wpX_cellRefusal P (hc, rh, so, sh, uw, gc, gb, ql, xS, xB, xT) x y z) (hr : ¬ r = 0) (p : post r (hc, rh, so, sh, uw, gc, gb, ql, xS, xB, xT)) : wpX_tamper post (hc, rh, so, sh, uw, gc, gb, ql, xS, xB, xT) x y z b := by
  unfold wpX_tamper
  exact h _ (br_f hr p)
theorem oc_y_taR {post : Int32 → SY → Prop} {x y z b r : Int32} (h : ∀ P : Int32 → Prop, P r → wpY_refusal P (n, hc, rl, jn, gd, lb, cS, cF, cL, cB, cT) x) (hr : ¬ 0 ≤ r) (p : post r (n, hc, rl, jn, gd, lb, cS, cF, cL, cB, cT)) : wpY_tamper post (n, hc, rl, jn, gd, lb, cS, cF, cL, cB, cT) x y z b := by
  unfold wpY_tamper
  exact h _ (br_f hr p)
theorem oc_y_taN {post : Int32 → SY → Prop} {c : Nat} {y z b : Int32} (hc2 : c < 2) (h0 : ¬ hc c = 0) (h : ∀ P : Int32 → Prop, P (-7) → wpY_oldest P (n, hc, rl, jn, gd, lb, cS, cF, cL, cB, cT) (nI c) y z) (p : post (-7) (n, hc, rl, jn, gd, lb, cS, cF, cL, cB, cT)) : wpY_tamper post (n, hc, rl, jn, gd, lb, cS, cF, cL, cB, cT) (nI c) y z b := by
  unfold wpY_tamper
  exact oc_y_ref hc2 h0 (br_t (by decide) (h _ (br_f (by decide) p)))
theorem oc_x_ta {post : Int32 → SX → Prop} {c l f : Nat} {b t : Int32} (hc2 : c < 2) (hl : l < 3) (hf : f < 2) (h : ∀ P : Int32 → Prop, P 0 → wpX_cellRefusal P (hc, rh, so, sh, uw, gc, gb, ql, xS, xB, xT) (nI c) (nI l) (nI f)) (ht : xT (((c * 3 + l) * 2 + (1 - f)) * 9) = t)
    (p : post 0 (hc, rh, so, sh, uw, gc, gb, ql, xS, xB, upd xT (((c * 3 + l) * 2 + (1 - f)) * 9) (t ^^^ (b &&& 255)))) : wpX_tamper post (hc, rh, so, sh, uw, gc, gb, ql, xS, xB, xT) (nI c) (nI l) (nI f) b := by
  unfold wpX_tamper
  have hi : vp_in (nI (((c * 3 + l) * 2 + (1 - f)) * 9)) 108 := vp_in_nI (by omega) (by omega)
  refine h _ (br_t rfl (oc_x_que hf (nm_r (e' := nI (((c * 3 + l) * 2 + (1 - f)) * 9)) (oc_m9 _) ⟨hi, hi, nm_r (e' := upd xT (((c * 3 + l) * 2 + (1 - f)) * 9) (t ^^^ (b &&& 255))) ?_ p⟩)))
  rw [nI_clamp (by omega), ht]
theorem oc_y_ta {post : Int32 → SY → Prop} {c a : Nat} {y z b t : Int32} (hc2 : c < 2) (h0 : ¬ hc c = 0) (ha : a < 36) (h : ∀ P : Int32 → Prop, P (nI a) → wpY_oldest P (n, hc, rl, jn, gd, lb, cS, cF, cL, cB, cT) (nI c) y z) (ht : cT a = t)
    (p : post 0 (n, hc, rl, jn, gd, lb, cS, cF, cL, cB, upd cT a (t ^^^ (b &&& 255)))) : wpY_tamper post (n, hc, rl, jn, gd, lb, cS, cF, cL, cB, cT) (nI c) y z b := by
  unfold wpY_tamper
  have hi : vp_in (nI a) 36 := vp_in_nI ha (by omega)
  refine oc_y_ref hc2 h0 (br_t (by decide) (h _ (br_t (nI_pos' (by omega)) ⟨hi, hi, nm_r (e' := upd cT a (t ^^^ (b &&& 255))) ?_ p⟩)))
  rw [nI_clamp (by omega), ht]
theorem oc_x_fl {post : Int32 → Prop} {c s f e : Nat} (hc2 : c < 2) (hs : s < 3) (he : (f = 1 ∧ e = 0) ∨ (f = 0 ∧ sh (c * 3 + s) = nI e)) (p : post (nI e)) : wpX_firstLink post (hc, rh, so, sh, uw, gc, gb, ql, xS, xB, xT) (nI c) (nI s) (nI f) := by
  rcases he with ⟨rfl, rfl⟩ | ⟨rfl, h⟩
  · exact oc_x_fl1 p
  · exact oc_x_fl0 hc2 hs (by rw [h]; exact p)
theorem oc_x_lauR {post : Int32 → SX → Prop} {x y b z r : Int32} (h : ∀ P : Int32 → Prop, P r → wpX_circuitRefusal P (hc, rh, so, sh, uw, gc, gb, ql, xS, xB, xT) x) (hr : ¬ r = 0) (p : post r (hc, rh, so, sh, uw, gc, gb, ql, xS, xB, xT)) : wpX_launch post (hc, rh, so, sh, uw, gc, gb, ql, xS, xB, xT) x y b z := by
  unfold wpX_launch
  exact h _ (br_f hr p)
theorem oc_x_lauC {post : Int32 → SX → Prop} {c : Nat} {y b z : Int32} (hc2 : c < 2) (h0 : ¬ hc c = 0) (h : ∀ P : Int32 → Prop, P 0 → wpX_isOpenStream P (hc, rh, so, sh, uw, gc, gb, ql, xS, xB, xT) (nI c) y) (p : post (-3) (hc, rh, so, sh, uw, gc, gb, ql, xS, xB, xT)) : wpX_launch post (hc, rh, so, sh, uw, gc, gb, ql, xS, xB, xT) (nI c) y b z := by
  unfold wpX_launch
  exact oc_x_ref hc2 h0 (br_t rfl (h _ (br_t rfl p)))
theorem oc_x_lauW {post : Int32 → SX → Prop} {c s f : Nat} {b : Int32} (hc2 : c < 2) (h0 : ¬ hc c = 0) (hs : s < 3) (hf : f < 2) (h : ∀ P : Int32 → Prop, P 1 → wpX_isOpenStream P (hc, rh, so, sh, uw, gc, gb, ql, xS, xB, xT) (nI c) (nI s)) (hw : uw ((c * 3 + s) * 2 + (1 - f)) = nI 3) (p : post (-6) (hc, rh, so, sh, uw, gc, gb, ql, xS, xB, xT)) : wpX_launch post (hc, rh, so, sh, uw, gc, gb, ql, xS, xB, xT) (nI c) (nI s) b (nI f) := by
  unfold wpX_launch
  refine oc_x_ref hc2 h0 (br_t rfl (h _ (br_f (by decide) (oc_x_way hf ⟨vp_in_nI (by omega) (by omega), br_f ?_ p⟩))))
  rw [nI_clamp (by omega), hw]
  decide
theorem oc_x_lau {post : Int32 → SX → Prop} {c s f e m t : Nat} {b : Int32} (hc2 : c < 2) (h0 : ¬ hc c = 0) (hs : s < 3) (hf : f < 2) (h : ∀ P : Int32 → Prop, P 1 → wpX_isOpenStream P (hc, rh, so, sh, uw, gc, gb, ql, xS, xB, xT) (nI c) (nI s)) (hw : uw ((c * 3 + s) * 2 + (1 - f)) = nI m) (hm : m < 3)
    (he : (f = 1 ∧ e = 0) ∨ (f = 0 ∧ sh (c * 3 + s) = nI e)) (he3 : e < 3) (hq : ql ((c * 3 + e) * 2 + (1 - f)) = nI t) (ht : t < 9)
    (p : post (nI (m + 1)) (hc, rh, so, sh, upd uw ((c * 3 + s) * 2 + (1 - f)) (nI (m + 1)), gc, gb, upd ql ((c * 3 + e) * 2 + (1 - f)) (nI (t + 1)), upd xS (((c * 3 + e) * 2 + (1 - f)) * 9 + t) (nI s), upd xB (((c * 3 + e) * 2 + (1 - f)) * 9 + t) (b &&& 255), upd xT (((c * 3 + e) * 2 + (1 - f)) * 9 + t) 0)) :
    wpX_launch post (hc, rh, so, sh, uw, gc, gb, ql, xS, xB, xT) (nI c) (nI s) b (nI f) := by
  unfold wpX_launch
  have ew : (nI ((c * 3 + s) * 2 + (1 - f))).toNatClampNeg = (c * 3 + s) * 2 + (1 - f) := nI_clamp (by omega)
  have hi : vp_in (nI ((c * 3 + s) * 2 + (1 - f))) 12 := vp_in_nI (by omega) (by omega)
  refine oc_x_ref hc2 h0 (br_t rfl (h _ (br_f (by decide) (oc_x_way hf ⟨hi, br_t ?_ (oc_x_fl hc2 hs he (oc_x_que hf (oc_x_app (by omega) ht hq ⟨hi, hi, nm_r (e' := upd uw ((c * 3 + s) * 2 + (1 - f)) (nI (m + 1))) ?_ ⟨hi, ?_⟩⟩)))⟩))))
  · rw [ew, hw]
    exact nI_lt (b := 3) hm (by decide)
  · rw [ew, hw, nI_1]
  · rw [ew, pk_us]
    exact p
theorem oc_y_stR {post : Int32 → SY → Prop} {x y b z r : Int32} (h : ∀ P : Int32 → Prop, P r → wpY_refusal P (n, hc, rl, jn, gd, lb, cS, cF, cL, cB, cT) x) (hr : ¬ 0 ≤ r) (p : post r (n, hc, rl, jn, gd, lb, cS, cF, cL, cB, cT)) : wpY_start post (n, hc, rl, jn, gd, lb, cS, cF, cL, cB, cT) x y b z := by
  unfold wpY_start
  exact h _ (br_f hr p)
theorem oc_y_stC {post : Int32 → SY → Prop} {c : Nat} {y b z : Int32} (hc2 : c < 2) (h0 : ¬ hc c = 0) (h : ∀ P : Int32 → Prop, P 0 → wpY_isOpen P (n, hc, rl, jn, gd, lb, cS, cF, cL, cB, cT) (nI c) y) (p : post (-3) (n, hc, rl, jn, gd, lb, cS, cF, cL, cB, cT)) : wpY_start post (n, hc, rl, jn, gd, lb, cS, cF, cL, cB, cT) (nI c) y b z := by
  unfold wpY_start
  exact oc_y_ref hc2 h0 (br_t (by decide) (h _ (br_t rfl p)))
theorem oc_y_stW {post : Int32 → SY → Prop} {c s f : Nat} {b : Int32} (hc2 : c < 2) (h0 : ¬ hc c = 0) (hs : s < 3) (hf : f < 2) (h : ∀ P : Int32 → Prop, P 1 → wpY_isOpen P (n, hc, rl, jn, gd, lb, cS, cF, cL, cB, cT) (nI c) (nI s))
    (hok : ∀ x ∈ L, oc_ok x) (hL : L.length ≤ 36) (hY : oc_Y L n cS cF cL cB cT) (hw : oc_n ((c * 3 + s) * 2 + (1 - f)) L = 3) (p : post (-6) (n, hc, rl, jn, gd, lb, cS, cF, cL, cB, cT)) : wpY_start post (n, hc, rl, jn, gd, lb, cS, cF, cL, cB, cT) (nI c) (nI s) b (nI f) := by
  unfold wpY_start
  refine oc_y_ref hc2 h0 (br_t (by decide) (h _ (br_f (by decide) (nm_r (e' := nI (c * 3 + s)) (oc_m3 c s) (oc_y_uw (L := L) (by omega) hf hok hL hY (br_t ?_ p))))))
  rw [hw]
  rfl
theorem oc_y_st {post : Int32 → SY → Prop} {c s f e : Nat} {b : Int32} (hc2 : c < 2) (h0 : ¬ hc c = 0) (hs : s < 3) (hf : f < 2) (h : ∀ P : Int32 → Prop, P 1 → wpY_isOpen P (nI L.length, hc, rl, jn, gd, lb, cS, cF, cL, cB, cT) (nI c) (nI s))
    (hok : ∀ x ∈ L, oc_ok x) (hL : L.length < 36) (hY : oc_Y L (nI L.length) cS cF cL cB cT) (hw : oc_n ((c * 3 + s) * 2 + (1 - f)) L < 3)
    (he : (f = 1 ∧ e = 0) ∨ (f = 0 ∧ jn (c * 3 + s) = nI e)) (he3 : e < 3)
    (p : post (nI (oc_n ((c * 3 + s) * 2 + (1 - f)) L + 1)) (nI (L.length + 1), hc, rl, jn, gd, lb, upd cS L.length (nI (c * 3 + s)), upd cF L.length (nI f), upd cL L.length (nI e), upd cB L.length (b &&& 255), upd cT L.length 0)) :
    wpY_start post (nI L.length, hc, rl, jn, gd, lb, cS, cF, cL, cB, cT) (nI c) (nI s) b (nI f) := by
  unfold wpY_start
  have hY2 := oc_Y_push (c * 3 + s, f, e, b &&& 255, 0) hY
  have hok2 : ∀ x ∈ L ++ [(c * 3 + s, f, e, b &&& 255, (0 : Int32))], oc_ok x := by
    intro x hx
    rcases List.mem_append.mp hx with hx | hx
    · exact hok x hx
    · rw [List.mem_singleton.mp hx]
      exact ⟨by show c * 3 + s < 6; omega, hf, he3⟩
  have g : wY_start_70 post b (nI f) (nI (c * 3 + s)) (nI e) (nI f) (nI (c * 3 + s)) (nI L.length) hc rl jn gd lb cS cF cL cB cT := by
    unfold wY_start_70
    refine oc_y_app hL hf ?_
    refine oc_y_uw (L := L ++ [(c * 3 + s, f, e, b &&& 255, 0)]) (by omega) hf hok2 (by rw [List.length_append, List.length_singleton]; omega) hY2 ?_
    rw [oc_n_app, if_pos (show oc_wi (c * 3 + s, f, e, b &&& 255, 0) = (c * 3 + s) * 2 + (1 - f) from rfl)]
    exact p
  refine oc_y_ref hc2 h0 (br_t (by decide) (h _ (br_f (by decide) (nm_r (e' := nI (c * 3 + s)) (oc_m3 c s) (oc_y_uw (L := L) (by omega) hf hok (by omega) hY (br_f ?_ ?_))))))
  · exact fun z => absurd ((nI_eq (b := 3) (by omega) (by decide)).mp z) (by omega)
  · rcases he with ⟨rfl, rfl⟩ | ⟨rfl, he⟩
    · exact br_f (by decide) g
    · refine br_t rfl ⟨vp_in_nI (by omega) (by omega), ?_⟩
      rw [nI_clamp (by omega), he]
      exact g
theorem oc_launch (K : oc_K k N J G L hc rh so sh uw gc gb ql xS xB xT rl jn gd lb) (hY : oc_Y L n cS cF cL cB cT) {f : Nat} (hf : f < 2) (x y b : Int32) :
    ∃ (r : Int32) (u' : SX) (v' : SY), (∀ post : Int32 → SX → Prop, post r u' → wpX_launch post (hc, rh, so, sh, uw, gc, gb, ql, xS, xB, xT) x y b (nI f)) ∧ (∀ post : Int32 → SY → Prop, post r v' → wpY_start post (n, hc, rl, jn, gd, lb, cS, cF, cL, cB, cT) x y b (nI f)) ∧ i_Rel (k + 5) u' v' := by
  have hok := oc_L_ok K.2.2.2.2.2.1
  have hU := K.2.2.2.2.2.2.1
  have hL := oc_U_len hU hok
  rcases oc_refus (rh := rh) (so := so) (sh := sh) (uw := uw) (gc := gc) (gb := gb) (ql := ql) (xS := xS) (xB := xB) (xT := xT) (n := n) (rl := rl) (jn := jn) (gd := gd) (lb := lb) (cS := cS) (cF := cF) (cL := cL) (cB := cB) (cT := cT) K.1 x with ⟨r, h1, h2, h3, h4⟩ | ⟨c, hc2, rfl, hN, h0⟩
  · exact ⟨r, _, _, fun post p => oc_x_lauR h3 h1 p, fun post p => oc_y_stR h4 h2 p, oc_mk5 K hY⟩
  · rcases oc_isop (rh := rh) (uw := uw) (gc := gc) (gb := gb) (ql := ql) (xS := xS) (xB := xB) (xT := xT) (n := n) (rl := rl) (gd := gd) (lb := lb) (cS := cS) (cF := cF) (cL := cL) (cB := cB) (cT := cT) K.1 K.2.2.1 (nI c) y with ⟨h1, h2⟩ | ⟨c', s, j, hc3, hs, ec, rfl, hj, j1, j2, j3, j4, j5, h1, h2⟩
    · exact ⟨-3, _, _, fun post p => oc_x_lauC hc2 h0 h1 p, fun post p => oc_y_stC hc2 h0 h2 p, oc_mk5 K hY⟩
    · have ec2 : c = c' := (nI_eq (by omega) (by omega)).mp ec
      subst ec2
      obtain ⟨w1, w2⟩ := hU ((c * 3 + s) * 2 + (1 - f)) (by omega)
      by_cases hw : oc_n ((c * 3 + s) * 2 + (1 - f)) L = 3
      · exact ⟨-6, _, _, fun post p => oc_x_lauW hc2 h0 hs hf h1 (by rw [w1, hw]) p, fun post p => oc_y_stW hc2 h0 hs hf h2 hok hL hY hw p, oc_mk5 K hY⟩
      · obtain ⟨e, he3, heJ, heX, heY⟩ : ∃ e, e < 3 ∧ e < j + 1 ∧ ((f = 1 ∧ e = 0) ∨ (f = 0 ∧ sh (c * 3 + s) = nI e)) ∧ ((f = 1 ∧ e = 0) ∨ (f = 0 ∧ jn (c * 3 + s) = nI e)) := by
          rcases oc_f2 hf with rfl | rfl
          · exact ⟨j, hj, by omega, Or.inr ⟨rfl, j2⟩, Or.inr ⟨rfl, j3⟩⟩
          · exact ⟨0, by omega, by omega, Or.inl ⟨rfl, rfl⟩, Or.inl ⟨rfl, rfl⟩⟩
        have hn := hY.1
        subst hn
        have hd3 : (c * 3 + s) / 3 = c := by omega
        have hm3 : (c * 3 + s) % 3 = s := by omega
        obtain ⟨s1, s2, s3⟩ := oc_K_send (x := (c * 3 + s, f, e, b &&& 255, 0)) (q := (c * 3 + e) * 2 + (1 - f)) (w := (c * 3 + s) * 2 + (1 - f)) K ⟨by show c * 3 + s < 6; omega, hf, he3⟩ (by show e < J (c * 3 + s); omega) (by show ((c * 3 + s) / 3 * 3 + e) * 2 + (1 - f) = _; rw [hd3]) rfl (by omega)
        have q0 := (K.2.2.2.2.2.2.2 ((c * 3 + e) * 2 + (1 - f)) (by omega)).1
        dsimp only at s3
        rw [hm3] at s3
        exact ⟨_, _, _, fun post p => oc_x_lau hc2 h0 hs hf h1 w1 (by omega) heX he3 q0 s1 p, fun post p => oc_y_st hc2 h0 hs hf h2 hok s2 hY (by omega) heY he3 p, oc_mk s3 (oc_Y_push (c * 3 + s, f, e, b &&& 255, 0) hY)⟩
end
theorem i_vc_got {k : Nat} {u : SX} {v : SY} (I : i_Rel k u v) (hk : k + 5 ≤ 2561) (v1 : Int32) (v2 : Int32) (v3 : Int32) : wpX_got (fun r => wpY_got (fun r' => r' = r ∧ i_Rel (k + 5) u v) v v1 v2 (lw_bz v3)) u v1 v2 (lw_bz v3) := by
  obtain ⟨hc, rh, so, sh, uw, gc, gb, ql, xS, xB, xT⟩ := u
  obtain ⟨n, hd, rl, jn, gd, lb, cS, cF, cL, cB, cT⟩ := v
  obtain ⟨rfl, N, J, G, L, K, hY⟩ := I
  obtain ⟨f, hf, ef⟩ := oc_bz v3
  rw [ef]
  rcases oc_isop K.1 K.2.2.1 v1 v2 with ⟨h1, h2⟩ | ⟨c, s, j, hc2, hs, rfl, rfl, hj, j1, j2, j3, j4, j5, h1, h2⟩
  · exact oc_x_gotC h1 (oc_y_gotC h2 ⟨rfl, oc_mk5 K hY⟩)
  · obtain ⟨g1, g2, g3, g4⟩ := K.2.2.2.1 ((c * 3 + s) * 2 + (1 - f)) (by omega)
    have e : ((c * 3 + s) * 2 + (1 - f)) / 2 = c * 3 + s := by omega
    rw [e] at g4
    exact oc_x_got hc2 hs hf h1 (oc_y_got hc2 hs hf h2 ⟨by rw [g1, g4 (by omega)], oc_mk5 K hY⟩)
theorem i_vc_byteGot {k : Nat} {u : SX} {v : SY} (I : i_Rel k u v) (hk : k + 5 ≤ 2561) (v1 : Int32) (v2 : Int32) (v3 : Int32) (v4 : Int32) : wpX_byteGot (fun r => wpY_byteGot (fun r' => r' = r ∧ i_Rel (k + 5) u v) v v1 v2 (lw_bz v3) v4) u v1 v2 (lw_bz v3) v4 := by
  obtain ⟨hc, rh, so, sh, uw, gc, gb, ql, xS, xB, xT⟩ := u
  obtain ⟨n, hd, rl, jn, gd, lb, cS, cF, cL, cB, cT⟩ := v
  obtain ⟨rfl, N, J, G, L, K, hY⟩ := I
  obtain ⟨f, hf, ef⟩ := oc_bz v3
  rw [ef]
  rcases oc_isop K.1 K.2.2.1 v1 v2 with ⟨h1, h2⟩ | ⟨c, s, j, hc2, hs, rfl, rfl, hj, j1, j2, j3, j4, j5, h1, h2⟩
  · rcases oc_ixo v4 8 (by decide) with h | ⟨b, hb, rfl⟩
    · exact oc_x_bgC h1 (oc_y_bgB h ⟨rfl, oc_mk5 K hY⟩)
    · exact oc_x_bgC h1 (oc_y_bgC hb h2 ⟨rfl, oc_mk5 K hY⟩)
  · rcases oc_ixo v4 8 (by decide) with h | ⟨b, hb, rfl⟩
    · exact oc_x_bgB hf h1 h (oc_y_bgB h ⟨rfl, oc_mk5 K hY⟩)
    · obtain ⟨g1, g2, g3, g4⟩ := K.2.2.2.1 ((c * 3 + s) * 2 + (1 - f)) (by omega)
      have e : ((c * 3 + s) * 2 + (1 - f)) / 2 = c * 3 + s := by omega
      rw [e] at g4
      have g5 := g4 (by omega)
      by_cases hn : b < G ((c * 3 + s) * 2 + (1 - f))
      · exact oc_x_bg hc2 hs hf h1 hb g1 (by omega) hn (oc_y_bg hc2 hs hf h2 hb g5 (by omega) hn ⟨(K.2.2.2.2.1 _ b (by omega) hb hn).symm, oc_mk5 K hY⟩)
      · exact oc_x_bgN hc2 hs hf h1 hb g1 (by omega) hn (oc_y_bgN hc2 hs hf h2 hb g5 (by omega) hn ⟨rfl, oc_mk5 K hY⟩)
theorem i_vc_waiting {k : Nat} {u : SX} {v : SY} (I : i_Rel k u v) (hk : k + 5 ≤ 2561) (v1 : Int32) (v2 : Int32) (v3 : Int32) : wpX_waiting (fun r => wpY_waiting (fun r' => r' = r ∧ i_Rel (k + 5) u v) v v1 v2 (lw_bz v3)) u v1 v2 (lw_bz v3) := by
  obtain ⟨hc, rh, so, sh, uw, gc, gb, ql, xS, xB, xT⟩ := u
  obtain ⟨n, hd, rl, jn, gd, lb, cS, cF, cL, cB, cT⟩ := v
  obtain ⟨rfl, N, J, G, L, K, hY⟩ := I
  obtain ⟨f, hf, ef⟩ := oc_bz v3
  rw [ef]
  have hok := oc_L_ok K.2.2.2.2.2.1
  have hU := K.2.2.2.2.2.2.1
  have hL := oc_U_len hU hok
  have e0 : L.countP (fun _ => false) = 0 := by simp
  rcases oc_ixo v1 2 (by decide) with h | ⟨c, hc2, rfl⟩
  · refine oc_x_waC h (oc_y_wait (fun _ => false) hf hok hL hY (fun y hy => ⟨fun z => absurd z (by decide), fun m => ?_⟩) ⟨by rw [e0]; rfl, oc_mk5 K hY⟩)
    have := (hok y hy).1
    exact absurd m.1 (oc_neI (N := 2) (by omega) (by decide) h)
  · rcases oc_ixo v2 3 (by decide) with h | ⟨l, hl, rfl⟩
    · refine oc_x_waL hc2 h (oc_y_wait (fun _ => false) hf hok hL hY (fun y hy => ⟨fun z => absurd z (by decide), fun m => ?_⟩) ⟨by rw [e0]; rfl, oc_mk5 K hY⟩)
      exact absurd m.2.1 (oc_neI (N := 3) (hok y hy).2.2 (by decide) h)
    · refine oc_x_wa hc2 hl hf (oc_y_wait (fun y => oc_qi y == (c * 3 + l) * 2 + (1 - f)) hf hok hL hY (fun y hy => ?_) ⟨?_, oc_mk5 K hY⟩)
      · rw [oc_M_qi (hok y hy) hc2 hl hf]
        simp
      · rw [(K.2.2.2.2.2.2.2 ((c * 3 + l) * 2 + (1 - f)) (by omega)).1, List.countP_eq_length_filter]
        rfl
theorem i_vc_tamper {k : Nat} {u : SX} {v : SY} (I : i_Rel k u v) (hk : k + 5 ≤ 2561) (v1 : Int32) (v2 : Int32) (v3 : Int32) (v4 : Int32) : wpX_tamper (fun r u' => wpY_tamper (fun r' v' => r' = r ∧ i_Rel (k + 5) u' v') v v1 v2 (lw_bz v3) v4) u v1 v2 (lw_bz v3) v4 := by
  obtain ⟨hc, rh, so, sh, uw, gc, gb, ql, xS, xB, xT⟩ := u
  obtain ⟨n, hd, rl, jn, gd, lb, cS, cF, cL, cB, cT⟩ := v
  obtain ⟨rfl, N, J, G, L, K, hY⟩ := I
  obtain ⟨f, hf, ef⟩ := oc_bz v3
  rw [ef]
  have hok := oc_L_ok K.2.2.2.2.2.1
  have hU := K.2.2.2.2.2.2.1
  have hL := oc_U_len hU hok
  rcases oc_refus K.1 v1 with ⟨r, h1, h2, h3, h4⟩ | ⟨c, hc2, rfl, hN, h0⟩
  · exact oc_x_taR (r := r) (fun P p => oc_x_crR h3 h1 p) h1 (oc_y_taR h4 h2 ⟨rfl, oc_mk5 K hY⟩)
  · rcases oc_cell K hY hc2 h0 hf v2 with ⟨h1, h2⟩ | ⟨l, A, x, B, hl, rfl, rfl, hx, hA, h1, h2⟩
    · exact oc_x_taR h1 (by decide) (oc_y_taN hc2 h0 h2 ⟨rfl, oc_mk5 K hY⟩)
    · have hq : (c * 3 + l) * 2 + (1 - f) < 12 := by omega
      obtain ⟨a1, a2, a3, a4, a5⟩ := oc_X_at K.2.2.2.2.2.2.2 hq hx hA
      have ha : A.length < 36 := by
        rw [List.length_append, List.length_cons] at hL
        omega
      obtain ⟨b1, b2, b3, b4, b5⟩ := oc_Y_at hY (oc_mid A B x)
      exact oc_x_ta hc2 hl hf h1 a4 (oc_y_ta hc2 h0 ha h2 b5 ⟨rfl, oc_mk (oc_K_set K _ hq hx hA) (oc_Y_set _ hY)⟩)
theorem i_vc_send {k : Nat} {u : SX} {v : SY} (I : i_Rel k u v) (hk : k + 5 ≤ 2561) (v1 : Int32) (v2 : Int32) (v3 : Int32) : wpX_send (fun r u' => wpY_send (fun r' v' => r' = r ∧ i_Rel (k + 5) u' v') v v1 v2 v3) u v1 v2 v3 := by
  obtain ⟨hc, rh, so, sh, uw, gc, gb, ql, xS, xB, xT⟩ := u
  obtain ⟨n, hd, rl, jn, gd, lb, cS, cF, cL, cB, cT⟩ := v
  obtain ⟨rfl, N, J, G, L, K, hY⟩ := I
  obtain ⟨r, u', v', hX, hW, hR⟩ := oc_launch K hY (f := 1) (by decide) v1 v2 v3
  obtain ⟨a1, a2, a3, a4, a5, a6, a7, a8, a9, a10, a11⟩ := u'
  obtain ⟨b1, b2, b3, b4, b5, b6, b7, b8, b9, b10, b11⟩ := v'
  unfold wpX_send
  refine hX _ ?_
  unfold wpY_send
  exact hW _ ⟨rfl, hR⟩
theorem i_vc_reply {k : Nat} {u : SX} {v : SY} (I : i_Rel k u v) (hk : k + 5 ≤ 2561) (v1 : Int32) (v2 : Int32) (v3 : Int32) : wpX_reply (fun r u' => wpY_reply (fun r' v' => r' = r ∧ i_Rel (k + 5) u' v') v v1 v2 v3) u v1 v2 v3 := by
  obtain ⟨hc, rh, so, sh, uw, gc, gb, ql, xS, xB, xT⟩ := u
  obtain ⟨n, hd, rl, jn, gd, lb, cS, cF, cL, cB, cT⟩ := v
  obtain ⟨rfl, N, J, G, L, K, hY⟩ := I
  obtain ⟨r, u', v', hX, hW, hR⟩ := oc_launch K hY (f := 0) (by decide) v1 v2 v3
  obtain ⟨a1, a2, a3, a4, a5, a6, a7, a8, a9, a10, a11⟩ := u'
  obtain ⟨b1, b2, b3, b4, b5, b6, b7, b8, b9, b10, b11⟩ := v'
  unfold wpX_reply
  refine hX _ ?_
  unfold wpY_reply
  exact hW _ ⟨rfl, hR⟩
