/-! ===== move ===== -/
section
variable {k : Nat} {N J G : Nat → Nat} {L : List oc_C} {hc rh so sh uw gc gb ql xS xB xT rl jn gd lb cS cF cL cB cT : Nat → Int32} {n : Int32}
theorem oc_x_ll {post : Int32 → Prop} {c s f e : Nat} (hc2 : c < 2) (hs : s < 3) (he : (f = 0 ∧ e = 0) ∨ (f = 1 ∧ sh (c * 3 + s) = nI e)) (p : post (nI e)) : wpX_lastLink post (hc, rh, so, sh, uw, gc, gb, ql, xS, xB, xT) (nI c) (nI s) (nI f) := by
  rcases he with ⟨rfl, rfl⟩ | ⟨rfl, h⟩
  · exact oc_x_ll0 p
  · exact oc_x_ll1 hc2 hs (by rw [h]; exact p)
theorem oc_x_mvR {post : Int32 → SX → Prop} {x y z r : Int32} (h : ∀ P : Int32 → Prop, P r → wpX_cellRefusal P (hc, rh, so, sh, uw, gc, gb, ql, xS, xB, xT) x y z) (hr : ¬ r = 0) (p : post r (hc, rh, so, sh, uw, gc, gb, ql, xS, xB, xT)) : wpX_move post (hc, rh, so, sh, uw, gc, gb, ql, xS, xB, xT) x y z := by
  unfold wpX_move
  exact h _ (br_f hr p)
theorem oc_x_mv1 {post : Int32 → SX → Prop} {c l f s e m g w v : Nat} {b : Int32} (hc2 : c < 2) (hl : l < 3) (hf : f < 2) (hs : s < 3) (h : ∀ P : Int32 → Prop, P 0 → wpX_cellRefusal P (hc, rh, so, sh, uw, gc, gb, ql, xS, xB, xT) (nI c) (nI l) (nI f)) (hw : (c * 3 + s) * 2 + (1 - f) = w)
    (hq : ql ((c * 3 + l) * 2 + (1 - f)) = nI (m + 1)) (hm : m < 9) (hS : xS (((c * 3 + l) * 2 + (1 - f)) * 9) = nI s) (hB : xB (((c * 3 + l) * 2 + (1 - f)) * 9) = b) (hT : xT (((c * 3 + l) * 2 + (1 - f)) * 9) = 0)
    (he : (f = 0 ∧ e = 0) ∨ (f = 1 ∧ sh (c * 3 + s) = nI e)) (hle : l = e) (hgc : gc w = nI g) (hg : g < 2 ^ 30) (hu : uw w = nI (v + 1))
    (p : post 1 (hc, rh, so, sh, upd uw w (nI v), upd gc w (nI (g + 1)), upd gb (w * 8 + g % 8) b, upd ql ((c * 3 + l) * 2 + (1 - f)) (nI m), oc_sh xS (((c * 3 + l) * 2 + (1 - f)) * 9) (((c * 3 + l) * 2 + (1 - f)) * 9 + m), oc_sh xB (((c * 3 + l) * 2 + (1 - f)) * 9) (((c * 3 + l) * 2 + (1 - f)) * 9 + m), oc_sh xT (((c * 3 + l) * 2 + (1 - f)) * 9) (((c * 3 + l) * 2 + (1 - f)) * 9 + m))) :
    wpX_move post (hc, rh, so, sh, uw, gc, gb, ql, xS, xB, xT) (nI c) (nI l) (nI f) := by
  unfold wpX_move
  have hi : vp_in (nI (((c * 3 + l) * 2 + (1 - f)) * 9)) 108 := vp_in_nI (by omega) (by omega)
  have e9 : (nI (((c * 3 + l) * 2 + (1 - f)) * 9)).toNatClampNeg = ((c * 3 + l) * 2 + (1 - f)) * 9 := nI_clamp (by omega)
  refine h _ (br_t rfl (oc_x_que hf (nm_r (e' := nI (((c * 3 + l) * 2 + (1 - f)) * 9)) (oc_m9 _) ⟨hi, nm_r (e' := nI s) (by rw [e9, hS]) ⟨hi, nm_r (e' := b) (by rw [e9, hB]) ⟨hi, nm_r (e' := 0) (by rw [e9, hT]) (oc_x_rem (by omega) hm hq ?_)⟩⟩⟩)))
  refine oc_x_ll hc2 hs he (br_t (by rw [hle]) (br_t rfl (oc_x_way hf ?_)))
  rw [hw]
  exact oc_x_del (by omega) hg hgc hu p
theorem oc_x_mv2 {post : Int32 → SX → Prop} {c l f s e m : Nat} {b t : Int32} (hc2 : c < 2) (hl : l < 3) (hf : f < 2) (hs : s < 3) (h : ∀ P : Int32 → Prop, P 0 → wpX_cellRefusal P (hc, rh, so, sh, uw, gc, gb, ql, xS, xB, xT) (nI c) (nI l) (nI f))
    (hq : ql ((c * 3 + l) * 2 + (1 - f)) = nI (m + 1)) (hm : m < 9) (hS : xS (((c * 3 + l) * 2 + (1 - f)) * 9) = nI s) (hB : xB (((c * 3 + l) * 2 + (1 - f)) * 9) = b) (hT : xT (((c * 3 + l) * 2 + (1 - f)) * 9) = t)
    (he : (f = 0 ∧ e = 0) ∨ (f = 1 ∧ sh (c * 3 + s) = nI e)) (hle : l = e) (ht : ¬ t = 0)
    (p : post 2 (upd hc c 0, oc_fl rh (c * 5) (c * 5 + 5) 0, oc_fl so (c * 3) (c * 3 + 3) 0, sh, oc_fl uw (c * 6) (c * 6 + 6) 0, oc_fl gc (c * 6) (c * 6 + 6) 0, gb, oc_fl (upd ql ((c * 3 + l) * 2 + (1 - f)) (nI m)) (c * 6) (c * 6 + 6) 0, oc_sh xS (((c * 3 + l) * 2 + (1 - f)) * 9) (((c * 3 + l) * 2 + (1 - f)) * 9 + m), oc_sh xB (((c * 3 + l) * 2 + (1 - f)) * 9) (((c * 3 + l) * 2 + (1 - f)) * 9 + m), oc_sh xT (((c * 3 + l) * 2 + (1 - f)) * 9) (((c * 3 + l) * 2 + (1 - f)) * 9 + m))) :
    wpX_move post (hc, rh, so, sh, uw, gc, gb, ql, xS, xB, xT) (nI c) (nI l) (nI f) := by
  unfold wpX_move
  have hi : vp_in (nI (((c * 3 + l) * 2 + (1 - f)) * 9)) 108 := vp_in_nI (by omega) (by omega)
  have e9 : (nI (((c * 3 + l) * 2 + (1 - f)) * 9)).toNatClampNeg = ((c * 3 + l) * 2 + (1 - f)) * 9 := nI_clamp (by omega)
  refine h _ (br_t rfl (oc_x_que hf (nm_r (e' := nI (((c * 3 + l) * 2 + (1 - f)) * 9)) (oc_m9 _) ⟨hi, nm_r (e' := nI s) (by rw [e9, hS]) ⟨hi, nm_r (e' := b) (by rw [e9, hB]) ⟨hi, nm_r (e' := t) (by rw [e9, hT]) (oc_x_rem (by omega) hm hq ?_)⟩⟩⟩)))
  exact oc_x_ll hc2 hs he (br_t (by rw [hle]) (br_f ht (oc_x_td hc2 p)))
theorem oc_x_mv0 {post : Int32 → SX → Prop} {c l f s e m l2 m2 : Nat} {b t : Int32} (hc2 : c < 2) (hl : l < 3) (hf : f < 2) (hs : s < 3) (h : ∀ P : Int32 → Prop, P 0 → wpX_cellRefusal P (hc, rh, so, sh, uw, gc, gb, ql, xS, xB, xT) (nI c) (nI l) (nI f))
    (hq : ql ((c * 3 + l) * 2 + (1 - f)) = nI (m + 1)) (hm : m < 9) (hS : xS (((c * 3 + l) * 2 + (1 - f)) * 9) = nI s) (hB : xB (((c * 3 + l) * 2 + (1 - f)) * 9) = b) (hT : xT (((c * 3 + l) * 2 + (1 - f)) * 9) = t)
    (he : (f = 0 ∧ e = 0) ∨ (f = 1 ∧ sh (c * 3 + s) = nI e)) (he3 : e < 3) (hle : ¬ l = e) (h2 : (f = 0 ∧ l = l2 + 1) ∨ (f = 1 ∧ l2 = l + 1)) (hl2 : l2 < 3)
    (hq2 : (upd ql ((c * 3 + l) * 2 + (1 - f)) (nI m)) ((c * 3 + l2) * 2 + (1 - f)) = nI m2) (hm2 : m2 < 9)
    (p : post 0 (hc, rh, so, sh, uw, gc, gb, upd (upd ql ((c * 3 + l) * 2 + (1 - f)) (nI m)) ((c * 3 + l2) * 2 + (1 - f)) (nI (m2 + 1)), upd (oc_sh xS (((c * 3 + l) * 2 + (1 - f)) * 9) (((c * 3 + l) * 2 + (1 - f)) * 9 + m)) (((c * 3 + l2) * 2 + (1 - f)) * 9 + m2) (nI s), upd (oc_sh xB (((c * 3 + l) * 2 + (1 - f)) * 9) (((c * 3 + l) * 2 + (1 - f)) * 9 + m)) (((c * 3 + l2) * 2 + (1 - f)) * 9 + m2) b, upd (oc_sh xT (((c * 3 + l) * 2 + (1 - f)) * 9) (((c * 3 + l) * 2 + (1 - f)) * 9 + m)) (((c * 3 + l2) * 2 + (1 - f)) * 9 + m2) t)) :
    wpX_move post (hc, rh, so, sh, uw, gc, gb, ql, xS, xB, xT) (nI c) (nI l) (nI f) := by
  unfold wpX_move
  have hi : vp_in (nI (((c * 3 + l) * 2 + (1 - f)) * 9)) 108 := vp_in_nI (by omega) (by omega)
  have e9 : (nI (((c * 3 + l) * 2 + (1 - f)) * 9)).toNatClampNeg = ((c * 3 + l) * 2 + (1 - f)) * 9 := nI_clamp (by omega)
  refine h _ (br_t rfl (oc_x_que hf (nm_r (e' := nI (((c * 3 + l) * 2 + (1 - f)) * 9)) (oc_m9 _) ⟨hi, nm_r (e' := nI s) (by rw [e9, hS]) ⟨hi, nm_r (e' := b) (by rw [e9, hB]) ⟨hi, nm_r (e' := t) (by rw [e9, hT]) (oc_x_rem (by omega) hm hq ?_)⟩⟩⟩)))
  refine oc_x_ll hc2 hs he (br_f (fun z => hle ((nI_eq (by omega) (by omega)).mp z)) ?_)
  rcases h2 with ⟨rfl, rfl⟩ | ⟨rfl, rfl⟩
  · refine br_t rfl ?_
    rw [nI_pred]
    unfold wX_move_91
    exact oc_x_que (f := 0) hf (oc_x_app (by omega) hm2 hq2 p)
  · refine br_f (by decide) ?_
    rw [nI_1]
    unfold wX_move_91
    exact oc_x_que (f := 1) hf (oc_x_app (by omega) hm2 hq2 p)
theorem oc_y_mvR {post : Int32 → SY → Prop} {x y z r : Int32} (h : ∀ P : Int32 → Prop, P r → wpY_refusal P (n, hc, rl, jn, gd, lb, cS, cF, cL, cB, cT) x) (hr : ¬ 0 ≤ r) (p : post r (n, hc, rl, jn, gd, lb, cS, cF, cL, cB, cT)) : wpY_move post (n, hc, rl, jn, gd, lb, cS, cF, cL, cB, cT) x y z := by
  unfold wpY_move
  exact h _ (br_f hr p)
theorem oc_y_mvN {post : Int32 → SY → Prop} {c : Nat} {y z : Int32} (hc2 : c < 2) (h0 : ¬ hc c = 0) (h : ∀ P : Int32 → Prop, P (-7) → wpY_oldest P (n, hc, rl, jn, gd, lb, cS, cF, cL, cB, cT) (nI c) y z) (p : post (-7) (n, hc, rl, jn, gd, lb, cS, cF, cL, cB, cT)) : wpY_move post (n, hc, rl, jn, gd, lb, cS, cF, cL, cB, cT) (nI c) y z := by
  unfold wpY_move
  exact oc_y_ref hc2 h0 (br_t (by decide) (h _ (br_f (by decide) p)))
/-- down to the cell's being taken out -/
theorem oc_y_mvP {post : Int32 → SY → Prop} {c l f e a S : Nat} {b t : Int32} (hc2 : c < 2) (h0 : ¬ hc c = 0) (hl : l < 3) (he3 : e < 3) (hf : f < 2) (h : ∀ P : Int32 → Prop, P (nI a) → wpY_oldest P (n, hc, rl, jn, gd, lb, cS, cF, cL, cB, cT) (nI c) (nI l) (nI f)) (ha : a < 36)
    (hS : cS a = nI S) (hS6 : S < 6) (hB : cB a = b) (hT : cT a = t) (he : (f = 0 ∧ e = 0) ∨ (f = 1 ∧ jn S = nI e))
    (p1 : l = e → wY_move_83 post (nI c) (nI l) (nI f) (nI a) (nI S) b t 1 n hc rl jn gd lb cS cF cL cB cT) (p0 : ¬ l = e → wY_move_83 post (nI c) (nI l) (nI f) (nI a) (nI S) b t 0 n hc rl jn gd lb cS cF cL cB cT) :
    wpY_move post (n, hc, rl, jn, gd, lb, cS, cF, cL, cB, cT) (nI c) (nI l) (nI f) := by
  unfold wpY_move
  have hi : vp_in (nI a) 36 := vp_in_nI ha (by omega)
  have ea : (nI a).toNatClampNeg = a := nI_clamp (by omega)
  have g : wY_move_75 post (nI c) (nI l) (nI f) (nI a) (nI S) b t (nI e) (nI l) n hc rl jn gd lb cS cF cL cB cT := by
    unfold wY_move_75
    exact br_c (fun z => p1 ((nI_eq (by omega) (by omega)).mp z)) (fun z => p0 (fun y => z (by rw [y])))
  refine oc_y_ref hc2 h0 (br_t (by decide) (h _ (br_t (nI_pos' (by omega)) ⟨hi, nm_r (e' := nI S) (by rw [ea, hS]) ⟨hi, nm_r (e' := b) (by rw [ea, hB]) ⟨hi, nm_r (e' := t) (by rw [ea, hT]) ?_⟩⟩⟩)))
  rcases he with ⟨rfl, rfl⟩ | ⟨rfl, he⟩
  · exact br_t rfl g
  · refine br_f (by decide) ⟨vp_in_nI hS6 (by omega), ?_⟩
    rw [nI_clamp (by omega), he]
    exact g
theorem oc_y_mv0 {post : Int32 → SY → Prop} {c l f l2 a m S : Nat} {b t : Int32} (hf : f < 2) (hl : l < 3) (ha : a ≤ m) (hm : m < 36) (hF : ∀ i, i ≤ m → vp_nar .boolean (cF i) = cF i) (h2 : (f = 0 ∧ l = l2 + 1) ∨ (f = 1 ∧ l2 = l + 1))
    (p : post 0 (nI (m + 1), hc, rl, jn, gd, lb, upd (oc_sh cS a m) m (nI S), upd (oc_sh cF a m) m (nI f), upd (oc_sh cL a m) m (nI l2), upd (oc_sh cB a m) m b, upd (oc_sh cT a m) m t)) :
    wY_move_83 post (nI c) (nI l) (nI f) (nI a) (nI S) b t 0 (nI (m + 1)) hc rl jn gd lb cS cF cL cB cT := by
  unfold wY_move_83
  refine oc_y_take ha hm hF (br_t rfl ?_)
  rcases h2 with ⟨rfl, rfl⟩ | ⟨rfl, rfl⟩
  · refine br_t rfl ?_
    rw [nI_pred]
    unfold wY_move_113
    exact oc_y_app hm (f := 0) hf p
  · refine br_f (by decide) ?_
    rw [nI_1]
    unfold wY_move_113
    exact oc_y_app hm (f := 1) hf p
theorem oc_y_mv1 {post : Int32 → SY → Prop} {c l f a m S w g : Nat} {b : Int32} (hf : f < 2) (ha : a ≤ m) (hm : m < 36) (hF : ∀ i, i ≤ m → vp_nar .boolean (cF i) = cF i) (hS : S < 6) (hw : S * 2 + (1 - f) = w) (hg : gd w = nI g)
    (p : post 1 (nI m, hc, rl, jn, upd gd w (nI (g + 1)), upd (oc_sr lb (w * 8) 0) (w * 8) b, oc_sh cS a m, oc_sh cF a m, oc_sh cL a m, oc_sh cB a m, oc_sh cT a m)) :
    wY_move_83 post (nI c) (nI l) (nI f) (nI a) (nI S) b 0 1 (nI (m + 1)) hc rl jn gd lb cS cF cL cB cT := by
  unfold wY_move_83
  refine oc_y_take ha hm hF (br_f (by decide) (br_t rfl ?_))
  rw [oc_m2]
  rcases oc_f2 hf with rfl | rfl
  · refine br_t rfl ?_
    unfold wY_move_149
    rw [oc_p1, show S * 2 + 1 = w from hw]
    exact oc_y_get (by omega) hg p
  · refine br_f (by decide) ?_
    unfold wY_move_149
    rw [oc_p0, show S * 2 = w from hw]
    exact oc_y_get (by omega) hg p
theorem oc_y_mv2 {post : Int32 → SY → Prop} {A B : List oc_C} {c l f S : Nat} {b t : Int32} {x : oc_C} (hc2 : c < 2) (h0 : ¬ hc c = 0) (hok : ∀ y ∈ A ++ x :: B, oc_ok y) (hL : (A ++ x :: B).length ≤ 36) (hY : oc_Y (A ++ x :: B) (nI (A.length + B.length + 1)) cS cF cL cB cT) (ht : ¬ t = 0)
    (p : ∀ (n : Int32) (cS cF cL cB cT : Nat → Int32), oc_Y (oc_D c (A ++ B)) n cS cF cL cB cT → post 2 (n, upd hc c 0, rl, oc_fl jn (c * 3) (c * 3 + 3) (-1), gd, lb, cS, cF, cL, cB, cT)) :
    wY_move_83 post (nI c) (nI l) (nI f) (nI A.length) (nI S) b t 1 (nI (A.length + B.length + 1)) hc rl jn gd lb cS cF cL cB cT := by
  unfold wY_move_83
  have hlen : (A ++ x :: B).length = A.length + B.length + 1 := by
    rw [List.length_append, List.length_cons]
    rfl
  have hF := oc_Y_F hY hok
  refine oc_y_take (by omega) (by omega) (fun i hi => hF i (by omega)) (br_f (by decide) (br_f ht ?_))
  refine oc_y_des (L := A ++ B) hc2 h0 (fun y hy => hok y ?_) (by rw [List.length_append]; omega) (oc_Y_cut hY) (fun m aS aF aL aB aT hY2 => p m aS aF aL aB aT hY2)
  rcases List.mem_append.mp hy with hy | hy
  · exact List.mem_append.mpr (Or.inl hy)
  · exact List.mem_append.mpr (Or.inr (List.mem_cons_of_mem _ hy))
end
theorem i_vc_move {k : Nat} {u : SX} {v : SY} (I : i_Rel k u v) (hk : k + 5 ≤ 2561) (v1 : Int32) (v2 : Int32) (v3 : Int32) : wpX_move (fun r u' => wpY_move (fun r' v' => r' = r ∧ i_Rel (k + 5) u' v') v v1 v2 (lw_bz v3)) u v1 v2 (lw_bz v3) := by
  obtain ⟨hc, rh, so, sh, uw, gc, gb, ql, xS, xB, xT⟩ := u
  obtain ⟨n, hd, rl, jn, gd, lb, cS, cF, cL, cB, cT⟩ := v
  obtain ⟨rfl, N, J, G, L, K, hY⟩ := I
  obtain ⟨f, hf, ef⟩ := oc_bz v3
  rw [ef]
  have hok := oc_L_ok K.2.2.2.2.2.1
  have hU := K.2.2.2.2.2.2.1
  have hL := oc_U_len hU hok
  rcases oc_refus K.1 v1 with ⟨r, h1, h2, h3, h4⟩ | ⟨c, hc2, rfl, hN, h0⟩
  · exact oc_x_mvR (r := r) (fun P p => oc_x_crR h3 h1 p) h1 (oc_y_mvR h4 h2 ⟨rfl, oc_mk5 K hY⟩)
  · rcases oc_cell K hY hc2 h0 hf v2 with ⟨h1, h2⟩ | ⟨l, A, x, B, hl, rfl, rfl, hx, hA, h1, h2⟩
    · exact oc_x_mvR h1 (by decide) (oc_y_mvN hc2 h0 h2 ⟨rfl, oc_mk5 K hY⟩)
    · have hq : (c * 3 + l) * 2 + (1 - f) < 12 := by omega
      obtain ⟨a1, a2, a3, a4, a5⟩ := oc_X_at K.2.2.2.2.2.2.2 hq hx hA
      obtain ⟨b1, b2, b3, b4, b5⟩ := oc_Y_at hY (oc_mid A B x)
      have hlen : (A ++ x :: B).length = A.length + B.length + 1 := by
        rw [List.length_append, List.length_cons]
        rfl
      obtain ⟨⟨o1, o2, o3⟩, hJ⟩ := oc_L_mid K.2.2.2.2.2.1
      have hx2 := hx
      unfold oc_qi at hx2
      have hxf : x.2.1 = f := by omega
      have hxl : x.2.2.1 = l := by omega
      have hxc : x.1 / 3 = c := by omega
      have hxs : c * 3 + x.1 % 3 = x.1 := by omega
      have hs : x.1 % 3 < 3 := by omega
      have hF := oc_Y_F hY hok
      have hn : n = nI (A.length + B.length + 1) := by rw [hY.1, hlen]
      subst hn
      rcases K.2.2.1 x.1 o1 with ⟨j1, j2, j3⟩ | ⟨j, j1, j2, j3, j4, j5, j6⟩
      · omega
      · obtain ⟨e, he3, heX, heY, heL⟩ : ∃ e, e < 3 ∧ ((f = 0 ∧ e = 0) ∨ (f = 1 ∧ sh (c * 3 + x.1 % 3) = nI e)) ∧ ((f = 0 ∧ e = 0) ∨ (f = 1 ∧ jn x.1 = nI e)) ∧ ((f = 0 ∧ e = 0) ∨ (f = 1 ∧ e = j)) := by
          rcases oc_f2 hf with h | h
          · exact ⟨0, by omega, Or.inl ⟨h, rfl⟩, Or.inl ⟨h, rfl⟩, Or.inl ⟨h, rfl⟩⟩
          · exact ⟨j, j1, Or.inr ⟨h, by rw [hxs]; exact j4⟩, Or.inr ⟨h, j5⟩, Or.inr ⟨h, rfl⟩⟩
        by_cases hle : l = e
        · by_cases ht : x.2.2.2.2 = 0
          · have hw : oc_wi x = x.1 * 2 + (1 - f) := by
              unfold oc_wi
              rw [hxf]
            obtain ⟨g1, g2, g3, g4⟩ := K.2.2.2.1 (x.1 * 2 + (1 - f)) (by omega)
            have ew : (x.1 * 2 + (1 - f)) / 2 = x.1 := by omega
            rw [ew] at g4
            obtain ⟨u1, u2⟩ := hU (x.1 * 2 + (1 - f)) (by omega)
            rw [oc_n_mid, if_pos hw] at u1
            refine oc_x_mv1 hc2 hl hf hs h1 (by rw [hxs]) a1 a5 a2 a3 (a4.trans ht) heX hle g1 (by omega) u1 ?_
            refine oc_y_mvP hc2 h0 hl he3 hf h2 (by omega) b1 o1 b4 (b5.trans ht) heY (fun _ => ?_) (fun z => absurd hle z)
            exact oc_y_mv1 hf (by omega) (by omega) (fun i hi => hF i (by omega)) o1 rfl (g4 (by omega)) ⟨rfl, oc_mk (oc_K_get K hq hx hA hw _) (oc_Y_cut hY)⟩
          · refine oc_x_mv2 hc2 hl hf hs h1 a1 a5 a2 a3 a4 heX hle ht ?_
            refine oc_y_mvP hc2 h0 hl he3 hf h2 (by omega) b1 o1 b4 b5 heY (fun _ => ?_) (fun z => absurd hle z)
            exact oc_y_mv2 hc2 h0 hok hL hY ht (fun m aS aF aL aB aT hY2 => ⟨rfl, oc_mk (oc_K_down K hq hx hA hxc) hY2⟩)
        · obtain ⟨l2, hl2, h22, hlJ⟩ : ∃ l2, l2 < 3 ∧ ((f = 0 ∧ l = l2 + 1) ∨ (f = 1 ∧ l2 = l + 1)) ∧ l2 < J x.1 := by
            rcases heL with ⟨h, h3⟩ | ⟨h, h3⟩
            · exact ⟨l - 1, by omega, Or.inl ⟨h, by omega⟩, by omega⟩
            · exact ⟨l + 1, by omega, Or.inr ⟨h, rfl⟩, by omega⟩
          have hp : oc_qi (x.1, x.2.1, l2, x.2.2.2.1, x.2.2.2.2) = (c * 3 + l2) * 2 + (1 - f) := by
            show (x.1 / 3 * 3 + l2) * 2 + (1 - x.2.1) = _
            rw [hxc, hxf]
          obtain ⟨s1, s2, s3, s4⟩ := oc_K_on K hq hx hA hl2 hlJ hp
          have hYp := oc_Y_push (x.1, x.2.1, l2, x.2.2.2.1, x.2.2.2.2) (oc_Y_cut hY)
          rw [List.length_append] at hYp
          dsimp only at hYp
          rw [hxf] at hYp
          rw [hxf] at s4
          refine oc_x_mv0 hc2 hl hf hs h1 a1 a5 a2 a3 a4 heX he3 hle h22 hl2 s3 s1 ?_
          refine oc_y_mvP hc2 h0 hl he3 hf h2 (by omega) b1 o1 b4 b5 heY (fun z => absurd z hle) (fun _ => ?_)
          exact oc_y_mv0 hf hl (by omega) (by omega) (fun i hi => hF i (by omega)) h22 ⟨rfl, oc_mk s4 hYp⟩
