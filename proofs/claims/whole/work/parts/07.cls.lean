/-! ===== the relation, and the ways in which the calls part ===== -/
theorem oc_ixo (x : Int32) (n : Nat) (hn : n < 2 ^ 31) : (x < 0 ∨ nI n ≤ x) ∨ ∃ j : Nat, j < n ∧ x = nI j := by
  rcases pk_ix x hn with h | h | h
  · exact Or.inl (Or.inl h)
  · exact Or.inl (Or.inr h)
  · exact Or.inr h
theorem oc_bz (v : Int32) : ∃ f : Nat, f < 2 ∧ lw_bz v = nI f := by
  rcases lw_bz_01 v with h | h
  · exact ⟨0, by decide, h⟩
  · exact ⟨1, by decide, h⟩
/-- the component's state (hc .. xT) and the reference's (n .. cT): one list of cells stands behind both -/
def i_Rel (k : Nat) (u : SX) (v : SY) : Prop := match u, v with
  | (hc, rh, so, sh, uw, gc, gb, ql, xS, xB, xT), (n, hd, rl, jn, gd, lb, cS, cF, cL, cB, cT) =>
    hc = hd ∧ ∃ (N J G : Nat → Nat) (L : List oc_C), oc_K k N J G L hc rh so sh uw gc gb ql xS xB xT rl jn gd lb ∧ oc_Y L n cS cF cL cB cT
section
variable {k : Nat} {N J G : Nat → Nat} {L : List oc_C} {hc rh so sh uw gc gb ql xS xB xT rl jn gd lb cS cF cL cB cT : Nat → Int32} {n : Int32}
theorem oc_mk (K : oc_K k N J G L hc rh so sh uw gc gb ql xS xB xT rl jn gd lb) (hY : oc_Y L n cS cF cL cB cT) : i_Rel k (hc, rh, so, sh, uw, gc, gb, ql, xS, xB, xT) (n, hc, rl, jn, gd, lb, cS, cF, cL, cB, cT) := by
  unfold i_Rel
  exact ⟨rfl, N, J, G, L, K, hY⟩
theorem oc_mk5 (K : oc_K k N J G L hc rh so sh uw gc gb ql xS xB xT rl jn gd lb) (hY : oc_Y L n cS cF cL cB cT) : i_Rel (k + 5) (hc, rh, so, sh, uw, gc, gb, ql, xS, xB, xT) (n, hc, rl, jn, gd, lb, cS, cF, cL, cB, cT) :=
  oc_mk (oc_K_up (k + 5) (by omega) K) hY
theorem oc_hc {c : Nat} (hH : oc_H N hc) (hc2 : c < 2) : hc c = 0 ↔ N c = 0 := by
  obtain ⟨h1, h2⟩ := hH c hc2
  rw [h1]
  exact nI_eq (b := 0) (by omega) (by decide)
theorem oc_refus (hH : oc_H N hc) (x : Int32) :
    (∃ r : Int32, ¬ r = 0 ∧ ¬ 0 ≤ r ∧ (∀ P : Int32 → Prop, P r → wpX_circuitRefusal P (hc, rh, so, sh, uw, gc, gb, ql, xS, xB, xT) x) ∧ (∀ P : Int32 → Prop, P r → wpY_refusal P (n, hc, rl, jn, gd, lb, cS, cF, cL, cB, cT) x)) ∨
    (∃ c, c < 2 ∧ x = nI c ∧ 0 < N c ∧ ¬ hc c = 0) := by
  rcases oc_ixo x 2 (by decide) with h | ⟨c, hc2, rfl⟩
  · exact Or.inl ⟨-1, by decide, by decide, fun P p => oc_x_refB h p, fun P p => oc_y_refB h p⟩
  · by_cases h0 : hc c = 0
    · exact Or.inl ⟨-5, by decide, by decide, fun P p => oc_x_ref0 hc2 h0 p, fun P p => oc_y_ref0 hc2 h0 p⟩
    · refine Or.inr ⟨c, hc2, rfl, ?_, h0⟩
      have h1 : ¬ N c = 0 := fun z => h0 ((oc_hc hH hc2).mpr z)
      omega
theorem oc_isop (hH : oc_H N hc) (hJ : oc_J N J so sh jn) (x y : Int32) :
    ((∀ P : Int32 → Prop, P 0 → wpX_isOpenStream P (hc, rh, so, sh, uw, gc, gb, ql, xS, xB, xT) x y) ∧ (∀ P : Int32 → Prop, P 0 → wpY_isOpen P (n, hc, rl, jn, gd, lb, cS, cF, cL, cB, cT) x y)) ∨
    (∃ c s j, c < 2 ∧ s < 3 ∧ x = nI c ∧ y = nI s ∧ j < 3 ∧ J (c * 3 + s) = j + 1 ∧ sh (c * 3 + s) = nI j ∧ jn (c * 3 + s) = nI j ∧ 0 < N c ∧ ¬ hc c = 0 ∧
      (∀ P : Int32 → Prop, P 1 → wpX_isOpenStream P (hc, rh, so, sh, uw, gc, gb, ql, xS, xB, xT) x y) ∧ (∀ P : Int32 → Prop, P 1 → wpY_isOpen P (n, hc, rl, jn, gd, lb, cS, cF, cL, cB, cT) x y)) := by
  rcases oc_ixo x 2 (by decide) with h | ⟨c, hc2, rfl⟩
  · exact Or.inl ⟨fun P p => oc_x_isoC h p, fun P p => oc_y_isoR (r := -1) (fun Q q => oc_y_refB h q) (by decide) p⟩
  · rcases oc_ixo y 3 (by decide) with h | ⟨s, hs, rfl⟩
    · refine Or.inl ⟨fun P p => oc_x_isoS hc2 h p, fun P p => ?_⟩
      by_cases h0 : hc c = 0
      · exact oc_y_isoR (r := -5) (fun Q q => oc_y_ref0 hc2 h0 q) (by decide) p
      · exact oc_y_isoS hc2 h0 h p
    · have hd : (c * 3 + s) / 3 = c := by omega
      rcases hJ (c * 3 + s) (by omega) with ⟨j1, j2, j3⟩ | ⟨j, j1, j2, j3, j4, j5, j6⟩
      · refine Or.inl ⟨fun P p => oc_x_iso0 hc2 hs j2 p, fun P p => ?_⟩
        by_cases h0 : hc c = 0
        · exact oc_y_isoR (r := -5) (fun Q q => oc_y_ref0 hc2 h0 q) (by decide) p
        · exact oc_y_iso0 hc2 h0 hs (by rw [j3]; decide) p
      · rw [hd] at j6
        have h0 : ¬ hc c = 0 := fun z => by
          have := (oc_hc hH hc2).mp z
          omega
        exact Or.inr ⟨c, s, j, hc2, hs, rfl, rfl, j1, j2, j4, j5, j6, h0, fun P p => oc_x_iso1 hc2 hs j3 p, fun P p => oc_y_iso1 hc2 h0 hs (by rw [j5]; exact nI_pos (by omega)) p⟩
theorem oc_M_qi {c l f : Nat} {y : oc_C} (hy : oc_ok y) (hc2 : c < 2) (hl : l < 3) (hf : f < 2) : oc_M (nI c) (nI l) f y ↔ oc_qi y = (c * 3 + l) * 2 + (1 - f) := by
  obtain ⟨o1, o2, o3⟩ := hy
  unfold oc_M oc_qi
  rw [nI_eq (by omega) (by omega), nI_eq (by omega) (by omega)]
  omega
theorem oc_cell (K : oc_K k N J G L hc rh so sh uw gc gb ql xS xB xT rl jn gd lb) (hY : oc_Y L n cS cF cL cB cT) {c f : Nat} (hc2 : c < 2) (h0 : ¬ hc c = 0) (hf : f < 2) (y : Int32) :
    ((∀ P : Int32 → Prop, P (-7) → wpX_cellRefusal P (hc, rh, so, sh, uw, gc, gb, ql, xS, xB, xT) (nI c) y (nI f)) ∧ (∀ P : Int32 → Prop, P (-7) → wpY_oldest P (n, hc, rl, jn, gd, lb, cS, cF, cL, cB, cT) (nI c) y (nI f))) ∨
    (∃ (l : Nat) (A : List oc_C) (x : oc_C) (B : List oc_C), l < 3 ∧ y = nI l ∧ L = A ++ x :: B ∧ oc_qi x = (c * 3 + l) * 2 + (1 - f) ∧ (∀ z ∈ A, oc_qi z ≠ (c * 3 + l) * 2 + (1 - f)) ∧
      (∀ P : Int32 → Prop, P 0 → wpX_cellRefusal P (hc, rh, so, sh, uw, gc, gb, ql, xS, xB, xT) (nI c) y (nI f)) ∧ (∀ P : Int32 → Prop, P (nI A.length) → wpY_oldest P (n, hc, rl, jn, gd, lb, cS, cF, cL, cB, cT) (nI c) y (nI f))) := by
  obtain ⟨h1, h2, h3, h4, h5, h6, h7, h8⟩ := K
  have hok := oc_L_ok h6
  have hL := oc_U_len h7 hok
  rcases oc_ixo y 3 (by decide) with h | ⟨l, hl, rfl⟩
  · refine Or.inl ⟨fun P p => oc_x_crL hc2 h0 h p, fun P p => oc_y_oldN hf hok hL hY (fun z hz m => ?_) p⟩
    exact oc_neI (hok z hz).2.2 (by decide) h m.2.1
  · have hq : (c * 3 + l) * 2 + (1 - f) < 12 := by omega
    obtain ⟨q0, q1, q2, q3, q4⟩ := h8 ((c * 3 + l) * 2 + (1 - f)) hq
    cases hQ : oc_Q ((c * 3 + l) * 2 + (1 - f)) L with
    | nil =>
      rw [hQ] at q0
      refine Or.inl ⟨fun P p => oc_x_cr0 hc2 h0 hl hf q0 p, fun P p => oc_y_oldN hf hok hL hY (fun z hz m => ?_) p⟩
      exact oc_Q_nil (by rw [hQ]; rfl) z hz ((oc_M_qi (hok z hz) hc2 hl hf).mp m)
    | cons x R =>
      rw [hQ, List.length_cons] at q0
      rw [hQ, List.length_cons] at q4
      obtain ⟨A, B, hAB, hx, hA, _⟩ := oc_first L hQ
      refine Or.inr ⟨l, A, x, B, hl, rfl, hAB, hx, hA, fun P p => oc_x_cr hc2 h0 hl hf (by rw [q0]; exact nI_ne0 (by omega) (by omega)) p, fun P p => oc_y_old hf hok hL hY hAB ?_ ?_ p⟩
      · exact (oc_M_qi (hok x (by rw [hAB]; simp)) hc2 hl hf).mpr hx
      · exact fun z hz m => hA z hz ((oc_M_qi (hok z (by rw [hAB]; simp [hz])) hc2 hl hf).mp m)
theorem oc_y_ini {post : SY → Prop} (p : post (n, hc, rl, oc_fl jn 0 6 (-1), gd, lb, cS, cF, cL, cB, cT)) : ∀ d i : Nat, i + d = 6 → wY_init_85 post n (d + 1) (nI i) hc rl (oc_fl jn 0 i (-1)) gd lb cS cF cL cB cT := by
  intro d
  induction d with
  | zero =>
    intro i hi
    have e : i = 6 := by omega
    subst e
    exact br_t (nI_le (a := 6) (b := 6) (Nat.le_refl 6) (by decide)) p
  | succ d ih =>
    intro i hi
    refine br_f (nI_ge (b := 6) (by omega) (by decide)) ⟨vp_in_nI (by omega) (by omega), nm_r (e' := oc_fl jn 0 (i + 1) (-1)) ?_ (nm_r (nI_1 i) (ih (i + 1) (by omega)))⟩
    rw [nI_clamp (by omega)]
    exact oc_fl_s jn (-1) (by omega)
end
theorem i_up {k : Nat} {u : SX} {v : SY} (h : i_Rel k u v) : i_Rel (k + 5) u v := by
  obtain ⟨hc, rh, so, sh, uw, gc, gb, ql, xS, xB, xT⟩ := u
  obtain ⟨n, hd, rl, jn, gd, lb, cS, cF, cL, cB, cT⟩ := v
  obtain ⟨rfl, N, J, G, L, K, hY⟩ := h
  exact oc_mk5 K hY
theorem oc_K_0 : oc_K 1 (fun _ => 0) (fun _ => 0) (fun _ => 0) [] (fun _ => 0) (fun _ => 0) (fun _ => 0) (fun _ => 0) (fun _ => 0) (fun _ => 0) (fun _ => 0) (fun _ => 0) (fun _ => 0) (fun _ => 0) (fun _ => 0) (fun _ => 0) (oc_fl (fun _ => 0) 0 6 (-1)) (fun _ => 0) (fun _ => 0) := by
  refine ⟨fun c _ => ⟨rfl, Nat.zero_le 3⟩, fun c r _ _ => Or.inl ⟨rfl, fun h hh => absurd hh (Nat.not_lt_zero h)⟩, fun s hs => Or.inl ⟨rfl, rfl, oc_fl_in (by omega) hs⟩, fun w _ => ⟨rfl, Nat.zero_le 1, fun _ => rfl, fun z => absurd z (Nat.lt_irrefl 0)⟩,
    fun w b _ _ h => absurd h (Nat.not_lt_zero b), fun x hx => absurd hx List.not_mem_nil, fun w _ => ⟨rfl, Nat.zero_le 3⟩, fun q _ => ⟨rfl, oc_ar_nil, oc_ar_nil, oc_ar_nil, Nat.zero_le 9⟩⟩
theorem i_vc0 (k0 : Int32) : wpX_init (fun u => wpY_init (fun v => i_Rel 1 u v) k0) k0 := by
  unfold wpX_init
  unfold wpY_init
  refine ⟨7, ?_⟩
  have g := oc_y_ini (n := 0) (jn := fun _ => 0) (hc := fun _ => 0) (rl := fun _ => 0) (gd := fun _ => 0) (lb := fun _ => 0) (cS := fun _ => 0) (cF := fun _ => 0) (cL := fun _ => 0) (cB := fun _ => 0) (cT := fun _ => 0)
    (post := fun v => i_Rel 1 ((fun _ => 0), (fun _ => 0), (fun _ => 0), (fun _ => 0), (fun _ => 0), (fun _ => 0), (fun _ => 0), (fun _ => 0), (fun _ => 0), (fun _ => 0), (fun _ => 0)) v)
    (oc_mk oc_K_0 ⟨rfl, oc_ar_nil, oc_ar_nil, oc_ar_nil, oc_ar_nil, oc_ar_nil⟩) 6 0 (by omega)
  rw [oc_fl_0] at g
  exact g
