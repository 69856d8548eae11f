/-! ===== the reference's own methods, each with a general post ===== -/
theorem oc_toI (n : Nat) (h : n < 2 ^ 31) : (nI n).toInt = (n : Int) := nI_toInt h
theorem oc_gt {a : Nat} {y : Int32} (ha : a + 1 < 2 ^ 31) (h : nI (a + 1) ≤ y) : nI a < y := by
  rw [Int32.le_iff_toInt_le, nI_toInt ha] at h
  rw [Int32.lt_iff_toInt_lt, nI_toInt (by omega)]
  omega
theorem oc_ngt {a : Nat} {y : Int32} (ha : a + 1 < 2 ^ 31) (h : nI (a + 1) ≤ y) : ¬ y ≤ nI a := by
  rw [Int32.le_iff_toInt_le, nI_toInt ha] at h
  rw [Int32.le_iff_toInt_le, nI_toInt (by omega)]
  omega
theorem oc_ge0 {a : Nat} {y : Int32} (ha : a < 2 ^ 31) (h : nI a ≤ y) : ¬ y < 0 := by
  rw [Int32.le_iff_toInt_le, nI_toInt ha] at h
  rw [Int32.lt_iff_toInt_lt, show (0 : Int32).toInt = 0 from by decide]
  omega
theorem oc_neI {a : Nat} {y : Int32} {N : Nat} (ha : a < N) (hN : N < 2 ^ 31) (h : y < 0 ∨ nI N ≤ y) : ¬ nI a = y := by
  intro e
  subst e
  rcases h with h | h
  · exact nI_pos (by omega) h
  · exact nI_ge ha hN h
theorem oc_noC {x : Int32} (h : x < 0 ∨ 2 ≤ x) : ¬ x = 0 ∧ ¬ x = 1 :=
  ⟨fun e => oc_neI (a := 0) (N := 2) (by decide) (by decide) h e.symm, fun e => oc_neI (a := 1) (N := 2) (by decide) (by decide) h e.symm⟩
theorem oc_d3 {a : Nat} (h : a < 2 ^ 31) : nI a / 3 = nI (a / 3) := pk_div (d := 3) h (by decide) (by decide)
theorem oc_3n : ¬ (3 : Int32) = 0 := by decide
section
variable {n : Int32} {hc rl jn gd lb cS cF cL cB cT : Nat → Int32}
theorem oc_y_refB {post : Int32 → Prop} {x : Int32} (h : x < 0 ∨ 2 ≤ x) (p : post (-1)) : wpY_refusal post (n, hc, rl, jn, gd, lb, cS, cF, cL, cB, cT) x := by
  unfold wpY_refusal
  exact br_f (oc_noC h).1 (br_f (oc_noC h).2 p)
theorem oc_y_ref11 {post : Int32 → Prop} {c : Nat} (h : c < 2) (p : wY_refusal_11 post (nI c) n hc rl jn gd lb cS cF cL cB cT) : wpY_refusal post (n, hc, rl, jn, gd, lb, cS, cF, cL, cB, cT) (nI c) := by
  unfold wpY_refusal
  match c, h with
  | 0, _ => exact br_t rfl p
  | 1, _ => exact br_f (by decide) (br_t rfl p)
theorem oc_y_ref0 {post : Int32 → Prop} {c : Nat} (h : c < 2) (h0 : hc c = 0) (p : post (-5)) : wpY_refusal post (n, hc, rl, jn, gd, lb, cS, cF, cL, cB, cT) (nI c) :=
  oc_y_ref11 h ⟨vp_in_nI h (by omega), br_t (by rw [nI_clamp (by omega)]; exact h0) p⟩
theorem oc_y_ref {post : Int32 → Prop} {c : Nat} (h : c < 2) (h0 : ¬ hc c = 0) (p : post 0) : wpY_refusal post (n, hc, rl, jn, gd, lb, cS, cF, cL, cB, cT) (nI c) :=
  oc_y_ref11 h ⟨vp_in_nI h (by omega), br_f (by rw [nI_clamp (by omega)]; exact h0) p⟩
theorem oc_y_take_l {post : SY → Prop} {a m : Nat} (hm : m < 36) (hF : ∀ i, i ≤ m → vp_nar .boolean (cF i) = cF i)
    (p : post (nI m, hc, rl, jn, gd, lb, oc_sh cS a m, oc_sh cF a m, oc_sh cL a m, oc_sh cB a m, oc_sh cT a m)) : ∀ d i : Nat, a ≤ i → i + d = m →
    wY_take_12 post (nI m) (d + 1) (nI i) hc rl jn gd lb (oc_sh cS a i) (oc_sh cF a i) (oc_sh cL a i) (oc_sh cB a i) (oc_sh cT a i) := by
  intro d
  induction d with
  | zero =>
    intro i ha hi
    have e1 : i = m := by omega
    subst e1
    exact br_t (nI_le (Nat.le_refl _) (by omega)) p
  | succ d ih =>
    intro i ha hi
    have a1 : vp_in (nI i + 1) 36 := oc_ia1 (by omega) (by omega)
    have a2 : vp_in (nI i) 36 := vp_in_nI (by omega) (by omega)
    have b1 : (nI i + 1).toNatClampNeg = i + 1 := oc_ca1 (by omega)
    have b2 : (nI i).toNatClampNeg = i := nI_clamp (by omega)
    refine br_f (nI_ge (by omega) (by omega)) ⟨a1, a2, nm_r (e' := oc_sh cS a (i + 1)) ?_ ⟨a1, a2, nm_r (e' := oc_sh cF a (i + 1)) ?_ ⟨a1, a2, nm_r (e' := oc_sh cL a (i + 1)) ?_ ⟨a1, a2, nm_r (e' := oc_sh cB a (i + 1)) ?_ ⟨a1, a2, nm_r (e' := oc_sh cT a (i + 1)) ?_ (nm_r (nI_1 _) (ih (i + 1) (by omega) (by omega)))⟩⟩⟩⟩⟩
    · rw [b1, b2]
      exact oc_sh_s cS ha
    · rw [b1, b2, oc_sh_out (i := i + 1) (by omega), hF (i + 1) (by omega), ← oc_sh_out (a := cF) (p := a) (e := i) (i := i + 1) (by omega)]
      exact oc_sh_s cF ha
    · rw [b1, b2]
      exact oc_sh_s cL ha
    · rw [b1, b2]
      exact oc_sh_s cB ha
    · rw [b1, b2]
      exact oc_sh_s cT ha
theorem oc_y_take {post : SY → Prop} {a m : Nat} (ha : a ≤ m) (hm : m < 36) (hF : ∀ i, i ≤ m → vp_nar .boolean (cF i) = cF i)
    (p : post (nI m, hc, rl, jn, gd, lb, oc_sh cS a m, oc_sh cF a m, oc_sh cL a m, oc_sh cB a m, oc_sh cT a m)) :
    wpY_take post (nI (m + 1), hc, rl, jn, gd, lb, cS, cF, cL, cB, cT) (nI a) := by
  unfold wpY_take
  refine nm_r (e' := nI m) (nI_pred m) ⟨m - a + 1, ?_⟩
  have g := oc_y_take_l (cS := cS) (cF := cF) (cL := cL) (cB := cB) (cT := cT) hm hF p (m - a) a (Nat.le_refl a) (by omega)
  rw [oc_sh_0, oc_sh_0, oc_sh_0, oc_sh_0, oc_sh_0] at g
  exact g
theorem oc_y_app {post : SY → Prop} {m f : Nat} {s l b t : Int32} (hm : m < 36) (hf : f < 2)
    (p : post (nI (m + 1), hc, rl, jn, gd, lb, upd cS m s, upd cF m (nI f), upd cL m l, upd cB m b, upd cT m t)) : wpY_append post (nI m, hc, rl, jn, gd, lb, cS, cF, cL, cB, cT) s (nI f) l b t := by
  unfold wpY_append
  have hi : vp_in (nI m) 36 := vp_in_nI hm (by omega)
  have e : (nI m).toNatClampNeg = m := nI_clamp (by omega)
  exact ⟨hi, nm_r (e' := upd cS m s) (by rw [e]) ⟨hi, nm_r (e' := upd cF m (nI f)) (by rw [e, oc_bN hf]) ⟨hi, nm_r (e' := upd cL m l) (by rw [e]) ⟨hi, nm_r (e' := upd cB m b) (by rw [e]) ⟨hi, nm_r (e' := upd cT m t) (by rw [e]) (nm_r (nI_1 m) p)⟩⟩⟩⟩⟩
theorem oc_y_des6 {post : Int32 → SY → Prop} {c : Nat} {x : Int32} (hc2 : c < 2) (p : post (x - n) (n, hc, rl, oc_fl jn (c * 3) (c * 3 + 3) (-1), gd, lb, cS, cF, cL, cB, cT)) : ∀ d i : Nat, i + d = 3 →
    wY_destroy_62 post (nI c) x n (d + 1) (nI i) hc rl (oc_fl jn (c * 3) (c * 3 + i) (-1)) gd lb cS cF cL cB cT := by
  intro d
  induction d with
  | zero =>
    intro i hi
    have e : i = 3 := by omega
    subst e
    exact br_t (nI_le (a := 3) (b := 3) (Nat.le_refl 3) (by decide)) p
  | succ d ih =>
    intro i hi
    refine br_f (nI_ge (b := 3) (by omega) (by decide)) ⟨?_, nm_r (e' := oc_fl jn (c * 3) (c * 3 + (i + 1)) (-1)) ?_ (nm_r (nI_1 i) (ih (i + 1) (by omega)))⟩
    · rw [oc_m3]
      exact vp_in_nI (by omega) (by omega)
    · rw [oc_m3, nI_clamp (by omega)]
      exact oc_fl_s jn (-1) (by omega)
end
theorem oc_Y_F {L : List oc_C} {n : Int32} {cS cF cL cB cT : Nat → Int32} (h : oc_Y L n cS cF cL cB cT) (hok : ∀ x ∈ L, oc_ok x) : ∀ i, i < L.length → vp_nar .boolean (cF i) = cF i := by
  intro i hi
  have hx := List.getElem?_eq_getElem hi
  have h1 := (oc_Y_at h hx).2.1
  rw [h1]
  exact oc_bN (hok _ (List.getElem_mem hi)).2.1
theorem oc_mid (A B : List oc_C) (x : oc_C) : (A ++ x :: B)[A.length]? = some x := by simp
section
variable {hc rl jn gd lb : Nat → Int32} {L : List oc_C}
theorem oc_y_des2 {post : Int32 → SY → Prop} {c : Nat} {z : Int32} (hc2 : c < 2) (hok : ∀ x ∈ L, oc_ok x) (hL : L.length ≤ 36)
    (p : ∀ (n : Int32) (cS cF cL cB cT : Nat → Int32), oc_Y (oc_D c L) n cS cF cL cB cT → post (z - n) (n, upd hc c 0, rl, oc_fl jn (c * 3) (c * 3 + 3) (-1), gd, lb, cS, cF, cL, cB, cT)) :
    ∀ (k : Nat) (A B : List oc_C), A.length = k → L = A ++ B → ∀ (n : Int32) (cS cF cL cB cT : Nat → Int32), oc_Y (A ++ oc_D c B) n cS cF cL cB cT →
      wY_destroy_22 post (nI c) z (k + 1) (nI k - 1) n hc rl jn gd lb cS cF cL cB cT := by
  intro k
  induction k with
  | zero =>
    intro A B hA hAB n cS cF cL cB cT hY
    have e := List.length_eq_zero_iff.mp hA
    subst e
    rw [List.nil_append] at hAB hY
    subst hAB
    refine br_t (by decide) ⟨vp_in_nI hc2 (by omega), nm_r (e' := upd hc c 0) (by rw [nI_clamp (by omega)]) ⟨4, ?_⟩⟩
    have g := oc_y_des6 (hc := upd hc c 0) (rl := rl) (jn := jn) (gd := gd) (lb := lb) (post := post) (x := z) hc2 (p n cS cF cL cB cT hY) 3 0 (by omega)
    rw [oc_fl_00] at g
    exact g
  | succ k ih =>
    intro A B hA hAB n cS cF cL cB cT hY
    have hne : A ≠ [] := fun e => by rw [e] at hA; simp at hA
    obtain ⟨A', x, rfl⟩ : ∃ A' x, A = A' ++ [x] := ⟨A.dropLast, A.getLast hne, (List.dropLast_concat_getLast hne).symm⟩
    rw [List.length_append, List.length_singleton] at hA
    have hk : A'.length = k := by omega
    rw [List.append_assoc, List.singleton_append] at hAB hY
    have hlen : L.length = A'.length + (B.length + 1) := by rw [hAB, List.length_append, List.length_cons]
    have hDl : (oc_D c B).length ≤ B.length := List.length_filter_le _ _
    have hxm : x ∈ L := by rw [hAB]; simp
    have hx := hok x hxm
    have hat := oc_Y_at hY (oc_mid A' (oc_D c B) x)
    rw [hk] at hat
    have e1 : (nI k).toNatClampNeg = k := nI_clamp (by omega)
    have e2 : nI (k + 1) - 1 = nI k := nI_pred k
    have e3 : cS (nI k).toNatClampNeg / 3 = nI (x.1 / 3) := by
      rw [e1, hat.1]
      exact oc_d3 (by have := hx.1; omega)
    have e4 : nI k + (-1) = nI k - 1 := (Int32.sub_eq_add_neg _ _).symm
    rw [e2]
    refine br_f (nI_pos (by omega)) ⟨vp_in_nI (by omega) (by omega), oc_3n, ?_⟩
    rw [e3]
    by_cases hd : x.1 / 3 = c
    · refine br_t (by rw [hd]) ?_
      have hn : n = nI (A'.length + (oc_D c B).length + 1) := by
        rw [hY.1, List.length_append, List.length_cons]
        rfl
      have hokD : ∀ y ∈ A' ++ x :: oc_D c B, oc_ok y := by
        intro y hy
        refine hok y ?_
        rw [hAB]
        rcases List.mem_append.mp hy with hy | hy
        · exact List.mem_append.mpr (Or.inl hy)
        · rcases List.mem_cons.mp hy with hy | hy
          · exact List.mem_append.mpr (Or.inr (List.mem_cons.mpr (Or.inl hy)))
          · exact List.mem_append.mpr (Or.inr (List.mem_cons.mpr (Or.inr (oc_D_mem hy).1)))
      have hF := oc_Y_F hY hokD
      have hlD : (A' ++ x :: oc_D c B).length = A'.length + (oc_D c B).length + 1 := by
        rw [List.length_append, List.length_cons]
        rfl
      have hcut := oc_Y_cut hY
      subst hn
      rw [← hk]
      refine oc_y_take (a := A'.length) (m := A'.length + (oc_D c B).length) (by omega) (by omega) (fun i hi => hF i (by omega)) ?_
      rw [hk] at hcut ⊢
      refine nm_r e4 ?_
      exact ih A' (x :: B) hk hAB _ _ _ _ _ _ (by rw [oc_D_s B hd]; exact hcut)
    · refine br_f (fun z => hd ((nI_eq (by have := hx.1; omega) (by omega)).mp z)) (nm_r e4 ?_)
      exact ih A' (x :: B) hk hAB n cS cF cL cB cT (by rw [oc_D_c B hd]; exact hY)
theorem oc_y_des {post : Int32 → SY → Prop} {c : Nat} {n : Int32} {cS cF cL cB cT : Nat → Int32} (hc2 : c < 2) (h0 : ¬ hc c = 0) (hok : ∀ x ∈ L, oc_ok x) (hL : L.length ≤ 36) (hY : oc_Y L n cS cF cL cB cT)
    (p : ∀ (n : Int32) (cS cF cL cB cT : Nat → Int32), oc_Y (oc_D c L) n cS cF cL cB cT → post (nI (L.length - (oc_D c L).length)) (n, upd hc c 0, rl, oc_fl jn (c * 3) (c * 3 + 3) (-1), gd, lb, cS, cF, cL, cB, cT)) :
    wpY_destroy post (n, hc, rl, jn, gd, lb, cS, cF, cL, cB, cT) (nI c) := by
  unfold wpY_destroy
  refine oc_y_ref hc2 h0 (br_t (by decide) ?_)
  have hn := hY.1
  subst hn
  refine nm_e ⟨L.length + 1, ?_⟩
  have hle : (oc_D c L).length ≤ L.length := List.length_filter_le _ _
  refine oc_y_des2 (L := L) hc2 hok hL (fun m aS aF aL aB aT hY2 => ?_) L.length L [] rfl (List.append_nil L).symm _ cS cF cL cB cT (by rw [show oc_D c [] = [] from rfl, List.append_nil]; exact hY)
  rw [hY2.1, pk_sub hle, ← hY2.1]
  exact p m aS aF aL aB aT hY2
end
section
variable {hc rl jn gd lb cS cF cL cB cT : Nat → Int32} {L : List oc_C} {n : Int32}
theorem oc_y_uw_l {post : Int32 → Prop} {s f : Nat} (hs : s < 6) (hf : f < 2) (hok : ∀ x ∈ L, oc_ok x) (hL : L.length ≤ 36) (hY : oc_Y L n cS cF cL cB cT) (p : post (nI (oc_n (s * 2 + (1 - f)) L))) :
    ∀ B A : List oc_C, L = A ++ B → wY_underWay_5 post (nI s) (nI f) n hc rl jn gd lb cS cF cL cB cT (B.length + 1) (nI (oc_n (s * 2 + (1 - f)) A)) (nI A.length) := by
  intro B
  induction B with
  | nil =>
    intro A hA
    rw [List.append_nil] at hA
    subst hA
    refine br_t ?_ p
    rw [hY.1]
    exact nI_le (Nat.le_refl _) (by omega)
  | cons x B ih =>
    intro A hA
    have hlen : L.length = A.length + (B.length + 1) := by rw [hA, List.length_append, List.length_cons]
    have hx := hok x (by rw [hA]; simp)
    have hat := oc_Y_at hY (by rw [hA]; exact oc_mid A B x)
    have hi : vp_in (nI A.length) 36 := vp_in_nI (by omega) (by omega)
    have e1 : (nI A.length).toNatClampNeg = A.length := nI_clamp (by omega)
    have g := ih (A ++ [x]) (by rw [List.append_assoc, List.singleton_append]; exact hA)
    rw [oc_n_app, List.length_append, List.length_singleton] at g
    obtain ⟨o1, o2, o3⟩ := hx
    refine br_f (by rw [hY.1]; exact nI_ge (by omega) (by omega)) ⟨hi, ?_⟩
    rw [e1, hat.1, hat.2.1]
    by_cases d1 : x.1 = s
    · refine br_t (by rw [d1]) ⟨hi, ?_⟩
      by_cases d2 : x.2.1 = f
      · rw [if_pos (show oc_wi x = s * 2 + (1 - f) by unfold oc_wi; rw [d1, d2])] at g
        exact br_t (by rw [d2]) (nm_r (nI_1 _) (nm_r (nI_1 _) g))
      · rw [if_neg (show ¬ oc_wi x = s * 2 + (1 - f) by unfold oc_wi; omega)] at g
        exact br_f (fun z => d2 ((nI_eq (by omega) (by omega)).mp z)) (nm_r (nI_1 _) g)
    · rw [if_neg (show ¬ oc_wi x = s * 2 + (1 - f) by unfold oc_wi; omega)] at g
      exact br_f (fun z => d1 ((nI_eq (by omega) (by omega)).mp z)) (nm_r (nI_1 _) g)
theorem oc_y_uw {post : Int32 → Prop} {s f : Nat} (hs : s < 6) (hf : f < 2) (hok : ∀ x ∈ L, oc_ok x) (hL : L.length ≤ 36) (hY : oc_Y L n cS cF cL cB cT) (p : post (nI (oc_n (s * 2 + (1 - f)) L))) :
    wpY_underWay post (n, hc, rl, jn, gd, lb, cS, cF, cL, cB, cT) (nI s) (nI f) := by
  unfold wpY_underWay
  exact ⟨L.length + 1, oc_y_uw_l hs hf hok hL hY p L [] rfl⟩
/-- the cell is the one that is looked for -/
def oc_M (x l : Int32) (f : Nat) (y : oc_C) : Prop := nI (y.1 / 3) = x ∧ nI y.2.2.1 = l ∧ y.2.1 = f
theorem oc_y_old_s {post : Int32 → Prop} {x l : Int32} {f i k : Nat} {y : oc_C} (hf : f < 2) (hok : ∀ x ∈ L, oc_ok x) (hL : L.length ≤ 36) (hY : oc_Y L n cS cF cL cB cT) (hy : L[i]? = some y) (hn : ¬ oc_M x l f y)
    (p : wY_oldest_3 post x l (nI f) n hc rl jn gd lb cS cF cL cB cT k (nI (i + 1))) : wY_oldest_3 post x l (nI f) n hc rl jn gd lb cS cF cL cB cT (k + 1) (nI i) := by
  have hil := oc_ar_lt hy
  have hat := oc_Y_at hY hy
  have hi : vp_in (nI i) 36 := vp_in_nI (by omega) (by omega)
  have e1 : (nI i).toNatClampNeg = i := nI_clamp (by omega)
  obtain ⟨o1, o2, o3⟩ := hok y (List.mem_of_getElem? hy)
  refine br_f (by rw [hY.1]; exact nI_ge (by omega) (by omega)) ⟨hi, oc_3n, ?_⟩
  rw [e1, hat.1, hat.2.1, hat.2.2.1, oc_d3 (by omega)]
  refine br_c (fun d1 => ⟨hi, br_c (fun d2 => ⟨hi, br_f (fun d3 => ?_) (nm_r (nI_1 i) p)⟩) (fun _ => nm_r (nI_1 i) p)⟩) (fun _ => nm_r (nI_1 i) p)
  exact hn ⟨d1, d2, (nI_eq (by omega) (by omega)).mp d3⟩
theorem oc_y_oldN {post : Int32 → Prop} {x l : Int32} {f : Nat} (hf : f < 2) (hok : ∀ x ∈ L, oc_ok x) (hL : L.length ≤ 36) (hY : oc_Y L n cS cF cL cB cT) (hn : ∀ y ∈ L, ¬ oc_M x l f y) (p : post (-7)) : wpY_oldest post (n, hc, rl, jn, gd, lb, cS, cF, cL, cB, cT) x l (nI f) := by
  unfold wpY_oldest
  have g : ∀ B A : List oc_C, L = A ++ B → wY_oldest_3 post x l (nI f) n hc rl jn gd lb cS cF cL cB cT (B.length + 1) (nI A.length) := by
    intro B
    induction B with
    | nil =>
      intro A hA
      rw [List.append_nil] at hA
      subst hA
      refine br_t ?_ p
      rw [hY.1]
      exact nI_le (Nat.le_refl _) (by omega)
    | cons y B ih =>
      intro A hA
      have g := ih (A ++ [y]) (by rw [List.append_assoc, List.singleton_append]; exact hA)
      rw [List.length_append, List.length_singleton] at g
      exact oc_y_old_s hf hok hL hY (by rw [hA]; exact oc_mid A B y) (hn y (by rw [hA]; simp)) g
  exact ⟨L.length + 1, g L [] rfl⟩
theorem oc_y_old {post : Int32 → Prop} {x l : Int32} {f : Nat} {A B : List oc_C} {y : oc_C} (hf : f < 2) (hok : ∀ x ∈ L, oc_ok x) (hL : L.length ≤ 36) (hY : oc_Y L n cS cF cL cB cT) (hA : L = A ++ y :: B) (hy : oc_M x l f y) (hn : ∀ z ∈ A, ¬ oc_M x l f z) (p : post (nI A.length)) : wpY_oldest post (n, hc, rl, jn, gd, lb, cS, cF, cL, cB, cT) x l (nI f) := by
  unfold wpY_oldest
  have g : ∀ A2 A1 : List oc_C, A = A1 ++ A2 → wY_oldest_3 post x l (nI f) n hc rl jn gd lb cS cF cL cB cT (A2.length + 1) (nI A1.length) := by
    intro A2
    induction A2 with
    | nil =>
      intro A1 h1
      rw [List.append_nil] at h1
      subst h1
      have hil : A.length < L.length := by
        rw [hA, List.length_append, List.length_cons]
        omega
      have hat := oc_Y_at hY (by rw [hA]; exact oc_mid A B y)
      have hi : vp_in (nI A.length) 36 := vp_in_nI (by omega) (by omega)
      have e1 : (nI A.length).toNatClampNeg = A.length := nI_clamp (by omega)
      obtain ⟨o1, o2, o3⟩ := hok y (by rw [hA]; simp)
      obtain ⟨m1, m2, m3⟩ := hy
      refine br_f (by rw [hY.1]; exact nI_ge (by omega) (by omega)) ⟨hi, oc_3n, ?_⟩
      rw [e1, hat.1, hat.2.1, hat.2.2.1, oc_d3 (by omega)]
      exact br_t m1 ⟨hi, br_t m2 ⟨hi, br_t (by rw [m3]) p⟩⟩
    | cons z A2 ih =>
      intro A1 h1
      have g := ih (A1 ++ [z]) (by rw [List.append_assoc, List.singleton_append]; exact h1)
      rw [List.length_append, List.length_singleton] at g
      refine oc_y_old_s (y := z) hf hok hL hY ?_ (hn z (by rw [h1]; simp)) g
      rw [hA, h1, List.append_assoc]
      exact oc_mid A1 _ z
  exact ⟨A.length + 1, g A [] rfl⟩
theorem oc_y_wait {post : Int32 → Prop} {x l : Int32} {f : Nat} (P : oc_C → Bool) (hf : f < 2) (hok : ∀ x ∈ L, oc_ok x) (hL : L.length ≤ 36) (hY : oc_Y L n cS cF cL cB cT) (hP : ∀ y ∈ L, P y = true ↔ oc_M x l f y) (p : post (nI (L.countP P))) : wpY_waiting post (n, hc, rl, jn, gd, lb, cS, cF, cL, cB, cT) x l (nI f) := by
  unfold wpY_waiting
  have g : ∀ B A : List oc_C, L = A ++ B → wY_waiting_6 post x l (nI f) n hc rl jn gd lb cS cF cL cB cT (B.length + 1) (nI (A.countP P)) (nI A.length) := by
    intro B
    induction B with
    | nil =>
      intro A hA
      rw [List.append_nil] at hA
      subst hA
      refine br_t ?_ p
      rw [hY.1]
      exact nI_le (Nat.le_refl _) (by omega)
    | cons y B ih =>
      intro A hA
      have hlen : L.length = A.length + (B.length + 1) := by rw [hA, List.length_append, List.length_cons]
      have hm : y ∈ L := by rw [hA]; simp
      have g := ih (A ++ [y]) (by rw [List.append_assoc, List.singleton_append]; exact hA)
      rw [List.countP_append, List.countP_singleton, List.length_append, List.length_singleton] at g
      have hat := oc_Y_at hY (by rw [hA]; exact oc_mid A B y)
      have hi : vp_in (nI A.length) 36 := vp_in_nI (by omega) (by omega)
      have e1 : (nI A.length).toNatClampNeg = A.length := nI_clamp (by omega)
      obtain ⟨o1, o2, o3⟩ := hok y hm
      have hPy := hP y hm
      refine br_f (by rw [hY.1]; exact nI_ge (by omega) (by omega)) ⟨hi, oc_3n, ?_⟩
      rw [e1, hat.1, hat.2.1, hat.2.2.1, oc_d3 (by omega)]
      by_cases hp : P y = true
      · obtain ⟨m1, m2, m3⟩ := hPy.mp hp
        rw [if_pos hp] at g
        exact br_t m1 ⟨hi, br_t m2 ⟨hi, br_t (by rw [m3]) (nm_r (nI_1 _) (nm_r (nI_1 _) g))⟩⟩
      · rw [if_neg hp] at g
        refine br_c (fun d1 => ⟨hi, br_c (fun d2 => ⟨hi, br_f (fun d3 => ?_) (nm_r (nI_1 _) g)⟩) (fun _ => nm_r (nI_1 _) g)⟩) (fun _ => nm_r (nI_1 _) g)
        exact hp (hPy.mpr ⟨d1, d2, (nI_eq (by omega) (by omega)).mp d3⟩)
  exact ⟨L.length + 1, g L [] rfl⟩
end
section
variable {n : Int32} {hc rl jn gd lb cS cF cL cB cT : Nat → Int32}
theorem oc_y_get_l {post : SY → Prop} {w g : Nat} {v : Int32} (hw : w < 12) (hg : gd w = nI g) (p : post (n, hc, rl, jn, upd gd w (nI (g + 1)), upd (oc_sr lb (w * 8) 0) (w * 8) v, cS, cF, cL, cB, cT)) : ∀ k : Nat, k ≤ 7 →
    wY_get_3 post (nI w) v n (k + 1) (nI k) hc rl jn gd (oc_sr lb (w * 8) k) cS cF cL cB cT := by
  intro k
  have e : (nI w).toNatClampNeg = w := nI_clamp (by omega)
  have hi : vp_in (nI w) 12 := vp_in_nI hw (by omega)
  induction k with
  | zero =>
    intro _
    refine br_t (by decide) ⟨?_, nm_r (e' := upd (oc_sr lb (w * 8) 0) (w * 8) v) ?_ ⟨hi, hi, nm_r (e' := upd gd w (nI (g + 1))) (by rw [e, hg, nI_1]) p⟩⟩
    · rw [oc_m8]
      exact vp_in_nI (by omega) (by omega)
    · rw [oc_m8, nI_clamp (by omega)]
  | succ k ih =>
    intro hk
    have e1 : nI w * 8 + nI (k + 1) = nI (w * 8 + (k + 1)) := by rw [oc_m8, nI_add]
    have e2 : nI (w * 8 + (k + 1)) - 1 = nI (w * 8 + k) := nI_pred (w * 8 + k)
    refine br_f (nI_nle (by omega) (by omega)) ?_
    rw [e1, e2]
    refine ⟨vp_in_nI (by omega) (by omega), vp_in_nI (by omega) (by omega), nm_r (e' := oc_sr lb (w * 8) k) ?_ (nm_r (pk_m1 k) (ih (by omega)))⟩
    rw [nI_clamp (by omega), nI_clamp (by omega)]
    exact oc_sr_s lb (by omega)
theorem oc_y_get {post : SY → Prop} {w g : Nat} {v : Int32} (hw : w < 12) (hg : gd w = nI g) (p : post (n, hc, rl, jn, upd gd w (nI (g + 1)), upd (oc_sr lb (w * 8) 0) (w * 8) v, cS, cF, cL, cB, cT)) :
    wpY_get post (n, hc, rl, jn, gd, lb, cS, cF, cL, cB, cT) (nI w) v := by
  unfold wpY_get
  have h := oc_y_get_l (lb := lb) hw hg p 7 (by omega)
  rw [oc_sr_0] at h
  exact ⟨8, h⟩
theorem oc_y_isoR {post : Int32 → Prop} {x y r : Int32} (h : ∀ P : Int32 → Prop, P r → wpY_refusal P (n, hc, rl, jn, gd, lb, cS, cF, cL, cB, cT) x) (hr : ¬ r = 0) (p : post 0) : wpY_isOpen post (n, hc, rl, jn, gd, lb, cS, cF, cL, cB, cT) x y := by
  unfold wpY_isOpen
  exact h _ (br_f hr p)
theorem oc_y_isoS {post : Int32 → Prop} {c : Nat} {y : Int32} (hc2 : c < 2) (h0 : ¬ hc c = 0) (h : y < 0 ∨ 3 ≤ y) (p : post 0) : wpY_isOpen post (n, hc, rl, jn, gd, lb, cS, cF, cL, cB, cT) (nI c) y := by
  unfold wpY_isOpen
  refine oc_y_ref hc2 h0 (br_t rfl (br_c (fun _ => p) (fun hn => br_t (oc_gt (a := 2) (by decide) (h.resolve_left hn)) p)))
theorem oc_y_iso0 {post : Int32 → Prop} {c s : Nat} (hc2 : c < 2) (h0 : ¬ hc c = 0) (hs : s < 3) (h : jn (c * 3 + s) < 0) (p : post 0) : wpY_isOpen post (n, hc, rl, jn, gd, lb, cS, cF, cL, cB, cT) (nI c) (nI s) := by
  unfold wpY_isOpen
  refine oc_y_ref hc2 h0 (br_t rfl (br_f (nI_pos (by omega)) (br_f ?_ ?_)))
  · exact fun z => absurd ((nI_ltI (a := 2) (by decide) (by omega)).mp z) (by omega)
  · rw [oc_m3]
    exact ⟨vp_in_nI (by omega) (by omega), br_t (by rw [nI_clamp (by omega)]; exact h) p⟩
theorem oc_y_iso1 {post : Int32 → Prop} {c s : Nat} (hc2 : c < 2) (h0 : ¬ hc c = 0) (hs : s < 3) (h : ¬ jn (c * 3 + s) < 0) (p : post 1) : wpY_isOpen post (n, hc, rl, jn, gd, lb, cS, cF, cL, cB, cT) (nI c) (nI s) := by
  unfold wpY_isOpen
  refine oc_y_ref hc2 h0 (br_t rfl (br_f (nI_pos (by omega)) (br_f ?_ ?_)))
  · exact fun z => absurd ((nI_ltI (a := 2) (by decide) (by omega)).mp z) (by omega)
  · rw [oc_m3]
    exact ⟨vp_in_nI (by omega) (by omega), br_f (by rw [nI_clamp (by omega)]; exact h) p⟩
end
