/-- a filled with v from p to before e -/
def oc_fl (a : Nat → Int32) (p e : Nat) (v : Int32) : Nat → Int32 := fun i => if p ≤ i ∧ i < e then v else a i
theorem oc_fl_0 (a : Nat → Int32) (p : Nat) (v : Int32) : oc_fl a p p v = a := by
  funext i
  exact if_neg (by omega)
theorem oc_fl_s (a : Nat → Int32) {p e : Nat} (v : Int32) (h : p ≤ e) : upd (oc_fl a p e v) e v = oc_fl a p (e + 1) v := by
  funext i
  by_cases hi : i = e
  · subst hi
    rw [pk_us]
    exact (if_pos (by omega)).symm
  · rw [pk_un hi]
    unfold oc_fl
    by_cases h2 : p ≤ i ∧ i < e
    · rw [if_pos h2, if_pos (by omega)]
    · rw [if_neg h2, if_neg (by omega)]
theorem oc_fl_in {a : Nat → Int32} {p e i : Nat} {v : Int32} (h1 : p ≤ i) (h2 : i < e) : oc_fl a p e v i = v := if_pos ⟨h1, h2⟩
theorem oc_fl_out {a : Nat → Int32} {p e i : Nat} {v : Int32} (h : i < p ∨ e ≤ i) : oc_fl a p e v i = a i := if_neg (by omega)
/-- a with the places from p to before e filled from the place behind each -/
def oc_sh (a : Nat → Int32) (p e : Nat) : Nat → Int32 := fun i => if p ≤ i ∧ i < e then a (i + 1) else a i
theorem oc_sh_0 (a : Nat → Int32) (p : Nat) : oc_sh a p p = a := by
  funext i
  exact if_neg (by omega)
theorem oc_sh_s (a : Nat → Int32) {p e : Nat} (h : p ≤ e) : upd (oc_sh a p e) e (oc_sh a p e (e + 1)) = oc_sh a p (e + 1) := by
  funext i
  have e1 : oc_sh a p e (e + 1) = a (e + 1) := if_neg (by omega)
  rw [e1]
  by_cases hi : i = e
  · subst hi
    rw [pk_us]
    exact (if_pos (by omega)).symm
  · rw [pk_un hi]
    unfold oc_sh
    by_cases h2 : p ≤ i ∧ i < e
    · rw [if_pos h2, if_pos (by omega)]
    · rw [if_neg h2, if_neg (by omega)]
theorem oc_sh_out {a : Nat → Int32} {p e i : Nat} (h : i < p ∨ e ≤ i) : oc_sh a p e i = a i := if_neg (by omega)
/-- a with the places p+7 down to p+k+1 filled from the place ahead of each -/
def oc_sr (a : Nat → Int32) (p k : Nat) : Nat → Int32 := fun i => if p + k < i ∧ i ≤ p + 7 then a (i - 1) else a i
theorem oc_sr_0 (a : Nat → Int32) (p : Nat) : oc_sr a p 7 = a := by
  funext i
  exact if_neg (by omega)
theorem oc_sr_s (a : Nat → Int32) {p k : Nat} (h : k < 7) : upd (oc_sr a p (k + 1)) (p + (k + 1)) (oc_sr a p (k + 1) (p + k)) = oc_sr a p k := by
  funext i
  have e1 : oc_sr a p (k + 1) (p + k) = a (p + k) := if_neg (by omega)
  rw [e1]
  by_cases hi : i = p + (k + 1)
  · subst hi
    rw [pk_us]
    unfold oc_sr
    rw [if_pos (by omega)]
    rfl
  · rw [pk_un hi]
    unfold oc_sr
    by_cases h2 : p + (k + 1) < i ∧ i ≤ p + 7
    · rw [if_pos h2, if_pos (by omega)]
    · rw [if_neg h2, if_neg (by omega)]
/-- a holds f of the cells of L, from the place o on -/
def oc_ar (a : Nat → Int32) (o : Nat) (f : oc_C → Int32) (L : List oc_C) : Prop := ∀ i x, L[i]? = some x → a (o + i) = f x
theorem oc_ar_nil {a : Nat → Int32} {o : Nat} {f : oc_C → Int32} : oc_ar a o f [] := by
  intro i x h
  simp at h
theorem oc_ar_lt {L : List oc_C} {i : Nat} {x : oc_C} (h : L[i]? = some x) : i < L.length := (List.getElem?_eq_some_iff.mp h).1
theorem oc_ar_keep {a b : Nat → Int32} {o : Nat} {f : oc_C → Int32} {L : List oc_C} (h : oc_ar a o f L) (hk : ∀ i, i < L.length → b (o + i) = a (o + i)) : oc_ar b o f L := by
  intro i x hx
  rw [hk i (oc_ar_lt hx)]
  exact h i x hx
theorem oc_ar_push {a : Nat → Int32} {o : Nat} {f : oc_C → Int32} {L : List oc_C} {x : oc_C} (h : oc_ar a o f L) : oc_ar (upd a (o + L.length) (f x)) o f (L ++ [x]) := by
  intro i y hy
  by_cases hi : i < L.length
  · rw [List.getElem?_append_left hi] at hy
    rw [pk_un (by omega)]
    exact h i y hy
  · have hl := oc_ar_lt hy
    rw [List.length_append, List.length_singleton] at hl
    have e : i = L.length := by omega
    subst e
    simp at hy
    subst hy
    exact pk_us
theorem oc_ar_cut {a : Nat → Int32} {o : Nat} {f : oc_C → Int32} {A B : List oc_C} {x : oc_C} (h : oc_ar a o f (A ++ x :: B)) : oc_ar (oc_sh a (o + A.length) (o + A.length + B.length)) o f (A ++ B) := by
  intro i y hy
  by_cases hi : i < A.length
  · rw [List.getElem?_append_left hi] at hy
    have e : (A ++ x :: B)[i]? = some y := by
      rw [List.getElem?_append_left hi]
      exact hy
    rw [oc_sh_out (by omega)]
    exact h i y e
  · rw [List.getElem?_append_right (by omega)] at hy
    have hl : i - A.length < B.length := oc_ar_lt hy
    have e : (A ++ x :: B)[i + 1]? = some y := by
      rw [List.getElem?_append_right (by omega), show i + 1 - A.length = (i - A.length) + 1 by omega, List.getElem?_cons_succ]
      exact hy
    have e2 := h (i + 1) y e
    unfold oc_sh
    rw [if_pos (by omega)]
    exact e2
theorem oc_ar_at {a : Nat → Int32} {o : Nat} {f : oc_C → Int32} {A B : List oc_C} {x : oc_C} (h : oc_ar a o f (A ++ x :: B)) : a (o + A.length) = f x := h _ x (by simp)
theorem oc_ar_set {a : Nat → Int32} {o : Nat} {f : oc_C → Int32} {A B : List oc_C} {x : oc_C} (y : oc_C) (h : oc_ar a o f (A ++ x :: B)) : oc_ar (upd a (o + A.length) (f y)) o f (A ++ y :: B) := by
  intro i z hz
  by_cases hi : i = A.length
  · subst hi
    simp at hz
    subst hz
    exact pk_us
  · rw [pk_un (by omega)]
    refine h i z ?_
    by_cases hl : i < A.length
    · rw [List.getElem?_append_left hl] at hz ⊢
      exact hz
    · rw [List.getElem?_append_right (by omega)] at hz ⊢
      rw [show i - A.length = (i - A.length - 1) + 1 by omega, List.getElem?_cons_succ] at hz ⊢
      exact hz
theorem oc_ar_same {a : Nat → Int32} {o : Nat} {f : oc_C → Int32} {A B : List oc_C} {x : oc_C} (y : oc_C) (h : oc_ar a o f (A ++ x :: B)) (e : f y = f x) : oc_ar a o f (A ++ y :: B) := by
  have h2 := oc_ar_set y h
  refine oc_ar_keep h2 (fun i hi => ?_)
  by_cases hi : i = A.length
  · subst hi
    rw [pk_us, e]
    exact oc_ar_at h
  · rw [pk_un (by omega)]
/-- the reference's cells are L -/
def oc_Y (L : List oc_C) (n : Int32) (cS cF cL cB cT : Nat → Int32) : Prop :=
  n = nI L.length ∧ oc_ar cS 0 (fun x => nI x.1) L ∧ oc_ar cF 0 (fun x => nI x.2.1) L ∧ oc_ar cL 0 (fun x => nI x.2.2.1) L ∧ oc_ar cB 0 (fun x => x.2.2.2.1) L ∧ oc_ar cT 0 (fun x => x.2.2.2.2) L
theorem oc_Y_at {L : List oc_C} {n : Int32} {cS cF cL cB cT : Nat → Int32} (h : oc_Y L n cS cF cL cB cT) {i : Nat} {x : oc_C} (hx : L[i]? = some x) : cS i = nI x.1 ∧ cF i = nI x.2.1 ∧ cL i = nI x.2.2.1 ∧ cB i = x.2.2.2.1 ∧ cT i = x.2.2.2.2 := by
  obtain ⟨_, h1, h2, h3, h4, h5⟩ := h
  have e := Nat.zero_add i
  have g1 := h1 i x hx
  have g2 := h2 i x hx
  have g3 := h3 i x hx
  have g4 := h4 i x hx
  have g5 := h5 i x hx
  rw [e] at g1 g2 g3 g4 g5
  exact ⟨g1, g2, g3, g4, g5⟩
theorem oc_Y_push {L : List oc_C} {n : Int32} {cS cF cL cB cT : Nat → Int32} (x : oc_C) (h : oc_Y L n cS cF cL cB cT) :
    oc_Y (L ++ [x]) (nI (L.length + 1)) (upd cS L.length (nI x.1)) (upd cF L.length (nI x.2.1)) (upd cL L.length (nI x.2.2.1)) (upd cB L.length x.2.2.2.1) (upd cT L.length x.2.2.2.2) := by
  obtain ⟨_, h1, h2, h3, h4, h5⟩ := h
  have g1 := oc_ar_push (x := x) h1
  have g2 := oc_ar_push (x := x) h2
  have g3 := oc_ar_push (x := x) h3
  have g4 := oc_ar_push (x := x) h4
  have g5 := oc_ar_push (x := x) h5
  rw [Nat.zero_add] at g1 g2 g3 g4 g5
  refine ⟨by rw [List.length_append, List.length_singleton], g1, g2, g3, g4, g5⟩
theorem oc_Y_cut {A B : List oc_C} {x : oc_C} {n : Int32} {cS cF cL cB cT : Nat → Int32} (h : oc_Y (A ++ x :: B) n cS cF cL cB cT) :
    oc_Y (A ++ B) (nI (A.length + B.length)) (oc_sh cS A.length (A.length + B.length)) (oc_sh cF A.length (A.length + B.length)) (oc_sh cL A.length (A.length + B.length)) (oc_sh cB A.length (A.length + B.length)) (oc_sh cT A.length (A.length + B.length)) := by
  obtain ⟨_, h1, h2, h3, h4, h5⟩ := h
  have g1 := oc_ar_cut h1
  have g2 := oc_ar_cut h2
  have g3 := oc_ar_cut h3
  have g4 := oc_ar_cut h4
  have g5 := oc_ar_cut h5
  rw [Nat.zero_add] at g1 g2 g3 g4 g5
  refine ⟨by rw [List.length_append], g1, g2, g3, g4, g5⟩
theorem oc_Y_set {A B : List oc_C} {x : oc_C} {n : Int32} {cS cF cL cB cT : Nat → Int32} (t : Int32) (h : oc_Y (A ++ x :: B) n cS cF cL cB cT) :
    oc_Y (A ++ (x.1, x.2.1, x.2.2.1, x.2.2.2.1, t) :: B) n cS cF cL cB (upd cT A.length t) := by
  obtain ⟨h0, h1, h2, h3, h4, h5⟩ := h
  have g5 := oc_ar_set (x.1, x.2.1, x.2.2.1, x.2.2.2.1, t) h5
  rw [Nat.zero_add] at g5
  refine ⟨?_, oc_ar_same _ h1 rfl, oc_ar_same _ h2 rfl, oc_ar_same _ h3 rfl, oc_ar_same _ h4 rfl, g5⟩
  rw [h0, List.length_append, List.length_append]
  rfl
/-- the component's queue q holds Q -/
def oc_X1 (q : Nat) (Q : List oc_C) (ql cS cB cT : Nat → Int32) : Prop :=
  ql q = nI Q.length ∧ oc_ar cS (q * 9) (fun x => nI (x.1 % 3)) Q ∧ oc_ar cB (q * 9) (fun x => x.2.2.2.1) Q ∧ oc_ar cT (q * 9) (fun x => x.2.2.2.2) Q ∧ Q.length ≤ 9
def oc_X (L : List oc_C) (ql cS cB cT : Nat → Int32) : Prop := ∀ q, q < 12 → oc_X1 q (oc_Q q L) ql cS cB cT
theorem oc_X1_keep {q : Nat} {Q : List oc_C} {ql cS cB cT ql' cS' cB' cT' : Nat → Int32} (h : oc_X1 q Q ql cS cB cT) (h0 : ql' q = ql q)
    (h1 : ∀ i, i < 9 → cS' (q * 9 + i) = cS (q * 9 + i)) (h2 : ∀ i, i < 9 → cB' (q * 9 + i) = cB (q * 9 + i)) (h3 : ∀ i, i < 9 → cT' (q * 9 + i) = cT (q * 9 + i)) : oc_X1 q Q ql' cS' cB' cT' := by
  obtain ⟨g0, g1, g2, g3, g4⟩ := h
  exact ⟨h0.trans g0, oc_ar_keep g1 (fun i hi => h1 i (by omega)), oc_ar_keep g2 (fun i hi => h2 i (by omega)), oc_ar_keep g3 (fun i hi => h3 i (by omega)), g4⟩
theorem oc_X_push {L : List oc_C} {ql cS cB cT : Nat → Int32} {x : oc_C} {q : Nat} (h : oc_X L ql cS cB cT) (hq : q < 12) (hx : oc_qi x = q) (hl : (oc_Q q L).length < 9) :
    oc_X (L ++ [x]) (upd ql q (nI ((oc_Q q L).length + 1))) (upd cS (q * 9 + (oc_Q q L).length) (nI (x.1 % 3))) (upd cB (q * 9 + (oc_Q q L).length) x.2.2.2.1) (upd cT (q * 9 + (oc_Q q L).length) x.2.2.2.2) := by
  intro p hp
  by_cases e : p = q
  · subst e
    obtain ⟨g0, g1, g2, g3, g4⟩ := h p hp
    rw [oc_Q_app_s L hx]
    refine ⟨?_, oc_ar_push (x := x) g1, oc_ar_push (x := x) g2, oc_ar_push (x := x) g3, ?_⟩
    · rw [pk_us, List.length_append, List.length_singleton]
    · rw [List.length_append, List.length_singleton]
      omega
  · rw [oc_Q_app_n L (fun z => e (z.symm.trans hx))]
    exact oc_X1_keep (h p hp) (pk_un e) (fun i hi => pk_un (by omega)) (fun i hi => pk_un (by omega)) (fun i hi => pk_un (by omega))
theorem oc_X_cut {A B : List oc_C} {ql cS cB cT : Nat → Int32} {x : oc_C} {q : Nat} (h : oc_X (A ++ x :: B) ql cS cB cT) (hq : q < 12) (hx : oc_qi x = q) (hA : ∀ y ∈ A, oc_qi y ≠ q) :
    oc_X (A ++ B) (upd ql q (nI (oc_Q q (A ++ B)).length)) (oc_sh cS (q * 9) (q * 9 + (oc_Q q (A ++ B)).length)) (oc_sh cB (q * 9) (q * 9 + (oc_Q q (A ++ B)).length)) (oc_sh cT (q * 9) (q * 9 + (oc_Q q (A ++ B)).length)) := by
  intro p hp
  have hql : (oc_Q q (A ++ x :: B)).length ≤ 9 := (h q hq).2.2.2.2
  rw [oc_Q_mid_s A B hx hA, List.length_cons] at hql
  by_cases e : p = q
  · subst e
    obtain ⟨g0, g1, g2, g3, g4⟩ := h p hp
    rw [oc_Q_mid_s A B hx hA] at g0 g1 g2 g3 g4
    refine ⟨pk_us, ?_, ?_, ?_, by omega⟩
    · exact oc_ar_cut (A := []) g1
    · exact oc_ar_cut (A := []) g2
    · exact oc_ar_cut (A := []) g3
  · have h1 := h p hp
    rw [oc_Q_mid_n A B (fun z => e (z.symm.trans hx))] at h1
    exact oc_X1_keep h1 (pk_un e) (fun i hi => oc_sh_out (by omega)) (fun i hi => oc_sh_out (by omega)) (fun i hi => oc_sh_out (by omega))
theorem oc_X_set {A B : List oc_C} {ql cS cB cT : Nat → Int32} {x : oc_C} {q : Nat} (t : Int32) (h : oc_X (A ++ x :: B) ql cS cB cT) (hq : q < 12) (hx : oc_qi x = q) (hA : ∀ y ∈ A, oc_qi y ≠ q) :
    oc_X (A ++ (x.1, x.2.1, x.2.2.1, x.2.2.2.1, t) :: B) ql cS cB (upd cT (q * 9) t) := by
  intro p hp
  have hy : oc_qi (x.1, x.2.1, x.2.2.1, x.2.2.2.1, t) = oc_qi x := rfl
  by_cases e : p = q
  · subst e
    obtain ⟨g0, g1, g2, g3, g4⟩ := h p hp
    rw [oc_Q_mid_s A B hx hA] at g0 g1 g2 g3 g4
    rw [oc_Q_mid_s A B (hy.trans hx) hA]
    refine ⟨g0, oc_ar_same (A := []) _ g1 rfl, oc_ar_same (A := []) _ g2 rfl, ?_, g4⟩
    exact oc_ar_set (A := []) (x.1, x.2.1, x.2.2.1, x.2.2.2.1, t) g3
  · have hn : oc_qi x ≠ p := fun z => e (z.symm.trans hx)
    rw [oc_Q_set_n A B hn (fun z => hn (hy.symm.trans z))]
    exact oc_X1_keep (h p hp) rfl (fun _ _ => rfl) (fun _ _ => rfl) (fun i hi => pk_un (by omega))
theorem oc_X_D {L : List oc_C} {ql cS cB cT : Nat → Int32} {c : Nat} (h : oc_X L ql cS cB cT) (hok : ∀ x ∈ L, oc_ok x) :
    oc_X (oc_D c L) (oc_fl ql (c * 6) (c * 6 + 6) 0) cS cB cT := by
  intro p hp
  rw [oc_D_Q L hok]
  by_cases e : p / 6 = c
  · rw [if_pos e]
    exact ⟨oc_fl_in (by omega) (by omega), oc_ar_nil, oc_ar_nil, oc_ar_nil, Nat.zero_le _⟩
  · rw [if_neg e]
    exact oc_X1_keep (h p hp) (oc_fl_out (by omega)) (fun _ _ => rfl) (fun _ _ => rfl) (fun _ _ => rfl)
theorem oc_X_at {A B : List oc_C} {ql cS cB cT : Nat → Int32} {x : oc_C} {q : Nat} (h : oc_X (A ++ x :: B) ql cS cB cT) (hq : q < 12) (hx : oc_qi x = q) (hA : ∀ y ∈ A, oc_qi y ≠ q) :
    ql q = nI ((oc_Q q (A ++ B)).length + 1) ∧ cS (q * 9) = nI (x.1 % 3) ∧ cB (q * 9) = x.2.2.2.1 ∧ cT (q * 9) = x.2.2.2.2 ∧ (oc_Q q (A ++ B)).length < 9 := by
  obtain ⟨g0, g1, g2, g3, g4⟩ := h q hq
  rw [oc_Q_mid_s A B hx hA] at g0 g1 g2 g3 g4
  rw [List.length_cons] at g0 g4
  exact ⟨g0, g1 0 x rfl, g2 0 x rfl, g3 0 x rfl, by omega⟩
