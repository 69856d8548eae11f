/-- a cell of the ghost list: its stream (0 to 5, both circuits), 1 if forward else 0, its link, its byte, its turned bits -/
abbrev oc_C : Type := Nat × Nat × Nat × Int32 × Int32
def oc_wi (x : oc_C) : Nat := x.1 * 2 + (1 - x.2.1)
def oc_qi (x : oc_C) : Nat := (x.1 / 3 * 3 + x.2.2.1) * 2 + (1 - x.2.1)
def oc_ok (x : oc_C) : Prop := x.1 < 6 ∧ x.2.1 < 2 ∧ x.2.2.1 < 3
def oc_Q (q : Nat) (L : List oc_C) : List oc_C := L.filter (fun x => oc_qi x == q)
def oc_n (w : Nat) (L : List oc_C) : Nat := L.countP (fun x => oc_wi x == w)
def oc_D (c : Nat) (L : List oc_C) : List oc_C := L.filter (fun x => !(x.1 / 3 == c))
theorem oc_Q_app_s {q : Nat} {x : oc_C} (L : List oc_C) (h : oc_qi x = q) : oc_Q q (L ++ [x]) = oc_Q q L ++ [x] := by
  simp [oc_Q, List.filter_append, h]
theorem oc_Q_app_n {q : Nat} {x : oc_C} (L : List oc_C) (h : oc_qi x ≠ q) : oc_Q q (L ++ [x]) = oc_Q q L := by
  simp [oc_Q, List.filter_append, h]
theorem oc_Q_mid_n {q : Nat} {x : oc_C} (A B : List oc_C) (h : oc_qi x ≠ q) : oc_Q q (A ++ x :: B) = oc_Q q (A ++ B) := by
  simp [oc_Q, List.filter_append, h]
theorem oc_Q_mid_s {q : Nat} {x : oc_C} (A B : List oc_C) (h : oc_qi x = q) (hA : ∀ y ∈ A, oc_qi y ≠ q) : oc_Q q (A ++ x :: B) = x :: oc_Q q (A ++ B) := by
  have e : A.filter (fun y => oc_qi y == q) = [] := by
    rw [List.filter_eq_nil_iff]
    intro y hy
    simp [hA y hy]
  simp [oc_Q, List.filter_append, h, e]
theorem oc_n_app {w : Nat} {x : oc_C} (L : List oc_C) : oc_n w (L ++ [x]) = oc_n w L + if oc_wi x = w then 1 else 0 := by
  by_cases h : oc_wi x = w <;> simp [oc_n, List.countP_append, List.countP_cons, h]
theorem oc_n_mid {w : Nat} {x : oc_C} (A B : List oc_C) : oc_n w (A ++ x :: B) = oc_n w (A ++ B) + if oc_wi x = w then 1 else 0 := by
  by_cases h : oc_wi x = w <;> simp [oc_n, List.countP_append, List.countP_cons, h] <;> omega
theorem oc_first {q : Nat} {x : oc_C} {R : List oc_C} : ∀ L : List oc_C, oc_Q q L = x :: R → ∃ A B, L = A ++ x :: B ∧ oc_qi x = q ∧ (∀ y ∈ A, oc_qi y ≠ q) ∧ oc_Q q (A ++ B) = R := by
  intro L
  induction L with
  | nil => intro h; simp [oc_Q] at h
  | cons a L ih =>
    intro h
    by_cases ha : oc_qi a = q
    · have e : oc_Q q (a :: L) = a :: oc_Q q L := by simp [oc_Q, ha]
      rw [e] at h
      injection h with h1 h2
      subst h1
      exact ⟨[], L, rfl, ha, by simp, h2⟩
    · have e : oc_Q q (a :: L) = oc_Q q L := by simp [oc_Q, ha]
      rw [e] at h
      obtain ⟨A, B, rfl, hx, hA, hR⟩ := ih h
      refine ⟨a :: A, B, rfl, hx, ?_, ?_⟩
      · intro y hy
        rcases List.mem_cons.mp hy with rfl | hy
        · exact ha
        · exact hA y hy
      · rw [← hR]
        simp [oc_Q, ha]
theorem oc_n_cons {w : Nat} {x : oc_C} (L : List oc_C) : oc_n w (x :: L) = oc_n w L + if oc_wi x = w then 1 else 0 := by
  by_cases h : oc_wi x = w <;> simp [oc_n, List.countP_cons, h]
theorem oc_len : ∀ L : List oc_C, (∀ x ∈ L, oc_ok x) → L.length = oc_n 0 L + oc_n 1 L + oc_n 2 L + oc_n 3 L + oc_n 4 L + oc_n 5 L + oc_n 6 L + oc_n 7 L + oc_n 8 L + oc_n 9 L + oc_n 10 L + oc_n 11 L := by
  intro L
  induction L with
  | nil => intro _; rfl
  | cons a L ih =>
    intro h
    have ha : oc_ok a := h a (List.mem_cons_self)
    have e := ih (fun x hx => h x (List.mem_cons_of_mem _ hx))
    have hw : oc_wi a < 12 := by
      unfold oc_wi; obtain ⟨h1, h2, h3⟩ := ha; omega
    simp only [oc_n_cons, List.length_cons, e]
    have hw2 : oc_wi a = 0 ∨ oc_wi a = 1 ∨ oc_wi a = 2 ∨ oc_wi a = 3 ∨ oc_wi a = 4 ∨ oc_wi a = 5 ∨ oc_wi a = 6 ∨ oc_wi a = 7 ∨ oc_wi a = 8 ∨ oc_wi a = 9 ∨ oc_wi a = 10 ∨ oc_wi a = 11 := by omega
    rcases hw2 with hw2 | hw2 | hw2 | hw2 | hw2 | hw2 | hw2 | hw2 | hw2 | hw2 | hw2 | hw2 <;> rw [hw2] <;> simp <;> omega
/-- a queue holds no more than its circuit's three streams have under way in its direction -/
theorem oc_qlen {c l b : Nat} (hl : l < 3) (hb : b < 2) : ∀ L : List oc_C, (∀ x ∈ L, oc_ok x) → (oc_Q ((c * 3 + l) * 2 + b) L).length ≤ oc_n (c * 6 + b) L + oc_n (c * 6 + 2 + b) L + oc_n (c * 6 + 4 + b) L := by
  intro L
  induction L with
  | nil => intro _; simp [oc_Q]
  | cons a L ih =>
    intro h
    have ha : oc_ok a := h a (List.mem_cons_self)
    have e := ih (fun x hx => h x (List.mem_cons_of_mem _ hx))
    simp only [oc_n_cons]
    by_cases hq : oc_qi a = (c * 3 + l) * 2 + b
    · have e1 : oc_Q ((c * 3 + l) * 2 + b) (a :: L) = a :: oc_Q ((c * 3 + l) * 2 + b) L := by simp [oc_Q, hq]
      rw [e1, List.length_cons]
      have hw : oc_wi a = c * 6 + b ∨ oc_wi a = c * 6 + 2 + b ∨ oc_wi a = c * 6 + 4 + b := by
        unfold oc_wi; unfold oc_qi at hq; obtain ⟨h1, h2, h3⟩ := ha; omega
      rcases hw with hw | hw | hw <;> rw [if_pos hw] <;> omega
    · have e1 : oc_Q ((c * 3 + l) * 2 + b) (a :: L) = oc_Q ((c * 3 + l) * 2 + b) L := by simp [oc_Q, hq]
      rw [e1]
      omega
/-- taking a circuit's cells out: the queues and the counts of the other circuit stay, its own are empty -/
theorem oc_D_Q {c q : Nat} : ∀ L : List oc_C, (∀ x ∈ L, oc_ok x) → oc_Q q (oc_D c L) = if q / 6 = c then [] else oc_Q q L := by
  intro L
  induction L with
  | nil => intro _; simp [oc_Q, oc_D]
  | cons a L ih =>
    intro h
    have ha : oc_ok a := h a (List.mem_cons_self)
    have e := ih (fun x hx => h x (List.mem_cons_of_mem _ hx))
    have hd : oc_qi a / 6 = a.1 / 3 := by
      unfold oc_qi; obtain ⟨h1, h2, h3⟩ := ha; omega
    by_cases hc : a.1 / 3 = c
    · have e1 : oc_D c (a :: L) = oc_D c L := by simp [oc_D, hc]
      rw [e1, e]
      by_cases hq : oc_qi a = q
      · have : q / 6 = c := by rw [← hq, hd, hc]
        simp [this]
      · simp [oc_Q, hq]
    · have e1 : oc_D c (a :: L) = a :: oc_D c L := by simp [oc_D, hc]
      rw [e1]
      by_cases hq : oc_qi a = q
      · have hn : ¬ q / 6 = c := by rw [← hq, hd]; exact hc
        rw [if_neg hn] at e ⊢
        simp only [oc_Q] at e ⊢
        simp [hq, e]
      · have e2 : oc_Q q (a :: oc_D c L) = oc_Q q (oc_D c L) := by simp [oc_Q, hq]
        have e3 : oc_Q q (a :: L) = oc_Q q L := by simp [oc_Q, hq]
        rw [e2, e3, e]
theorem oc_D_n {c w : Nat} : ∀ L : List oc_C, (∀ x ∈ L, oc_ok x) → oc_n w (oc_D c L) = if w / 6 = c then 0 else oc_n w L := by
  intro L
  induction L with
  | nil => intro _; simp [oc_n, oc_D]
  | cons a L ih =>
    intro h
    have ha : oc_ok a := h a (List.mem_cons_self)
    have e := ih (fun x hx => h x (List.mem_cons_of_mem _ hx))
    have hd : oc_wi a / 6 = a.1 / 3 := by
      unfold oc_wi; obtain ⟨h1, h2, h3⟩ := ha; omega
    by_cases hc : a.1 / 3 = c
    · have e1 : oc_D c (a :: L) = oc_D c L := by simp [oc_D, hc]
      rw [e1, e, oc_n_cons]
      by_cases hq : oc_wi a = w
      · have : w / 6 = c := by rw [← hq, hd, hc]
        simp [this]
      · simp [hq]
    · have e1 : oc_D c (a :: L) = a :: oc_D c L := by simp [oc_D, hc]
      rw [e1, oc_n_cons, oc_n_cons, e]
      by_cases hq : oc_wi a = w
      · have hn : ¬ w / 6 = c := by rw [← hq, hd]; exact hc
        simp [hn]
      · simp [hq]
/-- what a circuit loses is what its six ways have under way -/
theorem oc_lost {c : Nat} : ∀ L : List oc_C, (∀ x ∈ L, oc_ok x) → L.length = (oc_D c L).length + (oc_n (c * 6) L + oc_n (c * 6 + 1) L + oc_n (c * 6 + 2) L + oc_n (c * 6 + 3) L + oc_n (c * 6 + 4) L + oc_n (c * 6 + 5) L) := by
  intro L
  induction L with
  | nil => intro _; simp [oc_n, oc_D]
  | cons a L ih =>
    intro h
    have ha : oc_ok a := h a (List.mem_cons_self)
    have e := ih (fun x hx => h x (List.mem_cons_of_mem _ hx))
    have hd : oc_wi a / 6 = a.1 / 3 := by
      unfold oc_wi; obtain ⟨h1, h2, h3⟩ := ha; omega
    simp only [oc_n_cons, List.length_cons, e]
    by_cases hc : a.1 / 3 = c
    · have e1 : oc_D c (a :: L) = oc_D c L := by simp [oc_D, hc]
      rw [e1]
      have hw : oc_wi a = c * 6 ∨ oc_wi a = c * 6 + 1 ∨ oc_wi a = c * 6 + 2 ∨ oc_wi a = c * 6 + 3 ∨ oc_wi a = c * 6 + 4 ∨ oc_wi a = c * 6 + 5 := by omega
      rcases hw with hw | hw | hw | hw | hw | hw <;> simp [hw] <;> omega
    · have e1 : oc_D c (a :: L) = a :: oc_D c L := by simp [oc_D, hc]
      rw [e1, List.length_cons]
      have n0 : oc_wi a ≠ c * 6 := by omega
      have n1 : oc_wi a ≠ c * 6 + 1 := by omega
      have n2 : oc_wi a ≠ c * 6 + 2 := by omega
      have n3 : oc_wi a ≠ c * 6 + 3 := by omega
      have n4 : oc_wi a ≠ c * 6 + 4 := by omega
      have n5 : oc_wi a ≠ c * 6 + 5 := by omega
      rw [if_neg n0, if_neg n1, if_neg n2, if_neg n3, if_neg n4, if_neg n5]
      omega
theorem oc_D_app {c : Nat} (A B : List oc_C) : oc_D c (A ++ B) = oc_D c A ++ oc_D c B := by
  simp [oc_D, List.filter_append]
theorem oc_D_s {c : Nat} {x : oc_C} (L : List oc_C) (h : x.1 / 3 = c) : oc_D c (x :: L) = oc_D c L := by
  simp [oc_D, h]
theorem oc_D_c {c : Nat} {x : oc_C} (L : List oc_C) (h : ¬ x.1 / 3 = c) : oc_D c (x :: L) = x :: oc_D c L := by
  simp [oc_D, h]
theorem oc_D_mid {c : Nat} {x : oc_C} (A B : List oc_C) (h : x.1 / 3 = c) : oc_D c (A ++ x :: B) = oc_D c (A ++ B) := by
  rw [oc_D_app, oc_D_app, oc_D_s B h]
theorem oc_D_mem {c : Nat} {x : oc_C} {L : List oc_C} (h : x ∈ oc_D c L) : x ∈ L ∧ ¬ x.1 / 3 = c := by
  have := List.mem_filter.mp h
  refine ⟨this.1, fun e => ?_⟩
  have h2 := this.2
  simp [e] at h2
theorem oc_Q_mem {q : Nat} {x : oc_C} {L : List oc_C} (h : x ∈ oc_Q q L) : x ∈ L ∧ oc_qi x = q := by
  have := List.mem_filter.mp h
  refine ⟨this.1, ?_⟩
  have h2 := this.2
  simpa using h2
theorem oc_Q_nil {q : Nat} {L : List oc_C} (h : (oc_Q q L).length = 0) : ∀ x ∈ L, oc_qi x ≠ q := by
  intro x hx e
  have : x ∈ oc_Q q L := List.mem_filter.mpr ⟨hx, by simp [e]⟩
  rw [List.length_eq_zero_iff.mp h] at this
  cases this
theorem oc_n_set {w : Nat} {x y : oc_C} (A B : List oc_C) (h : oc_wi y = oc_wi x) : oc_n w (A ++ y :: B) = oc_n w (A ++ x :: B) := by
  rw [oc_n_mid, oc_n_mid, h]
theorem oc_n_on {w : Nat} {x y : oc_C} (A B : List oc_C) (h : oc_wi y = oc_wi x) : oc_n w (A ++ B ++ [y]) = oc_n w (A ++ x :: B) := by
  rw [oc_n_app, oc_n_mid A B, h]
theorem oc_Q_set_n {q : Nat} {x y : oc_C} (A B : List oc_C) (hx : oc_qi x ≠ q) (hy : oc_qi y ≠ q) : oc_Q q (A ++ y :: B) = oc_Q q (A ++ x :: B) := by
  rw [oc_Q_mid_n A B hx, oc_Q_mid_n A B hy]
