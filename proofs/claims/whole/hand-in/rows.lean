section
/-! rows of kit/rows/PURE-ROWS, as they stand -/
theorem pk_us {f : Nat → Int32} {k : Nat} {x : Int32} : upd f k x k = x := if_pos rfl
theorem pk_un {f : Nat → Int32} {k j : Nat} {x : Int32} (h : j ≠ k) : upd f k x j = f j := if_neg h
theorem pk_sub {a b : Nat} (h : b ≤ a) : nI a - nI b = nI (a - b) := by
  obtain ⟨c, rfl⟩ : ∃ c, a = c + b := ⟨a - b, by omega⟩
  rw [← nI_add, Int32.add_sub_cancel, Nat.add_sub_cancel]
theorem pk_m1 (n : Nat) : nI (n + 1) + (-1) = nI n := by
  rw [← nI_1, Int32.add_assoc, show (1 : Int32) + (-1) = 0 from rfl, Int32.add_zero]
theorem pk_mul (a b : Nat) : nI a * nI b = nI (a * b) := (Int32.ofNat_mul a b).symm
theorem pk_div {a d : Nat} (ha : a < 2 ^ 31) (h0 : 0 < d) (hd : d < 2 ^ 31) : nI a / nI d = nI (a / d) := by
  apply Int32.toInt_inj.mp
  rw [lg_idiv_nonneg (by rw [nI_toInt ha]; omega) (by rw [nI_toInt hd]; omega), nI_toInt ha, nI_toInt hd, nI_toInt (Nat.lt_of_le_of_lt (Nat.div_le_self a d) ha)]
  first | rfl | exact (Int.natCast_ediv _ _).symm
theorem pk_ix (x : Int32) {n : Nat} (hn : n < 2 ^ 31) : x < 0 ∨ nI n ≤ x ∨ ∃ j : Nat, j < n ∧ x = nI j := by
  by_cases h : x < 0
  · exact Or.inl h
  · obtain ⟨j, hj, rfl⟩ := nI_of h
    by_cases h2 : j < n
    · exact Or.inr (Or.inr ⟨j, h2, rfl⟩)
    · exact Or.inr (Or.inl (nI_le (by omega) hj))
theorem pk_le {x y : Int32} {A B : Prop} (a b : Nat) (f : a ≤ b → A) (g : b < a → B) (hx : x = nI a := by rfl) (hy : y = nI b := by rfl) (ha : a < 2 ^ 31 := by omega) (hb : b < 2 ^ 31 := by omega) : (x ≤ y → A) ∧ (¬ x ≤ y → B) := by
  subst hx hy
  rw [nI_leI ha hb]
  exact ⟨f, fun z => g (by omega)⟩
theorem pk_lt {x y : Int32} {A B : Prop} (a b : Nat) (f : a < b → A) (g : b ≤ a → B) (hx : x = nI a := by rfl) (hy : y = nI b := by rfl) (ha : a < 2 ^ 31 := by omega) (hb : b < 2 ^ 31 := by omega) : (x < y → A) ∧ (¬ x < y → B) := by
  subst hx hy
  rw [nI_ltI ha hb]
  exact ⟨f, fun z => g (by omega)⟩
theorem pk_eq {x y : Int32} {A B : Prop} (a b : Nat) (f : a = b → A) (g : a ≠ b → B) (hx : x = nI a := by rfl) (hy : y = nI b := by rfl) (ha : a < 2 ^ 31 := by omega) (hb : b < 2 ^ 31 := by omega) : (x = y → A) ∧ (¬ x = y → B) := by
  subst hx hy
  rw [nI_eq ha hb]
  exact ⟨f, g⟩
theorem pk_in {x : Int32} (n N : Nat) (h : n < N) (hx : x = nI n := by rfl) (hN : N < 2 ^ 31 := by omega) : vp_in x N := by
  subst hx
  exact vp_in_nI h hN
theorem pk_cl {x : Int32} (n : Nat) (hx : x = nI n := by rfl) (h : n < 2 ^ 31 := by omega) : x.toNatClampNeg = n := by
  subst hx
  exact nI_clamp h
theorem pk_tn {n : Nat} (h : n < 2 ^ 32) : (nI n).toBitVec.toNat = n := Nat.mod_eq_of_lt h
theorem pk_and (x : Int32) {m : Int32} (k : Nat) (hm : m.toBitVec.toNat = 2 ^ k - 1) : x &&& m = nI (x.toBitVec.toNat % 2 ^ k) := by
  apply Int32.toBitVec_inj.mp
  apply BitVec.eq_of_toNat_eq
  rw [Int32.toBitVec_and, BitVec.toNat_and, hm, Nat.and_two_pow_sub_one_eq_mod]
  show _ = (BitVec.ofNat 32 _).toNat
  rw [BitVec.toNat_ofNat]
  exact (Nat.mod_eq_of_lt (Nat.lt_of_le_of_lt (Nat.mod_le _ _) x.toBitVec.isLt)).symm
theorem pk_andN {n : Nat} (h : n < 2 ^ 32) {m : Int32} (k : Nat) (hm : m.toBitVec.toNat = 2 ^ k - 1) : nI n &&& m = nI (n % 2 ^ k) := by
  rw [pk_and _ k hm, pk_tn h]
theorem pk_loop {σ : Type} (W : Nat → Nat → σ → Prop) (I : Nat → σ → Prop) (e i0 : Nat) (s : σ) (hi : i0 ≤ e) (h0 : I i0 s) (hx : ∀ n s, I e s → W (n + 1) e s)
    (hs : ∀ n i s, i < e → I i s → (∀ s', I (i + 1) s' → W n (i + 1) s') → W (n + 1) i s) : ∃ n, W n i0 s :=
  ⟨e + 1, loop_i W I e hx hs (e + 1) i0 s hi (by omega) h0⟩
theorem pk_loopD {σ : Type} (W : Nat → Nat → σ → Prop) (I : Nat → σ → Prop) (hx : ∀ n s, I 0 s → W (n + 1) 0 s)
    (hs : ∀ n i s, I (i + 1) s → (∀ s', I i s' → W n i s') → W (n + 1) (i + 1) s) : ∀ (e : Nat) (s : σ), I e s → W (e + 1) e s := by
  intro e
  induction e with
  | zero => exact fun s h => hx 0 s h
  | succ e ih => exact fun s h => hs (e + 1) e s h (fun s' h' => ih s' h')
end
section
/-- a cell of the ghost list: its stream (0 to 5, both circuits), 1 if forward else 0, its link, its byte, its turned bits -/
abbrev oc_C : Type := Nat × Nat × Nat × Int32 × Int32
def oc_wi (x : oc_C) : Nat := x.1 * 2 + (1 - x.2.1)
def oc_qi (x : oc_C) : Nat := (x.1 / 3 * 3 + x.2.2.1) * 2 + (1 - x.2.1)
def oc_ok (x : oc_C) : Prop := x.1 < 6 ∧ x.2.1 < 2 ∧ x.2.2.1 < 3
def oc_Q (q : Nat) (L : List oc_C) : List oc_C := L.filter (fun x => oc_qi x == q)
def oc_n (w : Nat) (L : List oc_C) : Nat := L.countP (fun x => oc_wi x == w)
def oc_D (c : Nat) (L : List oc_C) : List oc_C := L.filter (fun x => !(x.1 / 3 == c))
theorem oc_Q_app_s {q : Nat} {x : oc_C} (L : List oc_C) (h : oc_qi x = q) : oc_Q q (L ++ [x]) = oc_Q q L ++ [x] := by
  simp [oc_Q, List.filter_append, h]
theorem oc_Q_app_n {q : Nat} {x : oc_C} (L : List oc_C) (h : oc_qi x ≠ q) : oc_Q q (L ++ [x]) = oc_Q q L := by
  simp [oc_Q, List.filter_append, h]
theorem oc_Q_mid_n {q : Nat} {x : oc_C} (A B : List oc_C) (h : oc_qi x ≠ q) : oc_Q q (A ++ x :: B) = oc_Q q (A ++ B) := by
  simp [oc_Q, List.filter_append, h]
theorem oc_Q_mid_s {q : Nat} {x : oc_C} (A B : List oc_C) (h : oc_qi x = q) (hA : ∀ y ∈ A, oc_qi y ≠ q) : oc_Q q (A ++ x :: B) = x :: oc_Q q (A ++ B) := by
  have e : A.filter (fun y => oc_qi y == q) = [] := by
    rw [List.filter_eq_nil_iff]
    intro y hy
    simp [hA y hy]
  simp [oc_Q, List.filter_append, h, e]
theorem oc_n_app {w : Nat} {x : oc_C} (L : List oc_C) : oc_n w (L ++ [x]) = oc_n w L + if oc_wi x = w then 1 else 0 := by
  by_cases h : oc_wi x = w <;> simp [oc_n, List.countP_append, List.countP_cons, h]
theorem oc_n_mid {w : Nat} {x : oc_C} (A B : List oc_C) : oc_n w (A ++ x :: B) = oc_n w (A ++ B) + if oc_wi x = w then 1 else 0 := by
  by_cases h : oc_wi x = w <;> simp [oc_n, List.countP_append, List.countP_cons, h] <;> omega
theorem oc_first {q : Nat} {x : oc_C} {R : List oc_C} : ∀ L : List oc_C, oc_Q q L = x :: R → ∃ A B, L = A ++ x :: B ∧ oc_qi x = q ∧ (∀ y ∈ A, oc_qi y ≠ q) ∧ oc_Q q (A ++ B) = R := by
  intro L
  induction L with
  | nil => intro h; simp [oc_Q] at h
  | cons a L ih =>
    intro h
    by_cases ha : oc_qi a = q
    · have e : oc_Q q (a :: L) = a :: oc_Q q L := by simp [oc_Q, ha]
      rw [e] at h
      injection h with h1 h2
      subst h1
      exact ⟨[], L, rfl, ha, by simp, h2⟩
    · have e : oc_Q q (a :: L) = oc_Q q L := by simp [oc_Q, ha]
      rw [e] at h
      obtain ⟨A, B, rfl, hx, hA, hR⟩ := ih h
      refine ⟨a :: A, B, rfl, hx, ?_, ?_⟩
      · intro y hy
        rcases List.mem_cons.mp hy with rfl | hy
        · exact ha
        · exact hA y hy
      · rw [← hR]
        simp [oc_Q, ha]
theorem oc_n_cons {w : Nat} {x : oc_C} (L : List oc_C) : oc_n w (x :: L) = oc_n w L + if oc_wi x = w then 1 else 0 := by
  by_cases h : oc_wi x = w <;> simp [oc_n, List.countP_cons, h]
theorem oc_len : ∀ L : List oc_C, (∀ x ∈ L, oc_ok x) → L.length = oc_n 0 L + oc_n 1 L + oc_n 2 L + oc_n 3 L + oc_n 4 L + oc_n 5 L + oc_n 6 L + oc_n 7 L + oc_n 8 L + oc_n 9 L + oc_n 10 L + oc_n 11 L := by
  intro L
  induction L with
  | nil => intro _; rfl
  | cons a L ih =>
    intro h
    have ha : oc_ok a := h a (List.mem_cons_self)
    have e := ih (fun x hx => h x (List.mem_cons_of_mem _ hx))
    have hw : oc_wi a < 12 := by
      unfold oc_wi; obtain ⟨h1, h2, h3⟩ := ha; omega
    simp only [oc_n_cons, List.length_cons, e]
    have hw2 : oc_wi a = 0 ∨ oc_wi a = 1 ∨ oc_wi a = 2 ∨ oc_wi a = 3 ∨ oc_wi a = 4 ∨ oc_wi a = 5 ∨ oc_wi a = 6 ∨ oc_wi a = 7 ∨ oc_wi a = 8 ∨ oc_wi a = 9 ∨ oc_wi a = 10 ∨ oc_wi a = 11 := by omega
    rcases hw2 with hw2 | hw2 | hw2 | hw2 | hw2 | hw2 | hw2 | hw2 | hw2 | hw2 | hw2 | hw2 <;> rw [hw2] <;> simp <;> omega
/-- a queue holds no more than its circuit's three streams have under way in its direction -/
theorem oc_qlen {c l b : Nat} (hl : l < 3) (hb : b < 2) : ∀ L : List oc_C, (∀ x ∈ L, oc_ok x) → (oc_Q ((c * 3 + l) * 2 + b) L).length ≤ oc_n (c * 6 + b) L + oc_n (c * 6 + 2 + b) L + oc_n (c * 6 + 4 + b) L := by
  intro L
  induction L with
  | nil => intro _; simp [oc_Q]
  | cons a L ih =>
    intro h
    have ha : oc_ok a := h a (List.mem_cons_self)
    have e := ih (fun x hx => h x (List.mem_cons_of_mem _ hx))
    simp only [oc_n_cons]
    by_cases hq : oc_qi a = (c * 3 + l) * 2 + b
    · have e1 : oc_Q ((c * 3 + l) * 2 + b) (a :: L) = a :: oc_Q ((c * 3 + l) * 2 + b) L := by simp [oc_Q, hq]
      rw [e1, List.length_cons]
      have hw : oc_wi a = c * 6 + b ∨ oc_wi a = c * 6 + 2 + b ∨ oc_wi a = c * 6 + 4 + b := by
        unfold oc_wi; unfold oc_qi at hq; obtain ⟨h1, h2, h3⟩ := ha; omega
      rcases hw with hw | hw | hw <;> rw [if_pos hw] <;> omega
    · have e1 : oc_Q ((c * 3 + l) * 2 + b) (a :: L) = oc_Q ((c * 3 + l) * 2 + b) L := by simp [oc_Q, hq]
      rw [e1]
      omega
/-- taking a circuit's cells out: the queues and the counts of the other circuit stay, its own are empty -/
theorem oc_D_Q {c q : Nat} : ∀ L : List oc_C, (∀ x ∈ L, oc_ok x) → oc_Q q (oc_D c L) = if q / 6 = c then [] else oc_Q q L := by
  intro L
  induction L with
  | nil => intro _; simp [oc_Q, oc_D]
  | cons a L ih =>
    intro h
    have ha : oc_ok a := h a (List.mem_cons_self)
    have e := ih (fun x hx => h x (List.mem_cons_of_mem _ hx))
    have hd : oc_qi a / 6 = a.1 / 3 := by
      unfold oc_qi; obtain ⟨h1, h2, h3⟩ := ha; omega
    by_cases hc : a.1 / 3 = c
    · have e1 : oc_D c (a :: L) = oc_D c L := by simp [oc_D, hc]
      rw [e1, e]
      by_cases hq : oc_qi a = q
      · have : q / 6 = c := by rw [← hq, hd, hc]
        simp [this]
      · simp [oc_Q, hq]
    · have e1 : oc_D c (a :: L) = a :: oc_D c L := by simp [oc_D, hc]
      rw [e1]
      by_cases hq : oc_qi a = q
      · have hn : ¬ q / 6 = c := by rw [← hq, hd]; exact hc
        rw [if_neg hn] at e ⊢
        simp only [oc_Q] at e ⊢
        simp [hq, e]
      · have e2 : oc_Q q (a :: oc_D c L) = oc_Q q (oc_D c L) := by simp [oc_Q, hq]
        have e3 : oc_Q q (a :: L) = oc_Q q L := by simp [oc_Q, hq]
        rw [e2, e3, e]
theorem oc_D_n {c w : Nat} : ∀ L : List oc_C, (∀ x ∈ L, oc_ok x) → oc_n w (oc_D c L) = if w / 6 = c then 0 else oc_n w L := by
  intro L
  induction L with
  | nil => intro _; simp [oc_n, oc_D]
  | cons a L ih =>
    intro h
    have ha : oc_ok a := h a (List.mem_cons_self)
    have e := ih (fun x hx => h x (List.mem_cons_of_mem _ hx))
    have hd : oc_wi a / 6 = a.1 / 3 := by
      unfold oc_wi; obtain ⟨h1, h2, h3⟩ := ha; omega
    by_cases hc : a.1 / 3 = c
    · have e1 : oc_D c (a :: L) = oc_D c L := by simp [oc_D, hc]
      rw [e1, e, oc_n_cons]
      by_cases hq : oc_wi a = w
      · have : w / 6 = c := by rw [← hq, hd, hc]
        simp [this]
      · simp [hq]
    · have e1 : oc_D c (a :: L) = a :: oc_D c L := by simp [oc_D, hc]
      rw [e1, oc_n_cons, oc_n_cons, e]
      by_cases hq : oc_wi a = w
      · have hn : ¬ w / 6 = c := by rw [← hq, hd]; exact hc
        simp [hn]
      · simp [hq]
/-- what a circuit loses is what its six ways have under way -/
theorem oc_lost {c : Nat} : ∀ L : List oc_C, (∀ x ∈ L, oc_ok x) → L.length = (oc_D c L).length + (oc_n (c * 6) L + oc_n (c * 6 + 1) L + oc_n (c * 6 + 2) L + oc_n (c * 6 + 3) L + oc_n (c * 6 + 4) L + oc_n (c * 6 + 5) L) := by
  intro L
  induction L with
  | nil => intro _; simp [oc_n, oc_D]
  | cons a L ih =>
    intro h
    have ha : oc_ok a := h a (List.mem_cons_self)
    have e := ih (fun x hx => h x (List.mem_cons_of_mem _ hx))
    have hd : oc_wi a / 6 = a.1 / 3 := by
      unfold oc_wi; obtain ⟨h1, h2, h3⟩ := ha; omega
    simp only [oc_n_cons, List.length_cons, e]
    by_cases hc : a.1 / 3 = c
    · have e1 : oc_D c (a :: L) = oc_D c L := by simp [oc_D, hc]
      rw [e1]
      have hw : oc_wi a = c * 6 ∨ oc_wi a = c * 6 + 1 ∨ oc_wi a = c * 6 + 2 ∨ oc_wi a = c * 6 + 3 ∨ oc_wi a = c * 6 + 4 ∨ oc_wi a = c * 6 + 5 := by omega
      rcases hw with hw | hw | hw | hw | hw | hw <;> simp [hw] <;> omega
    · have e1 : oc_D c (a :: L) = a :: oc_D c L := by simp [oc_D, hc]
      rw [e1, List.length_cons]
      have n0 : oc_wi a ≠ c * 6 := by omega
      have n1 : oc_wi a ≠ c * 6 + 1 := by omega
      have n2 : oc_wi a ≠ c * 6 + 2 := by omega
      have n3 : oc_wi a ≠ c * 6 + 3 := by omega
      have n4 : oc_wi a ≠ c * 6 + 4 := by omega
      have n5 : oc_wi a ≠ c * 6 + 5 := by omega
      rw [if_neg n0, if_neg n1, if_neg n2, if_neg n3, if_neg n4, if_neg n5]
      omega
theorem oc_D_app {c : Nat} (A B : List oc_C) : oc_D c (A ++ B) = oc_D c A ++ oc_D c B := by
  simp [oc_D, List.filter_append]
theorem oc_D_s {c : Nat} {x : oc_C} (L : List oc_C) (h : x.1 / 3 = c) : oc_D c (x :: L) = oc_D c L := by
  simp [oc_D, h]
theorem oc_D_c {c : Nat} {x : oc_C} (L : List oc_C) (h : ¬ x.1 / 3 = c) : oc_D c (x :: L) = x :: oc_D c L := by
  simp [oc_D, h]
theorem oc_D_mid {c : Nat} {x : oc_C} (A B : List oc_C) (h : x.1 / 3 = c) : oc_D c (A ++ x :: B) = oc_D c (A ++ B) := by
  rw [oc_D_app, oc_D_app, oc_D_s B h]
theorem oc_D_mem {c : Nat} {x : oc_C} {L : List oc_C} (h : x ∈ oc_D c L) : x ∈ L ∧ ¬ x.1 / 3 = c := by
  have := List.mem_filter.mp h
  refine ⟨this.1, fun e => ?_⟩
  have h2 := this.2
  simp [e] at h2
theorem oc_Q_mem {q : Nat} {x : oc_C} {L : List oc_C} (h : x ∈ oc_Q q L) : x ∈ L ∧ oc_qi x = q := by
  have := List.mem_filter.mp h
  refine ⟨this.1, ?_⟩
  have h2 := this.2
  simpa using h2
theorem oc_Q_nil {q : Nat} {L : List oc_C} (h : (oc_Q q L).length = 0) : ∀ x ∈ L, oc_qi x ≠ q := by
  intro x hx e
  have : x ∈ oc_Q q L := List.mem_filter.mpr ⟨hx, by simp [e]⟩
  rw [List.length_eq_zero_iff.mp h] at this
  cases this
theorem oc_n_set {w : Nat} {x y : oc_C} (A B : List oc_C) (h : oc_wi y = oc_wi x) : oc_n w (A ++ y :: B) = oc_n w (A ++ x :: B) := by
  rw [oc_n_mid, oc_n_mid, h]
theorem oc_n_on {w : Nat} {x y : oc_C} (A B : List oc_C) (h : oc_wi y = oc_wi x) : oc_n w (A ++ B ++ [y]) = oc_n w (A ++ x :: B) := by
  rw [oc_n_app, oc_n_mid A B, h]
theorem oc_Q_set_n {q : Nat} {x y : oc_C} (A B : List oc_C) (hx : oc_qi x ≠ q) (hy : oc_qi y ≠ q) : oc_Q q (A ++ y :: B) = oc_Q q (A ++ x :: B) := by
  rw [oc_Q_mid_n A B hx, oc_Q_mid_n A B hy]
end
section
/-- a filled with v from p to before e -/
def oc_fl (a : Nat → Int32) (p e : Nat) (v : Int32) : Nat → Int32 := fun i => if p ≤ i ∧ i < e then v else a i
theorem oc_fl_0 (a : Nat → Int32) (p : Nat) (v : Int32) : oc_fl a p p v = a := by
  funext i
  exact if_neg (by omega)
theorem oc_fl_s (a : Nat → Int32) {p e : Nat} (v : Int32) (h : p ≤ e) : upd (oc_fl a p e v) e v = oc_fl a p (e + 1) v := by
  funext i
  by_cases hi : i = e
  · subst hi
    rw [pk_us]
    exact (if_pos (by omega)).symm
  · rw [pk_un hi]
    unfold oc_fl
    by_cases h2 : p ≤ i ∧ i < e
    · rw [if_pos h2, if_pos (by omega)]
    · rw [if_neg h2, if_neg (by omega)]
theorem oc_fl_in {a : Nat → Int32} {p e i : Nat} {v : Int32} (h1 : p ≤ i) (h2 : i < e) : oc_fl a p e v i = v := if_pos ⟨h1, h2⟩
theorem oc_fl_out {a : Nat → Int32} {p e i : Nat} {v : Int32} (h : i < p ∨ e ≤ i) : oc_fl a p e v i = a i := if_neg (by omega)
/-- a with the places from p to before e filled from the place behind each -/
def oc_sh (a : Nat → Int32) (p e : Nat) : Nat → Int32 := fun i => if p ≤ i ∧ i < e then a (i + 1) else a i
theorem oc_sh_0 (a : Nat → Int32) (p : Nat) : oc_sh a p p = a := by
  funext i
  exact if_neg (by omega)
theorem oc_sh_s (a : Nat → Int32) {p e : Nat} (h : p ≤ e) : upd (oc_sh a p e) e (oc_sh a p e (e + 1)) = oc_sh a p (e + 1) := by
  funext i
  have e1 : oc_sh a p e (e + 1) = a (e + 1) := if_neg (by omega)
  rw [e1]
  by_cases hi : i = e
  · subst hi
    rw [pk_us]
    exact (if_pos (by omega)).symm
  · rw [pk_un hi]
    unfold oc_sh
    by_cases h2 : p ≤ i ∧ i < e
    · rw [if_pos h2, if_pos (by omega)]
    · rw [if_neg h2, if_neg (by omega)]
theorem oc_sh_out {a : Nat → Int32} {p e i : Nat} (h : i < p ∨ e ≤ i) : oc_sh a p e i = a i := if_neg (by omega)
/-- a with the places p+7 down to p+k+1 filled from the place ahead of each -/
def oc_sr (a : Nat → Int32) (p k : Nat) : Nat → Int32 := fun i => if p + k < i ∧ i ≤ p + 7 then a (i - 1) else a i
theorem oc_sr_0 (a : Nat → Int32) (p : Nat) : oc_sr a p 7 = a := by
  funext i
  exact if_neg (by omega)
theorem oc_sr_s (a : Nat → Int32) {p k : Nat} (h : k < 7) : upd (oc_sr a p (k + 1)) (p + (k + 1)) (oc_sr a p (k + 1) (p + k)) = oc_sr a p k := by
  funext i
  have e1 : oc_sr a p (k + 1) (p + k) = a (p + k) := if_neg (by omega)
  rw [e1]
  by_cases hi : i = p + (k + 1)
  · subst hi
    rw [pk_us]
    unfold oc_sr
    rw [if_pos (by omega)]
    rfl
  · rw [pk_un hi]
    unfold oc_sr
    by_cases h2 : p + (k + 1) < i ∧ i ≤ p + 7
    · rw [if_pos h2, if_pos (by omega)]
    · rw [if_neg h2, if_neg (by omega)]
/-- a holds f of the cells of L, from the place o on -/
def oc_ar (a : Nat → Int32) (o : Nat) (f : oc_C → Int32) (L : List oc_C) : Prop := ∀ i x, L[i]? = some x → a (o + i) = f x
theorem oc_ar_nil {a : Nat → Int32} {o : Nat} {f : oc_C → Int32} : oc_ar a o f [] := by
  intro i x h
  simp at h
theorem oc_ar_lt {L : List oc_C} {i : Nat} {x : oc_C} (h : L[i]? = some x) : i < L.length := (List.getElem?_eq_some_iff.mp h).1
theorem oc_ar_keep {a b : Nat → Int32} {o : Nat} {f : oc_C → Int32} {L : List oc_C} (h : oc_ar a o f L) (hk : ∀ i, i < L.length → b (o + i) = a (o + i)) : oc_ar b o f L := by
  intro i x hx
  rw [hk i (oc_ar_lt hx)]
  exact h i x hx
theorem oc_ar_push {a : Nat → Int32} {o : Nat} {f : oc_C → Int32} {L : List oc_C} {x : oc_C} (h : oc_ar a o f L) : oc_ar (upd a (o + L.length) (f x)) o f (L ++ [x]) := by
  intro i y hy
  by_cases hi : i < L.length
  · rw [List.getElem?_append_left hi] at hy
    rw [pk_un (by omega)]
    exact h i y hy
  · have hl := oc_ar_lt hy
    rw [List.length_append, List.length_singleton] at hl
    have e : i = L.length := by omega
    subst e
    simp at hy
    subst hy
    exact pk_us
theorem oc_ar_cut {a : Nat → Int32} {o : Nat} {f : oc_C → Int32} {A B : List oc_C} {x : oc_C} (h : oc_ar a o f (A ++ x :: B)) : oc_ar (oc_sh a (o + A.length) (o + A.length + B.length)) o f (A ++ B) := by
  intro i y hy
  by_cases hi : i < A.length
  · rw [List.getElem?_append_left hi] at hy
    have e : (A ++ x :: B)[i]? = some y := by
      rw [List.getElem?_append_left hi]
      exact hy
    rw [oc_sh_out (by omega)]
    exact h i y e
  · rw [List.getElem?_append_right (by omega)] at hy
    have hl : i - A.length < B.length := oc_ar_lt hy
    have e : (A ++ x :: B)[i + 1]? = some y := by
      rw [List.getElem?_append_right (by omega), show i + 1 - A.length = (i - A.length) + 1 by omega, List.getElem?_cons_succ]
      exact hy
    have e2 := h (i + 1) y e
    unfold oc_sh
    rw [if_pos (by omega)]
    exact e2
theorem oc_ar_at {a : Nat → Int32} {o : Nat} {f : oc_C → Int32} {A B : List oc_C} {x : oc_C} (h : oc_ar a o f (A ++ x :: B)) : a (o + A.length) = f x := h _ x (by simp)
theorem oc_ar_set {a : Nat → Int32} {o : Nat} {f : oc_C → Int32} {A B : List oc_C} {x : oc_C} (y : oc_C) (h : oc_ar a o f (A ++ x :: B)) : oc_ar (upd a (o + A.length) (f y)) o f (A ++ y :: B) := by
  intro i z hz
  by_cases hi : i = A.length
  · subst hi
    simp at hz
    subst hz
    exact pk_us
  · rw [pk_un (by omega)]
    refine h i z ?_
    by_cases hl : i < A.length
    · rw [List.getElem?_append_left hl] at hz ⊢
      exact hz
    · rw [List.getElem?_append_right (by omega)] at hz ⊢
      rw [show i - A.length = (i - A.length - 1) + 1 by omega, List.getElem?_cons_succ] at hz ⊢
      exact hz
theorem oc_ar_same {a : Nat → Int32} {o : Nat} {f : oc_C → Int32} {A B : List oc_C} {x : oc_C} (y : oc_C) (h : oc_ar a o f (A ++ x :: B)) (e : f y = f x) : oc_ar a o f (A ++ y :: B) := by
  have h2 := oc_ar_set y h
  refine oc_ar_keep h2 (fun i hi => ?_)
  by_cases hi : i = A.length
  · subst hi
    rw [pk_us, e]
    exact oc_ar_at h
  · rw [pk_un (by omega)]
/-- the reference's cells are L -/
def oc_Y (L : List oc_C) (n : Int32) (cS cF cL cB cT : Nat → Int32) : Prop :=
  n = nI L.length ∧ oc_ar cS 0 (fun x => nI x.1) L ∧ oc_ar cF 0 (fun x => nI x.2.1) L ∧ oc_ar cL 0 (fun x => nI x.2.2.1) L ∧ oc_ar cB 0 (fun x => x.2.2.2.1) L ∧ oc_ar cT 0 (fun x => x.2.2.2.2) L
theorem oc_Y_at {L : List oc_C} {n : Int32} {cS cF cL cB cT : Nat → Int32} (h : oc_Y L n cS cF cL cB cT) {i : Nat} {x : oc_C} (hx : L[i]? = some x) : cS i = nI x.1 ∧ cF i = nI x.2.1 ∧ cL i = nI x.2.2.1 ∧ cB i = x.2.2.2.1 ∧ cT i = x.2.2.2.2 := by
  obtain ⟨_, h1, h2, h3, h4, h5⟩ := h
  have e := Nat.zero_add i
  have g1 := h1 i x hx
  have g2 := h2 i x hx
  have g3 := h3 i x hx
  have g4 := h4 i x hx
  have g5 := h5 i x hx
  rw [e] at g1 g2 g3 g4 g5
  exact ⟨g1, g2, g3, g4, g5⟩
theorem oc_Y_push {L : List oc_C} {n : Int32} {cS cF cL cB cT : Nat → Int32} (x : oc_C) (h : oc_Y L n cS cF cL cB cT) :
    oc_Y (L ++ [x]) (nI (L.length + 1)) (upd cS L.length (nI x.1)) (upd cF L.length (nI x.2.1)) (upd cL L.length (nI x.2.2.1)) (upd cB L.length x.2.2.2.1) (upd cT L.length x.2.2.2.2) := by
  obtain ⟨_, h1, h2, h3, h4, h5⟩ := h
  have g1 := oc_ar_push (x := x) h1
  have g2 := oc_ar_push (x := x) h2
  have g3 := oc_ar_push (x := x) h3
  have g4 := oc_ar_push (x := x) h4
  have g5 := oc_ar_push (x := x) h5
  rw [Nat.zero_add] at g1 g2 g3 g4 g5
  refine ⟨by rw [List.length_append, List.length_singleton], g1, g2, g3, g4, g5⟩
theorem oc_Y_cut {A B : List oc_C} {x : oc_C} {n : Int32} {cS cF cL cB cT : Nat → Int32} (h : oc_Y (A ++ x :: B) n cS cF cL cB cT) :
    oc_Y (A ++ B) (nI (A.length + B.length)) (oc_sh cS A.length (A.length + B.length)) (oc_sh cF A.length (A.length + B.length)) (oc_sh cL A.length (A.length + B.length)) (oc_sh cB A.length (A.length + B.length)) (oc_sh cT A.length (A.length + B.length)) := by
  obtain ⟨_, h1, h2, h3, h4, h5⟩ := h
  have g1 := oc_ar_cut h1
  have g2 := oc_ar_cut h2
  have g3 := oc_ar_cut h3
  have g4 := oc_ar_cut h4
  have g5 := oc_ar_cut h5
  rw [Nat.zero_add] at g1 g2 g3 g4 g5
  refine ⟨by rw [List.length_append], g1, g2, g3, g4, g5⟩
theorem oc_Y_set {A B : List oc_C} {x : oc_C} {n : Int32} {cS cF cL cB cT : Nat → Int32} (t : Int32) (h : oc_Y (A ++ x :: B) n cS cF cL cB cT) :
    oc_Y (A ++ (x.1, x.2.1, x.2.2.1, x.2.2.2.1, t) :: B) n cS cF cL cB (upd cT A.length t) := by
  obtain ⟨h0, h1, h2, h3, h4, h5⟩ := h
  have g5 := oc_ar_set (x.1, x.2.1, x.2.2.1, x.2.2.2.1, t) h5
  rw [Nat.zero_add] at g5
  refine ⟨?_, oc_ar_same _ h1 rfl, oc_ar_same _ h2 rfl, oc_ar_same _ h3 rfl, oc_ar_same _ h4 rfl, g5⟩
  rw [h0, List.length_append, List.length_append]
  rfl
/-- the component's queue q holds Q -/
def oc_X1 (q : Nat) (Q : List oc_C) (ql cS cB cT : Nat → Int32) : Prop :=
  ql q = nI Q.length ∧ oc_ar cS (q * 9) (fun x => nI (x.1 % 3)) Q ∧ oc_ar cB (q * 9) (fun x => x.2.2.2.1) Q ∧ oc_ar cT (q * 9) (fun x => x.2.2.2.2) Q ∧ Q.length ≤ 9
def oc_X (L : List oc_C) (ql cS cB cT : Nat → Int32) : Prop := ∀ q, q < 12 → oc_X1 q (oc_Q q L) ql cS cB cT
theorem oc_X1_keep {q : Nat} {Q : List oc_C} {ql cS cB cT ql' cS' cB' cT' : Nat → Int32} (h : oc_X1 q Q ql cS cB cT) (h0 : ql' q = ql q)
    (h1 : ∀ i, i < 9 → cS' (q * 9 + i) = cS (q * 9 + i)) (h2 : ∀ i, i < 9 → cB' (q * 9 + i) = cB (q * 9 + i)) (h3 : ∀ i, i < 9 → cT' (q * 9 + i) = cT (q * 9 + i)) : oc_X1 q Q ql' cS' cB' cT' := by
  obtain ⟨g0, g1, g2, g3, g4⟩ := h
  exact ⟨h0.trans g0, oc_ar_keep g1 (fun i hi => h1 i (by omega)), oc_ar_keep g2 (fun i hi => h2 i (by omega)), oc_ar_keep g3 (fun i hi => h3 i (by omega)), g4⟩
theorem oc_X_push {L : List oc_C} {ql cS cB cT : Nat → Int32} {x : oc_C} {q : Nat} (h : oc_X L ql cS cB cT) (hq : q < 12) (hx : oc_qi x = q) (hl : (oc_Q q L).length < 9) :
    oc_X (L ++ [x]) (upd ql q (nI ((oc_Q q L).length + 1))) (upd cS (q * 9 + (oc_Q q L).length) (nI (x.1 % 3))) (upd cB (q * 9 + (oc_Q q L).length) x.2.2.2.1) (upd cT (q * 9 + (oc_Q q L).length) x.2.2.2.2) := by
  intro p hp
  by_cases e : p = q
  · subst e
    obtain ⟨g0, g1, g2, g3, g4⟩ := h p hp
    rw [oc_Q_app_s L hx]
    refine ⟨?_, oc_ar_push (x := x) g1, oc_ar_push (x := x) g2, oc_ar_push (x := x) g3, ?_⟩
    · rw [pk_us, List.length_append, List.length_singleton]
    · rw [List.length_append, List.length_singleton]
      omega
  · rw [oc_Q_app_n L (fun z => e (z.symm.trans hx))]
    exact oc_X1_keep (h p hp) (pk_un e) (fun i hi => pk_un (by omega)) (fun i hi => pk_un (by omega)) (fun i hi => pk_un (by omega))
theorem oc_X_cut {A B : List oc_C} {ql cS cB cT : Nat → Int32} {x : oc_C} {q : Nat} (h : oc_X (A ++ x :: B) ql cS cB cT) (hq : q < 12) (hx : oc_qi x = q) (hA : ∀ y ∈ A, oc_qi y ≠ q) :
    oc_X (A ++ B) (upd ql q (nI (oc_Q q (A ++ B)).length)) (oc_sh cS (q * 9) (q * 9 + (oc_Q q (A ++ B)).length)) (oc_sh cB (q * 9) (q * 9 + (oc_Q q (A ++ B)).length)) (oc_sh cT (q * 9) (q * 9 + (oc_Q q (A ++ B)).length)) := by
  intro p hp
  have hql : (oc_Q q (A ++ x :: B)).length ≤ 9 := (h q hq).2.2.2.2
  rw [oc_Q_mid_s A B hx hA, List.length_cons] at hql
  by_cases e : p = q
  · subst e
    obtain ⟨g0, g1, g2, g3, g4⟩ := h p hp
    rw [oc_Q_mid_s A B hx hA] at g0 g1 g2 g3 g4
    refine ⟨pk_us, ?_, ?_, ?_, by omega⟩
    · exact oc_ar_cut (A := []) g1
    · exact oc_ar_cut (A := []) g2
    · exact oc_ar_cut (A := []) g3
  · have h1 := h p hp
    rw [oc_Q_mid_n A B (fun z => e (z.symm.trans hx))] at h1
    exact oc_X1_keep h1 (pk_un e) (fun i hi => oc_sh_out (by omega)) (fun i hi => oc_sh_out (by omega)) (fun i hi => oc_sh_out (by omega))
theorem oc_X_set {A B : List oc_C} {ql cS cB cT : Nat → Int32} {x : oc_C} {q : Nat} (t : Int32) (h : oc_X (A ++ x :: B) ql cS cB cT) (hq : q < 12) (hx : oc_qi x = q) (hA : ∀ y ∈ A, oc_qi y ≠ q) :
    oc_X (A ++ (x.1, x.2.1, x.2.2.1, x.2.2.2.1, t) :: B) ql cS cB (upd cT (q * 9) t) := by
  intro p hp
  have hy : oc_qi (x.1, x.2.1, x.2.2.1, x.2.2.2.1, t) = oc_qi x := rfl
  by_cases e : p = q
  · subst e
    obtain ⟨g0, g1, g2, g3, g4⟩ := h p hp
    rw [oc_Q_mid_s A B hx hA] at g0 g1 g2 g3 g4
    rw [oc_Q_mid_s A B (hy.trans hx) hA]
    refine ⟨g0, oc_ar_same (A := []) _ g1 rfl, oc_ar_same (A := []) _ g2 rfl, ?_, g4⟩
    exact oc_ar_set (A := []) (x.1, x.2.1, x.2.2.1, x.2.2.2.1, t) g3
  · have hn : oc_qi x ≠ p := fun z => e (z.symm.trans hx)
    rw [oc_Q_set_n A B hn (fun z => hn (hy.symm.trans z))]
    exact oc_X1_keep (h p hp) rfl (fun _ _ => rfl) (fun _ _ => rfl) (fun i hi => pk_un (by omega))
theorem oc_X_D {L : List oc_C} {ql cS cB cT : Nat → Int32} {c : Nat} (h : oc_X L ql cS cB cT) (hok : ∀ x ∈ L, oc_ok x) :
    oc_X (oc_D c L) (oc_fl ql (c * 6) (c * 6 + 6) 0) cS cB cT := by
  intro p hp
  rw [oc_D_Q L hok]
  by_cases e : p / 6 = c
  · rw [if_pos e]
    exact ⟨oc_fl_in (by omega) (by omega), oc_ar_nil, oc_ar_nil, oc_ar_nil, Nat.zero_le _⟩
  · rw [if_neg e]
    exact oc_X1_keep (h p hp) (oc_fl_out (by omega)) (fun _ _ => rfl) (fun _ _ => rfl) (fun _ _ => rfl)
theorem oc_X_at {A B : List oc_C} {ql cS cB cT : Nat → Int32} {x : oc_C} {q : Nat} (h : oc_X (A ++ x :: B) ql cS cB cT) (hq : q < 12) (hx : oc_qi x = q) (hA : ∀ y ∈ A, oc_qi y ≠ q) :
    ql q = nI ((oc_Q q (A ++ B)).length + 1) ∧ cS (q * 9) = nI (x.1 % 3) ∧ cB (q * 9) = x.2.2.2.1 ∧ cT (q * 9) = x.2.2.2.2 ∧ (oc_Q q (A ++ B)).length < 9 := by
  obtain ⟨g0, g1, g2, g3, g4⟩ := h q hq
  rw [oc_Q_mid_s A B hx hA] at g0 g1 g2 g3 g4
  rw [List.length_cons] at g0 g4
  exact ⟨g0, g1 0 x rfl, g2 0 x rfl, g3 0 x rfl, by omega⟩
end
section
/-- a function of naturals with one place changed -/
def oc_u (f : Nat → Nat) (k m : Nat) : Nat → Nat := fun i => if i = k then m else f i
theorem oc_us {f : Nat → Nat} {k m : Nat} : oc_u f k m k = m := if_pos rfl
theorem oc_un {f : Nat → Nat} {k m i : Nat} (h : i ≠ k) : oc_u f k m i = f i := if_neg h
/-- what a circuit that is taken down leaves of f, d places a circuit -/
def oc_z (f : Nat → Nat) (d c : Nat) : Nat → Nat := fun i => if i / d = c then 0 else f i
theorem oc_zs {f : Nat → Nat} {d c i : Nat} (h : i / d = c) : oc_z f d c i = 0 := if_pos h
theorem oc_zn {f : Nat → Nat} {d c i : Nat} (h : ¬ i / d = c) : oc_z f d c i = f i := if_neg h
/-- hops -/
def oc_H (N : Nat → Nat) (hc : Nat → Int32) : Prop := ∀ c, c < 2 → hc c = nI (N c) ∧ N c ≤ 3
theorem oc_H_u {N : Nat → Nat} {hc : Nat → Int32} (h : oc_H N hc) (c m : Nat) (hm : m ≤ 3) : oc_H (oc_u N c m) (upd hc c (nI m)) := by
  intro d hd
  by_cases e : d = c
  · subst e
    rw [oc_us, pk_us]
    exact ⟨rfl, hm⟩
  · rw [oc_un e, pk_un e]
    exact h d hd
/-- relays -/
def oc_P (N : Nat → Nat) (rh rl : Nat → Int32) : Prop := ∀ c r, c < 2 → r < 5 →
  (rh (c * 5 + r) = 0 ∧ ∀ h, h < N c → rl (c * 3 + h) ≠ nI r) ∨ (rh (c * 5 + r) = 1 ∧ ∃ h, h < N c ∧ rl (c * 3 + h) = nI r)
theorem oc_P_ext {N : Nat → Nat} {hc rh rl : Nat → Int32} {c r : Nat} (hH : oc_H N hc) (h : oc_P N rh rl) (hc2 : c < 2) (hr : r < 5) (hn : N c < 3) :
    oc_P (oc_u N c (N c + 1)) (upd rh (c * 5 + r) 1) (upd rl (c * 3 + N c) (nI r)) := by
  intro d s hd hs
  by_cases e : d = c
  · subst e
    rw [oc_us]
    by_cases e2 : s = r
    · subst e2
      exact Or.inr ⟨pk_us, N d, by omega, pk_us⟩
    · rw [pk_un (by omega)]
      rcases h d s hd hs with ⟨h1, h2⟩ | ⟨h1, t, h2, h3⟩
      · refine Or.inl ⟨h1, fun t ht => ?_⟩
        by_cases e3 : t = N d
        · subst e3
          rw [pk_us]
          exact fun z => e2 ((nI_eq (by omega) (by omega)).mp z).symm
        · rw [pk_un (by omega)]
          exact h2 t (by omega)
      · exact Or.inr ⟨h1, t, by omega, by rw [pk_un (by omega)]; exact h3⟩
  · have h3 := (hH d hd).2
    rw [oc_un e, pk_un (by omega)]
    rcases h d s hd hs with ⟨h1, h2⟩ | ⟨h1, t, h2, h4⟩
    · exact Or.inl ⟨h1, fun t ht => by rw [pk_un (by omega)]; exact h2 t ht⟩
    · exact Or.inr ⟨h1, t, h2, by rw [pk_un (by omega)]; exact h4⟩
theorem oc_P_des {N : Nat → Nat} {rh rl : Nat → Int32} {c : Nat} (h : oc_P N rh rl) :
    oc_P (oc_u N c 0) (oc_fl rh (c * 5) (c * 5 + 5) 0) rl := by
  intro d s hd hs
  by_cases e : d = c
  · subst e
    rw [oc_us]
    exact Or.inl ⟨oc_fl_in (by omega) (by omega), fun t ht => absurd ht (Nat.not_lt_zero t)⟩
  · rw [oc_un e, oc_fl_out (by omega)]
    exact h d s hd hs
/-- streams: J is 0 for a closed one, else one more than its hop -/
def oc_J (N J : Nat → Nat) (so sh jn : Nat → Int32) : Prop := ∀ s, s < 6 →
  (J s = 0 ∧ so s = 0 ∧ jn s = -1) ∨ (∃ j, j < 3 ∧ J s = j + 1 ∧ so s = 1 ∧ sh s = nI j ∧ jn s = nI j ∧ 0 < N (s / 3))
theorem oc_J_ext {N J : Nat → Nat} {so sh jn : Nat → Int32} (h : oc_J N J so sh jn) (c : Nat) : oc_J (oc_u N c (N c + 1)) J so sh jn := by
  intro s hs
  rcases h s hs with h1 | ⟨j, h1, h2, h3, h4, h5, h6⟩
  · exact Or.inl h1
  · refine Or.inr ⟨j, h1, h2, h3, h4, h5, ?_⟩
    by_cases e : s / 3 = c
    · rw [e, oc_us]
      omega
    · rw [oc_un e]
      exact h6
theorem oc_J_open {N J : Nat → Nat} {so sh jn : Nat → Int32} (h : oc_J N J so sh jn) {p j : Nat} (hj : j < 3) (hN : N (p / 3) = j + 1) :
    oc_J N (oc_u J p (j + 1)) (upd so p 1) (upd sh p (nI j)) (upd jn p (nI j)) := by
  intro s hs
  by_cases e : s = p
  · subst e
    rw [oc_us]
    exact Or.inr ⟨j, hj, rfl, pk_us, pk_us, pk_us, by omega⟩
  · rw [oc_un e, pk_un e, pk_un e, pk_un e]
    exact h s hs
theorem oc_J_des {N J : Nat → Nat} {so sh jn : Nat → Int32} (h : oc_J N J so sh jn) (c : Nat) :
    oc_J (oc_u N c 0) (oc_z J 3 c) (oc_fl so (c * 3) (c * 3 + 3) 0) sh (oc_fl jn (c * 3) (c * 3 + 3) (-1)) := by
  intro s hs
  by_cases e : s / 3 = c
  · exact Or.inl ⟨oc_zs e, oc_fl_in (by omega) (by omega), oc_fl_in (by omega) (by omega)⟩
  · rw [oc_zn e, oc_fl_out (by omega), oc_fl_out (by omega), oc_un e]
    exact h s hs
/-- how many bytes each way has got -/
def oc_G (k : Nat) (J G : Nat → Nat) (gc gd : Nat → Int32) : Prop := ∀ w, w < 12 →
  gc w = nI (G w) ∧ G w ≤ k ∧ (J (w / 2) = 0 → G w = 0) ∧ (0 < J (w / 2) → gd w = nI (G w))
theorem oc_G_up {k m : Nat} {J G : Nat → Nat} {gc gd : Nat → Int32} (h : oc_G k J G gc gd) (hm : k ≤ m) : oc_G m J G gc gd := by
  intro w hw
  obtain ⟨h1, h2, h3, h4⟩ := h w hw
  exact ⟨h1, Nat.le_trans h2 hm, h3, h4⟩
theorem oc_G_open {k : Nat} {J G : Nat → Nat} {gc gd : Nat → Int32} (h : oc_G k J G gc gd) {p j : Nat} (hp : J p = 0) :
    oc_G k (oc_u J p (j + 1)) G gc (upd (upd gd (p * 2) 0) (p * 2 + 1) 0) := by
  intro w hw
  obtain ⟨h1, h2, h3, h4⟩ := h w hw
  by_cases e : w / 2 = p
  · have hG : G w = 0 := h3 (by rw [e]; exact hp)
    refine ⟨h1, h2, fun _ => hG, fun _ => ?_⟩
    rw [hG]
    by_cases e2 : w = p * 2 + 1
    · rw [e2, pk_us]
      exact nI_0.symm
    · rw [pk_un e2, show w = p * 2 by omega, pk_us]
      exact nI_0.symm
  · rw [oc_un e]
    refine ⟨h1, h2, h3, fun h0 => ?_⟩
    rw [pk_un (by omega), pk_un (by omega)]
    exact h4 h0
theorem oc_G_des {k : Nat} {J G : Nat → Nat} {gc gd : Nat → Int32} (h : oc_G k J G gc gd) (c : Nat) :
    oc_G k (oc_z J 3 c) (oc_z G 6 c) (oc_fl gc (c * 6) (c * 6 + 6) 0) gd := by
  intro w hw
  obtain ⟨h1, h2, h3, h4⟩ := h w hw
  by_cases e : w / 6 = c
  · have e2 : w / 2 / 3 = c := by omega
    rw [oc_zs e, oc_zs e2]
    exact ⟨(oc_fl_in (by omega) (by omega)).trans nI_0.symm, Nat.zero_le k, fun _ => rfl, fun z => absurd z (Nat.lt_irrefl 0)⟩
  · have e2 : ¬ w / 2 / 3 = c := by omega
    rw [oc_zn e, oc_zn e2, oc_fl_out (by omega)]
    exact ⟨h1, h2, h3, h4⟩
theorem oc_G_get {k : Nat} {J G : Nat → Nat} {gc gd : Nat → Int32} (h : oc_G k J G gc gd) {w : Nat} (hJ : 0 < J (w / 2)) :
    oc_G (k + 1) J (oc_u G w (G w + 1)) (upd gc w (nI (G w + 1))) (upd gd w (nI (G w + 1))) := by
  intro v hv
  obtain ⟨h1, h2, h3, h4⟩ := h v hv
  by_cases e : v = w
  · subst e
    rw [oc_us, pk_us, pk_us]
    exact ⟨rfl, by omega, fun z => by omega, fun _ => rfl⟩
  · rw [oc_un e, pk_un e, pk_un e]
    exact ⟨h1, by omega, h3, h4⟩
/-- the last eight bytes of each way: the component's ring, the reference's row -/
def oc_B (G : Nat → Nat) (gb lb : Nat → Int32) : Prop := ∀ w b, w < 12 → b < 8 → b < G w → gb (w * 8 + (G w - 1 - b) % 8) = lb (w * 8 + b)
theorem oc_B_des {G : Nat → Nat} {gb lb : Nat → Int32} (h : oc_B G gb lb) (c : Nat) : oc_B (oc_z G 6 c) gb lb := by
  intro w b hw hb hG
  by_cases e : w / 6 = c
  · rw [oc_zs e] at hG
    omega
  · rw [oc_zn e] at hG ⊢
    exact h w b hw hb hG
theorem oc_B_get {G : Nat → Nat} {gb lb : Nat → Int32} (h : oc_B G gb lb) {w : Nat} (v : Int32) :
    oc_B (oc_u G w (G w + 1)) (upd gb (w * 8 + G w % 8) v) (upd (oc_sr lb (w * 8) 0) (w * 8) v) := by
  intro x b hx hb hG
  by_cases e : x = w
  · subst e
    rw [oc_us] at hG ⊢
    by_cases e0 : b = 0
    · subst e0
      rw [show x * 8 + (G x + 1 - 1 - 0) % 8 = x * 8 + G x % 8 by omega, pk_us]
      exact pk_us.symm
    · rw [pk_un (by omega), pk_un (by omega)]
      have e1 : oc_sr lb (x * 8) 0 (x * 8 + b) = lb (x * 8 + b - 1) := if_pos (by omega)
      rw [e1, show x * 8 + b - 1 = x * 8 + (b - 1) by omega, ← h x (b - 1) hx (by omega) (by omega)]
      congr 1
      omega
  · rw [oc_un e] at hG ⊢
    rw [pk_un (by omega), pk_un (by omega)]
    have e1 : oc_sr lb (w * 8) 0 (x * 8 + b) = lb (x * 8 + b) := if_neg (by omega)
    rw [e1]
    exact h x b hx hb hG
/-- every cell is on a link of the road of a stream that is joined -/
def oc_L (J : Nat → Nat) (L : List oc_C) : Prop := ∀ x, x ∈ L → oc_ok x ∧ x.2.2.1 < J x.1
theorem oc_L_ok {J : Nat → Nat} {L : List oc_C} (h : oc_L J L) : ∀ x ∈ L, oc_ok x := fun x hx => (h x hx).1
theorem oc_L_open {J : Nat → Nat} {L : List oc_C} (h : oc_L J L) {p j : Nat} (hp : J p = 0) : oc_L (oc_u J p (j + 1)) L := by
  intro x hx
  obtain ⟨h1, h2⟩ := h x hx
  have e : x.1 ≠ p := fun z => by rw [z, hp] at h2; omega
  rw [oc_un e]
  exact ⟨h1, h2⟩
theorem oc_L_push {J : Nat → Nat} {L : List oc_C} (h : oc_L J L) {x : oc_C} (h1 : oc_ok x) (h2 : x.2.2.1 < J x.1) : oc_L J (L ++ [x]) := by
  intro y hy
  rcases List.mem_append.mp hy with hy | hy
  · exact h y hy
  · rw [List.mem_singleton.mp hy]
    exact ⟨h1, h2⟩
theorem oc_L_mid {J : Nat → Nat} {A B : List oc_C} {x : oc_C} (h : oc_L J (A ++ x :: B)) : oc_ok x ∧ x.2.2.1 < J x.1 := h x (by simp)
theorem oc_L_cut {J : Nat → Nat} {A B : List oc_C} {x : oc_C} (h : oc_L J (A ++ x :: B)) : oc_L J (A ++ B) := by
  intro y hy
  refine h y ?_
  rcases List.mem_append.mp hy with hy | hy
  · exact List.mem_append.mpr (Or.inl hy)
  · exact List.mem_append.mpr (Or.inr (List.mem_cons_of_mem _ hy))
theorem oc_L_set {J : Nat → Nat} {A B : List oc_C} {x : oc_C} (t : Int32) (h : oc_L J (A ++ x :: B)) : oc_L J (A ++ (x.1, x.2.1, x.2.2.1, x.2.2.2.1, t) :: B) := by
  intro y hy
  rcases List.mem_append.mp hy with hy | hy
  · exact h y (List.mem_append.mpr (Or.inl hy))
  · rcases List.mem_cons.mp hy with rfl | hy
    · have hm := oc_L_mid h
      exact hm
    · exact h y (List.mem_append.mpr (Or.inr (List.mem_cons_of_mem _ hy)))
theorem oc_L_des {J : Nat → Nat} {L : List oc_C} (h : oc_L J L) (c : Nat) : oc_L (oc_z J 3 c) (oc_D c L) := by
  intro x hx
  obtain ⟨h1, h2⟩ := oc_D_mem hx
  rw [oc_zn h2]
  exact h x h1
/-- what each way has under way -/
def oc_U (L : List oc_C) (uw : Nat → Int32) : Prop := ∀ w, w < 12 → uw w = nI (oc_n w L) ∧ oc_n w L ≤ 3
theorem oc_U_push {L : List oc_C} {uw : Nat → Int32} (h : oc_U L uw) {x : oc_C} {w : Nat} (hx : oc_wi x = w) (hn : oc_n w L < 3) : oc_U (L ++ [x]) (upd uw w (nI (oc_n w L + 1))) := by
  intro v hv
  rw [oc_n_app]
  by_cases e : v = w
  · subst e
    rw [if_pos hx, pk_us]
    exact ⟨rfl, by omega⟩
  · rw [if_neg (fun z => e (z.symm.trans hx)), pk_un e]
    exact h v hv
theorem oc_U_on {A B : List oc_C} {uw : Nat → Int32} {x y : oc_C} (h : oc_U (A ++ x :: B) uw) (e : oc_wi y = oc_wi x) : oc_U (A ++ B ++ [y]) uw := by
  intro v hv
  rw [oc_n_on A B e]
  exact h v hv
theorem oc_U_set {A B : List oc_C} {uw : Nat → Int32} {x y : oc_C} (h : oc_U (A ++ x :: B) uw) (e : oc_wi y = oc_wi x) : oc_U (A ++ y :: B) uw := by
  intro v hv
  rw [oc_n_set A B e]
  exact h v hv
theorem oc_U_get {A B : List oc_C} {uw : Nat → Int32} {x : oc_C} {w : Nat} (h : oc_U (A ++ x :: B) uw) (hx : oc_wi x = w) : oc_U (A ++ B) (upd uw w (nI (oc_n w (A ++ B)))) := by
  intro v hv
  have h1 := h v hv
  rw [oc_n_mid] at h1
  by_cases e : v = w
  · subst e
    rw [if_pos hx] at h1
    rw [pk_us]
    exact ⟨rfl, by omega⟩
  · rw [if_neg (fun z => e (z.symm.trans hx))] at h1
    rw [pk_un e]
    exact h1
theorem oc_U_des {L : List oc_C} {uw : Nat → Int32} (h : oc_U L uw) (hok : ∀ x ∈ L, oc_ok x) (c : Nat) : oc_U (oc_D c L) (oc_fl uw (c * 6) (c * 6 + 6) 0) := by
  intro w hw
  rw [oc_D_n L hok]
  by_cases e : w / 6 = c
  · rw [if_pos e]
    exact ⟨(oc_fl_in (by omega) (by omega)).trans nI_0.symm, by omega⟩
  · rw [if_neg e, oc_fl_out (by omega)]
    exact h w hw
theorem oc_U_len {L : List oc_C} {uw : Nat → Int32} (h : oc_U L uw) (hok : ∀ x ∈ L, oc_ok x) : L.length ≤ 36 := by
  have h0 := (h 0 (by omega)).2
  have h1 := (h 1 (by omega)).2
  have h2 := (h 2 (by omega)).2
  have h3 := (h 3 (by omega)).2
  have h4 := (h 4 (by omega)).2
  have h5 := (h 5 (by omega)).2
  have h6 := (h 6 (by omega)).2
  have h7 := (h 7 (by omega)).2
  have h8 := (h 8 (by omega)).2
  have h9 := (h 9 (by omega)).2
  have h10 := (h 10 (by omega)).2
  have h11 := (h 11 (by omega)).2
  have := oc_len L hok
  omega
theorem oc_U_q {L : List oc_C} {uw : Nat → Int32} (h : oc_U L uw) (hok : ∀ x ∈ L, oc_ok x) {q : Nat} (hq : q < 12) : (oc_Q q L).length ≤ 9 := by
  have e : q = (q / 6 * 3 + q / 2 % 3) * 2 + q % 2 := by omega
  have h1 := oc_qlen (c := q / 6) (l := q / 2 % 3) (b := q % 2) (by omega) (by omega) L hok
  rw [← e] at h1
  have g1 := (h (q / 6 * 6 + q % 2) (by omega)).2
  have g2 := (h (q / 6 * 6 + 2 + q % 2) (by omega)).2
  have g3 := (h (q / 6 * 6 + 4 + q % 2) (by omega)).2
  omega
/-- all of it but the reference's cells -/
def oc_K (k : Nat) (N J G : Nat → Nat) (L : List oc_C) (hc rh so sh uw gc gb ql xS xB xT rl jn gd lb : Nat → Int32) : Prop :=
  oc_H N hc ∧ oc_P N rh rl ∧ oc_J N J so sh jn ∧ oc_G k J G gc gd ∧ oc_B G gb lb ∧ oc_L J L ∧ oc_U L uw ∧ oc_X L ql xS xB xT
section
variable {k : Nat} {N J G : Nat → Nat} {L : List oc_C} {hc rh so sh uw gc gb ql xS xB xT rl jn gd lb : Nat → Int32}
theorem oc_K_up (m : Nat) (hm : k ≤ m) (h : oc_K k N J G L hc rh so sh uw gc gb ql xS xB xT rl jn gd lb) : oc_K m N J G L hc rh so sh uw gc gb ql xS xB xT rl jn gd lb := by
  obtain ⟨h1, h2, h3, h4, h5, h6, h7, h8⟩ := h
  exact ⟨h1, h2, h3, oc_G_up h4 hm, h5, h6, h7, h8⟩
theorem oc_K_ext (h : oc_K k N J G L hc rh so sh uw gc gb ql xS xB xT rl jn gd lb) {c r : Nat} (hc2 : c < 2) (hr : r < 5) (hn : N c < 3) :
    oc_K (k + 5) (oc_u N c (N c + 1)) J G L (upd hc c (nI (N c + 1))) (upd rh (c * 5 + r) 1) so sh uw gc gb ql xS xB xT (upd rl (c * 3 + N c) (nI r)) jn gd lb := by
  obtain ⟨h1, h2, h3, h4, h5, h6, h7, h8⟩ := h
  exact ⟨oc_H_u h1 c _ (by omega), oc_P_ext h1 h2 hc2 hr hn, oc_J_ext h3 c, oc_G_up h4 (by omega), h5, h6, h7, h8⟩
theorem oc_K_des (h : oc_K k N J G L hc rh so sh uw gc gb ql xS xB xT rl jn gd lb) (c : Nat) :
    oc_K (k + 5) (oc_u N c 0) (oc_z J 3 c) (oc_z G 6 c) (oc_D c L) (upd hc c 0) (oc_fl rh (c * 5) (c * 5 + 5) 0) (oc_fl so (c * 3) (c * 3 + 3) 0) sh (oc_fl uw (c * 6) (c * 6 + 6) 0) (oc_fl gc (c * 6) (c * 6 + 6) 0) gb (oc_fl ql (c * 6) (c * 6 + 6) 0) xS xB xT rl (oc_fl jn (c * 3) (c * 3 + 3) (-1)) gd lb := by
  obtain ⟨h1, h2, h3, h4, h5, h6, h7, h8⟩ := h
  have g1 := oc_H_u h1 c 0 (by omega)
  rw [nI_0] at g1
  exact ⟨g1, oc_P_des h2, oc_J_des h3 c, oc_G_up (oc_G_des h4 c) (by omega), oc_B_des h5 c, oc_L_des h6 c, oc_U_des h7 (oc_L_ok h6) c, oc_X_D h8 (oc_L_ok h6)⟩
theorem oc_K_open (h : oc_K k N J G L hc rh so sh uw gc gb ql xS xB xT rl jn gd lb) {p j : Nat} (hj : j < 3) (hN : N (p / 3) = j + 1) (hp : J p = 0) :
    oc_K (k + 5) N (oc_u J p (j + 1)) G L hc rh (upd so p 1) (upd sh p (nI j)) uw gc gb ql xS xB xT rl (upd jn p (nI j)) (upd (upd gd (p * 2) 0) (p * 2 + 1) 0) lb := by
  obtain ⟨h1, h2, h3, h4, h5, h6, h7, h8⟩ := h
  exact ⟨h1, h2, oc_J_open h3 hj hN, oc_G_up (oc_G_open h4 hp) (by omega), h5, oc_L_open h6 hp, h7, h8⟩
theorem oc_K_send (h : oc_K k N J G L hc rh so sh uw gc gb ql xS xB xT rl jn gd lb) {x : oc_C} {q w : Nat} (hx : oc_ok x) (hl : x.2.2.1 < J x.1) (hq : oc_qi x = q) (hw : oc_wi x = w) (hn : oc_n w L < 3) :
    (oc_Q q L).length < 9 ∧ L.length < 36 ∧ oc_K (k + 5) N J G (L ++ [x]) hc rh so sh (upd uw w (nI (oc_n w L + 1))) gc gb (upd ql q (nI ((oc_Q q L).length + 1))) (upd xS (q * 9 + (oc_Q q L).length) (nI (x.1 % 3))) (upd xB (q * 9 + (oc_Q q L).length) x.2.2.2.1) (upd xT (q * 9 + (oc_Q q L).length) x.2.2.2.2) rl jn gd lb := by
  obtain ⟨h1, h2, h3, h4, h5, h6, h7, h8⟩ := h
  have g6 := oc_L_push h6 hx hl
  have g7 := oc_U_push h7 hw hn
  have hq2 : q < 12 := by
    rw [← hq]
    unfold oc_qi
    obtain ⟨a, b, d⟩ := hx
    omega
  have a1 := oc_U_q g7 (oc_L_ok g6) hq2
  rw [oc_Q_app_s L hq, List.length_append, List.length_singleton] at a1
  have a2 := oc_U_len g7 (oc_L_ok g6)
  rw [List.length_append, List.length_singleton] at a2
  exact ⟨by omega, by omega, h1, h2, h3, oc_G_up h4 (by omega), h5, g6, g7, oc_X_push h8 hq2 hq (by omega)⟩
end
section
variable {k : Nat} {N J G : Nat → Nat} {A B : List oc_C} {x : oc_C} {hc rh so sh uw gc gb ql xS xB xT rl jn gd lb : Nat → Int32}
theorem oc_K_set (h : oc_K k N J G (A ++ x :: B) hc rh so sh uw gc gb ql xS xB xT rl jn gd lb) {q : Nat} (t : Int32) (hq : q < 12) (hx : oc_qi x = q) (hA : ∀ y ∈ A, oc_qi y ≠ q) :
    oc_K (k + 5) N J G (A ++ (x.1, x.2.1, x.2.2.1, x.2.2.2.1, t) :: B) hc rh so sh uw gc gb ql xS xB (upd xT (q * 9) t) rl jn gd lb := by
  obtain ⟨h1, h2, h3, h4, h5, h6, h7, h8⟩ := h
  exact ⟨h1, h2, h3, oc_G_up h4 (by omega), h5, oc_L_set t h6, oc_U_set h7 rfl, oc_X_set t h8 hq hx hA⟩
/-- a cell goes on to the next link -/
theorem oc_K_on (h : oc_K k N J G (A ++ x :: B) hc rh so sh uw gc gb ql xS xB xT rl jn gd lb) {q p l : Nat} (hq : q < 12) (hx : oc_qi x = q) (hA : ∀ y ∈ A, oc_qi y ≠ q)
    (hl : l < 3) (hJ : l < J x.1) (hp : oc_qi (x.1, x.2.1, l, x.2.2.2.1, x.2.2.2.2) = p) :
    (oc_Q p (A ++ B)).length < 9 ∧ p < 12 ∧
    (upd ql q (nI (oc_Q q (A ++ B)).length)) p = nI (oc_Q p (A ++ B)).length ∧
    oc_K (k + 5) N J G (A ++ B ++ [(x.1, x.2.1, l, x.2.2.2.1, x.2.2.2.2)]) hc rh so sh uw gc gb
      (upd (upd ql q (nI (oc_Q q (A ++ B)).length)) p (nI ((oc_Q p (A ++ B)).length + 1)))
      (upd (oc_sh xS (q * 9) (q * 9 + (oc_Q q (A ++ B)).length)) (p * 9 + (oc_Q p (A ++ B)).length) (nI (x.1 % 3)))
      (upd (oc_sh xB (q * 9) (q * 9 + (oc_Q q (A ++ B)).length)) (p * 9 + (oc_Q p (A ++ B)).length) x.2.2.2.1)
      (upd (oc_sh xT (q * 9) (q * 9 + (oc_Q q (A ++ B)).length)) (p * 9 + (oc_Q p (A ++ B)).length) x.2.2.2.2) rl jn gd lb := by
  obtain ⟨h1, h2, h3, h4, h5, h6, h7, h8⟩ := h
  have hm := oc_L_mid h6
  have hok : oc_ok (x.1, x.2.1, l, x.2.2.2.1, x.2.2.2.2) := ⟨hm.1.1, hm.1.2.1, hl⟩
  have g6 := oc_L_push (oc_L_cut h6) hok hJ
  have g7 : oc_U (A ++ B ++ [(x.1, x.2.1, l, x.2.2.2.1, x.2.2.2.2)]) uw := oc_U_on h7 rfl
  have hp2 : p < 12 := by
    rw [← hp]
    unfold oc_qi
    obtain ⟨a, b, d⟩ := hok
    dsimp only at a b d ⊢
    omega
  have a1 := oc_U_q g7 (oc_L_ok g6) hp2
  rw [oc_Q_app_s (A ++ B) hp, List.length_append, List.length_singleton] at a1
  have g8 := oc_X_cut h8 hq hx hA
  exact ⟨by omega, hp2, (g8 p hp2).1, h1, h2, h3, oc_G_up h4 (by omega), h5, g6, g7, oc_X_push g8 hp2 hp (by omega)⟩
/-- a cell arrives -/
theorem oc_K_get (h : oc_K k N J G (A ++ x :: B) hc rh so sh uw gc gb ql xS xB xT rl jn gd lb) {q w : Nat} (hq : q < 12) (hx : oc_qi x = q) (hA : ∀ y ∈ A, oc_qi y ≠ q) (hw : oc_wi x = w) (v : Int32) :
    oc_K (k + 5) N J (oc_u G w (G w + 1)) (A ++ B) hc rh so sh (upd uw w (nI (oc_n w (A ++ B)))) (upd gc w (nI (G w + 1))) (upd gb (w * 8 + G w % 8) v)
      (upd ql q (nI (oc_Q q (A ++ B)).length)) (oc_sh xS (q * 9) (q * 9 + (oc_Q q (A ++ B)).length)) (oc_sh xB (q * 9) (q * 9 + (oc_Q q (A ++ B)).length)) (oc_sh xT (q * 9) (q * 9 + (oc_Q q (A ++ B)).length))
      rl jn (upd gd w (nI (G w + 1))) (upd (oc_sr lb (w * 8) 0) (w * 8) v) := by
  obtain ⟨h1, h2, h3, h4, h5, h6, h7, h8⟩ := h
  have hm := oc_L_mid h6
  have e : w / 2 = x.1 := by
    rw [← hw]
    unfold oc_wi
    obtain ⟨a, b, d⟩ := hm.1
    omega
  have hJ : 0 < J (w / 2) := by
    rw [e]
    omega
  exact ⟨h1, h2, h3, oc_G_up (oc_G_get h4 hJ) (by omega), oc_B_get h5 v, oc_L_cut h6, oc_U_get h7 hw, oc_X_cut h8 hq hx hA⟩
/-- a changed cell takes its circuit down -/
theorem oc_K_down (h : oc_K k N J G (A ++ x :: B) hc rh so sh uw gc gb ql xS xB xT rl jn gd lb) {q c : Nat} (hq : q < 12) (hx : oc_qi x = q) (hA : ∀ y ∈ A, oc_qi y ≠ q) (hc2 : x.1 / 3 = c) :
    oc_K (k + 5) (oc_u N c 0) (oc_z J 3 c) (oc_z G 6 c) (oc_D c (A ++ B)) (upd hc c 0) (oc_fl rh (c * 5) (c * 5 + 5) 0) (oc_fl so (c * 3) (c * 3 + 3) 0) sh (oc_fl uw (c * 6) (c * 6 + 6) 0) (oc_fl gc (c * 6) (c * 6 + 6) 0) gb
      (oc_fl (upd ql q (nI (oc_Q q (A ++ B)).length)) (c * 6) (c * 6 + 6) 0) (oc_sh xS (q * 9) (q * 9 + (oc_Q q (A ++ B)).length)) (oc_sh xB (q * 9) (q * 9 + (oc_Q q (A ++ B)).length)) (oc_sh xT (q * 9) (q * 9 + (oc_Q q (A ++ B)).length)) rl (oc_fl jn (c * 3) (c * 3 + 3) (-1)) gd lb := by
  have g := oc_K_des h c
  rw [oc_D_mid A B hc2] at g
  obtain ⟨h1, h2, h3, h4, h5, h6, h7, h8⟩ := h
  obtain ⟨g1, g2, g3, g4, g5, g6, g7, g8⟩ := g
  exact ⟨g1, g2, g3, g4, g5, g6, g7, oc_X_D (oc_X_cut h8 hq hx hA) (oc_L_ok (oc_L_cut h6))⟩
end
end
section
/-! ===== the component's own methods, each with a general post ===== -/
theorem oc_fl_00 (a : Nat → Int32) (p : Nat) (v : Int32) : oc_fl a p (p + 0) v = a := oc_fl_0 a p v
theorem oc_sh_00 (a : Nat → Int32) (p : Nat) : oc_sh a p (p + 0) = a := oc_sh_0 a p
theorem oc_ia {a b N : Nat} (h : a + b < N) (hN : N < 2 ^ 31) : vp_in (nI a + nI b) N := by
  rw [nI_add]
  exact vp_in_nI h hN
theorem oc_ca {a b : Nat} (h : a + b < 2 ^ 31) : (nI a + nI b).toNatClampNeg = a + b := by
  rw [nI_add]
  exact nI_clamp h
theorem oc_ia1 {a N : Nat} (h : a + 1 < N) (hN : N < 2 ^ 31) : vp_in (nI a + 1) N := by
  rw [nI_1]
  exact vp_in_nI h hN
theorem oc_ca1 {a : Nat} (h : a + 1 < 2 ^ 31) : (nI a + 1).toNatClampNeg = a + 1 := by
  rw [nI_1]
  exact nI_clamp h
theorem oc_m3 (a b : Nat) : nI a * 3 + nI b = nI (a * 3 + b) := by
  rw [show (3 : Int32) = nI 3 from rfl, pk_mul, nI_add]
theorem oc_m5 (a b : Nat) : nI a * 5 + nI b = nI (a * 5 + b) := by
  rw [show (5 : Int32) = nI 5 from rfl, pk_mul, nI_add]
theorem oc_m2 (a : Nat) : nI a * 2 = nI (a * 2) := by
  rw [show (2 : Int32) = nI 2 from rfl, pk_mul]
theorem oc_m8 (a : Nat) : nI a * 8 = nI (a * 8) := by
  rw [show (8 : Int32) = nI 8 from rfl, pk_mul]
theorem oc_m9 (a : Nat) : nI a * 9 = nI (a * 9) := by
  rw [show (9 : Int32) = nI 9 from rfl, pk_mul]
theorem oc_p1 (a : Nat) : nI a + 1 = nI (a + 1) := nI_1 a
theorem oc_p0 (a : Nat) : nI a + 0 = nI a := by
  rw [show (0 : Int32) = nI 0 from rfl, nI_add]
  rfl
theorem oc_b0 : vp_nar .boolean 0 = 0 := by decide
theorem oc_b1 : vp_nar .boolean 1 = 1 := by decide
theorem oc_bN {f : Nat} (h : f < 2) : vp_nar .boolean (nI f) = nI f := by
  match f, h with
  | 0, _ => exact oc_b0
  | 1, _ => exact oc_b1
theorem oc_f2 {f : Nat} (h : f < 2) : f = 0 ∨ f = 1 := by omega
theorem oc_x_cir {post : Int32 → Prop} {c : Nat} (hc2 : c < 2) (p : post 1) : wpX_isCircuit post (nI c) :=
  br_f (nI_pos (by omega)) (br_f (nI_ge (b := 2) hc2 (by decide)) p)
theorem oc_x_cirB {post : Int32 → Prop} {x : Int32} (h : x < 0 ∨ 2 ≤ x) (p : post 0) : wpX_isCircuit post x :=
  br_c (fun _ => p) (fun h0 => br_t (h.resolve_left h0) p)
theorem oc_x_str {post : Int32 → Prop} {c : Nat} (hc2 : c < 3) (p : post 1) : wpX_isStream post (nI c) :=
  br_f (nI_pos (by omega)) (br_f (nI_ge (b := 3) hc2 (by decide)) p)
theorem oc_x_strB {post : Int32 → Prop} {x : Int32} (h : x < 0 ∨ 3 ≤ x) (p : post 0) : wpX_isStream post x :=
  br_c (fun _ => p) (fun h0 => br_t (h.resolve_left h0) p)
theorem oc_x_lnk {post : Int32 → Prop} {c : Nat} (hc2 : c < 3) (p : post 1) : wpX_isLink post (nI c) :=
  br_f (nI_pos (by omega)) (br_f (nI_ge (b := 3) hc2 (by decide)) p)
theorem oc_x_lnkB {post : Int32 → Prop} {x : Int32} (h : x < 0 ∨ 3 ≤ x) (p : post 0) : wpX_isLink post x :=
  br_c (fun _ => p) (fun h0 => br_t (h.resolve_left h0) p)
theorem oc_x_pl {post : Int32 → Prop} {c s : Nat} (p : post (nI (c * 3 + s))) : wpX_streamPlace post (nI c) (nI s) := by
  unfold wpX_streamPlace
  rw [oc_m3]
  exact p
theorem oc_x_way {post : Int32 → Prop} {c s f : Nat} (hf : f < 2) (p : post (nI ((c * 3 + s) * 2 + (1 - f)))) : wpX_wayOf post (nI c) (nI s) (nI f) := by
  unfold wpX_wayOf
  refine oc_x_pl ?_
  match f, hf with
  | 0, _ =>
    refine br_t rfl ?_
    rw [oc_m2, oc_p1]
    exact p
  | 1, _ =>
    refine br_f (by decide) ?_
    rw [oc_m2, oc_p0]
    exact p
theorem oc_x_que {post : Int32 → Prop} {c l f : Nat} (hf : f < 2) (p : post (nI ((c * 3 + l) * 2 + (1 - f)))) : wpX_queueOf post (nI c) (nI l) (nI f) := by
  unfold wpX_queueOf
  rw [oc_m3, oc_m2, oc_p1, oc_p0]
  match f, hf with
  | 0, _ => exact br_t rfl p
  | 1, _ => exact br_f (by decide) p
section
variable {hc rh so sh uw gc gb ql xS xB xT : Nat → Int32}
theorem oc_x_refB {post : Int32 → Prop} {x : Int32} (h : x < 0 ∨ 2 ≤ x) (p : post (-1)) : wpX_circuitRefusal post (hc, rh, so, sh, uw, gc, gb, ql, xS, xB, xT) x := by
  unfold wpX_circuitRefusal
  exact oc_x_cirB h (br_t rfl p)
theorem oc_x_ref0 {post : Int32 → Prop} {c : Nat} (h : c < 2) (h0 : hc c = 0) (p : post (-5)) : wpX_circuitRefusal post (hc, rh, so, sh, uw, gc, gb, ql, xS, xB, xT) (nI c) := by
  unfold wpX_circuitRefusal
  exact oc_x_cir h (br_f (by decide) ⟨vp_in_nI h (by omega), br_t (by rw [nI_clamp (by omega)]; exact h0) p⟩)
theorem oc_x_ref {post : Int32 → Prop} {c : Nat} (h : c < 2) (h0 : ¬ hc c = 0) (p : post 0) : wpX_circuitRefusal post (hc, rh, so, sh, uw, gc, gb, ql, xS, xB, xT) (nI c) := by
  unfold wpX_circuitRefusal
  exact oc_x_cir h (br_f (by decide) ⟨vp_in_nI h (by omega), br_f (by rw [nI_clamp (by omega)]; exact h0) p⟩)
theorem oc_x_cuw_s {post : Int32 → Prop} {c i s m n : Nat} (hc2 : c < 2) (hi : i < 6) (hu : uw (c * 6 + i) = nI m) (p : wX_cellsUnderWay_12 post (nI (c * 6)) hc rh so sh uw gc gb ql xS xB xT n (nI (s + m)) (nI (i + 1))) :
    wX_cellsUnderWay_12 post (nI (c * 6)) hc rh so sh uw gc gb ql xS xB xT (n + 1) (nI s) (nI i) := by
  refine br_f (nI_ge (b := 6) hi (by decide)) ⟨oc_ia (by omega) (by omega), ?_⟩
  rw [oc_ca (by omega), hu, nI_add]
  exact nm_e (nm_r (nI_1 i) p)
theorem oc_x_cuw {post : Int32 → Prop} {c m0 m1 m2 m3 m4 m5 : Nat} (hc2 : c < 2) (h0 : uw (c * 6) = nI m0) (h1 : uw (c * 6 + 1) = nI m1) (h2 : uw (c * 6 + 2) = nI m2) (h3 : uw (c * 6 + 3) = nI m3) (h4 : uw (c * 6 + 4) = nI m4) (h5 : uw (c * 6 + 5) = nI m5)
    (p : post (nI (m0 + m1 + m2 + m3 + m4 + m5))) : wpX_cellsUnderWay post (hc, rh, so, sh, uw, gc, gb, ql, xS, xB, xT) (nI c) := by
  unfold wpX_cellsUnderWay
  refine oc_x_way (s := 0) (f := 1) (by decide) ?_
  rw [show (c * 3 + 0) * 2 + (1 - 1) = c * 6 by omega]
  refine ⟨7, ?_⟩
  have p6 : wX_cellsUnderWay_12 post (nI (c * 6)) hc rh so sh uw gc gb ql xS xB xT 1 (nI (0 + m0 + m1 + m2 + m3 + m4 + m5)) (nI 6) := by
    rw [Nat.zero_add]
    exact br_t (nI_le (a := 6) (b := 6) (Nat.le_refl 6) (by decide)) p
  exact oc_x_cuw_s (i := 0) (s := 0) (m := m0) hc2 (by omega) h0 (oc_x_cuw_s (m := m1) hc2 (by omega) h1 (oc_x_cuw_s (m := m2) hc2 (by omega) h2 (oc_x_cuw_s (m := m3) hc2 (by omega) h3 (oc_x_cuw_s (m := m4) hc2 (by omega) h4 (oc_x_cuw_s (m := m5) hc2 (by omega) h5 p6)))))
theorem oc_x_td4 {post : SX → Prop} {c : Nat} (hc2 : c < 2) (p : post (hc, rh, so, sh, uw, gc, gb, oc_fl ql (c * 6) (c * 6 + 6) 0, xS, xB, xT)) : ∀ d i : Nat, i + d = 6 →
    wX_takeDown_104 post (nI (c * 6)) (d + 1) (nI i) hc rh so sh uw gc gb (oc_fl ql (c * 6) (c * 6 + i) 0) xS xB xT := by
  intro d
  induction d with
  | zero =>
    intro i hi
    have e : i = 6 := by omega
    subst e
    exact br_t (nI_le (a := 6) (b := 6) (Nat.le_refl 6) (by decide)) p
  | succ d ih =>
    intro i hi
    refine br_f (nI_ge (b := 6) (by omega) (by decide)) ⟨oc_ia (by omega) (by omega), nm_r (e' := oc_fl ql (c * 6) (c * 6 + (i + 1)) 0) ?_ (nm_r (nI_1 i) (ih (i + 1) (by omega)))⟩
    rw [oc_ca (by omega)]
    exact oc_fl_s ql 0 (by omega)
theorem oc_x_td3 {post : SX → Prop} {c : Nat} (hc2 : c < 2) (p : post (hc, rh, so, sh, oc_fl uw (c * 6) (c * 6 + 6) 0, oc_fl gc (c * 6) (c * 6 + 6) 0, gb, oc_fl ql (c * 6) (c * 6 + 6) 0, xS, xB, xT)) : ∀ d i : Nat, i + d = 6 →
    wX_takeDown_64 post (nI c) (nI (c * 6)) (d + 1) (nI i) hc rh so sh (oc_fl uw (c * 6) (c * 6 + i) 0) (oc_fl gc (c * 6) (c * 6 + i) 0) gb ql xS xB xT := by
  intro d
  induction d with
  | zero =>
    intro i hi
    have e : i = 6 := by omega
    subst e
    refine br_t (nI_le (a := 6) (b := 6) (Nat.le_refl 6) (by decide)) ?_
    refine oc_x_que (l := 0) (f := 1) (by decide) ?_
    rw [show (c * 3 + 0) * 2 + (1 - 1) = c * 6 by omega]
    refine ⟨7, ?_⟩
    have g := oc_x_td4 (ql := ql) hc2 p 6 0 (by omega)
    rw [oc_fl_00] at g
    exact g
  | succ d ih =>
    intro i hi
    refine br_f (nI_ge (b := 6) (by omega) (by decide)) ⟨oc_ia (by omega) (by omega), nm_r (e' := oc_fl uw (c * 6) (c * 6 + (i + 1)) 0) ?_ ⟨oc_ia (by omega) (by omega), nm_r (e' := oc_fl gc (c * 6) (c * 6 + (i + 1)) 0) ?_ (nm_r (nI_1 i) (ih (i + 1) (by omega)))⟩⟩
    · rw [oc_ca (by omega)]
      exact oc_fl_s uw 0 (by omega)
    · rw [oc_ca (by omega)]
      exact oc_fl_s gc 0 (by omega)
theorem oc_x_td2 {post : SX → Prop} {c : Nat} (hc2 : c < 2) (p : post (hc, rh, oc_fl so (c * 3) (c * 3 + 3) 0, sh, oc_fl uw (c * 6) (c * 6 + 6) 0, oc_fl gc (c * 6) (c * 6 + 6) 0, gb, oc_fl ql (c * 6) (c * 6 + 6) 0, xS, xB, xT)) : ∀ d i : Nat, i + d = 3 →
    wX_takeDown_33 post (nI c) (d + 1) (nI i) hc rh (oc_fl so (c * 3) (c * 3 + i) 0) sh uw gc gb ql xS xB xT := by
  intro d
  induction d with
  | zero =>
    intro i hi
    have e : i = 3 := by omega
    subst e
    refine br_t (nI_le (a := 3) (b := 3) (Nat.le_refl 3) (by decide)) ?_
    refine oc_x_way (s := 0) (f := 1) (by decide) ?_
    rw [show (c * 3 + 0) * 2 + (1 - 1) = c * 6 by omega]
    refine ⟨7, ?_⟩
    have g := oc_x_td3 (uw := uw) (gc := gc) (ql := ql) hc2 p 6 0 (by omega)
    rw [oc_fl_00, oc_fl_00] at g
    exact g
  | succ d ih =>
    intro i hi
    refine br_f (nI_ge (b := 3) (by omega) (by decide)) (oc_x_pl ⟨vp_in_nI (by omega) (by omega), nm_r (e' := oc_fl so (c * 3) (c * 3 + (i + 1)) 0) ?_ (nm_r (nI_1 i) (ih (i + 1) (by omega)))⟩)
    rw [nI_clamp (by omega), oc_b0]
    exact oc_fl_s so 0 (by omega)
theorem oc_x_td1 {post : SX → Prop} {c : Nat} (hc2 : c < 2) (p : post (hc, oc_fl rh (c * 5) (c * 5 + 5) 0, oc_fl so (c * 3) (c * 3 + 3) 0, sh, oc_fl uw (c * 6) (c * 6 + 6) 0, oc_fl gc (c * 6) (c * 6 + 6) 0, gb, oc_fl ql (c * 6) (c * 6 + 6) 0, xS, xB, xT)) : ∀ d i : Nat, i + d = 5 →
    wX_takeDown_9 post (nI c) (d + 1) (nI i) hc (oc_fl rh (c * 5) (c * 5 + i) 0) so sh uw gc gb ql xS xB xT := by
  intro d
  induction d with
  | zero =>
    intro i hi
    have e : i = 5 := by omega
    subst e
    refine br_t (nI_le (a := 5) (b := 5) (Nat.le_refl 5) (by decide)) ⟨4, ?_⟩
    have g := oc_x_td2 (so := so) hc2 p 3 0 (by omega)
    rw [oc_fl_00] at g
    exact g
  | succ d ih =>
    intro i hi
    refine br_f (nI_ge (b := 5) (by omega) (by decide)) ⟨?_, nm_r (e' := oc_fl rh (c * 5) (c * 5 + (i + 1)) 0) ?_ (nm_r (nI_1 i) (ih (i + 1) (by omega)))⟩
    · rw [oc_m5]
      exact vp_in_nI (by omega) (by omega)
    · rw [oc_m5, nI_clamp (by omega), oc_b0]
      exact oc_fl_s rh 0 (by omega)
theorem oc_x_td {post : SX → Prop} {c : Nat} (hc2 : c < 2) (p : post (upd hc c 0, oc_fl rh (c * 5) (c * 5 + 5) 0, oc_fl so (c * 3) (c * 3 + 3) 0, sh, oc_fl uw (c * 6) (c * 6 + 6) 0, oc_fl gc (c * 6) (c * 6 + 6) 0, gb, oc_fl ql (c * 6) (c * 6 + 6) 0, xS, xB, xT)) :
    wpX_takeDown post (hc, rh, so, sh, uw, gc, gb, ql, xS, xB, xT) (nI c) := by
  unfold wpX_takeDown
  refine ⟨vp_in_nI hc2 (by omega), nm_r (e' := upd hc c 0) (by rw [nI_clamp (by omega)]) ⟨6, ?_⟩⟩
  have g := oc_x_td1 (hc := upd hc c 0) (rh := rh) hc2 p 5 0 (by omega)
  rw [oc_fl_00] at g
  exact g
theorem oc_x_isoC {post : Int32 → Prop} {x y : Int32} (h : x < 0 ∨ 2 ≤ x) (p : post 0) : wpX_isOpenStream post (hc, rh, so, sh, uw, gc, gb, ql, xS, xB, xT) x y := by
  unfold wpX_isOpenStream
  exact oc_x_cirB h (br_t rfl p)
theorem oc_x_isoS {post : Int32 → Prop} {c : Nat} {y : Int32} (hc2 : c < 2) (h : y < 0 ∨ 3 ≤ y) (p : post 0) : wpX_isOpenStream post (hc, rh, so, sh, uw, gc, gb, ql, xS, xB, xT) (nI c) y := by
  unfold wpX_isOpenStream
  exact oc_x_cir hc2 (br_f (by decide) (oc_x_strB h (br_t rfl p)))
theorem oc_x_iso0 {post : Int32 → Prop} {c s : Nat} (hc2 : c < 2) (hs : s < 3) (h : so (c * 3 + s) = 0) (p : post 0) : wpX_isOpenStream post (hc, rh, so, sh, uw, gc, gb, ql, xS, xB, xT) (nI c) (nI s) := by
  unfold wpX_isOpenStream
  exact oc_x_cir hc2 (br_f (by decide) (oc_x_str hs (br_f (by decide) (oc_x_pl ⟨vp_in_nI (by omega) (by omega), br_t (by rw [nI_clamp (by omega)]; exact h) p⟩))))
theorem oc_x_iso1 {post : Int32 → Prop} {c s : Nat} (hc2 : c < 2) (hs : s < 3) (h : so (c * 3 + s) = 1) (p : post 1) : wpX_isOpenStream post (hc, rh, so, sh, uw, gc, gb, ql, xS, xB, xT) (nI c) (nI s) := by
  unfold wpX_isOpenStream
  exact oc_x_cir hc2 (br_f (by decide) (oc_x_str hs (br_f (by decide) (oc_x_pl ⟨vp_in_nI (by omega) (by omega), br_f (by rw [nI_clamp (by omega), h]; decide) p⟩))))
theorem oc_x_ll0 {post : Int32 → Prop} {x y : Int32} (p : post 0) : wpX_lastLink post (hc, rh, so, sh, uw, gc, gb, ql, xS, xB, xT) x y 0 := by
  unfold wpX_lastLink
  exact br_t rfl p
theorem oc_x_ll1 {post : Int32 → Prop} {c s : Nat} (hc2 : c < 2) (hs : s < 3) (p : post (sh (c * 3 + s))) : wpX_lastLink post (hc, rh, so, sh, uw, gc, gb, ql, xS, xB, xT) (nI c) (nI s) 1 := by
  unfold wpX_lastLink
  exact br_f (by decide) (oc_x_pl ⟨vp_in_nI (by omega) (by omega), by rw [nI_clamp (by omega)]; exact p⟩)
theorem oc_x_fl1 {post : Int32 → Prop} {x y : Int32} (p : post 0) : wpX_firstLink post (hc, rh, so, sh, uw, gc, gb, ql, xS, xB, xT) x y 1 := by
  unfold wpX_firstLink
  refine br_f (by decide) ?_
  unfold wX_firstLink_12
  exact oc_x_ll0 p
theorem oc_x_fl0 {post : Int32 → Prop} {c s : Nat} (hc2 : c < 2) (hs : s < 3) (p : post (sh (c * 3 + s))) : wpX_firstLink post (hc, rh, so, sh, uw, gc, gb, ql, xS, xB, xT) (nI c) (nI s) 0 := by
  unfold wpX_firstLink
  refine br_t rfl ?_
  unfold wX_firstLink_12
  exact oc_x_ll1 hc2 hs p
theorem oc_x_app {post : SX → Prop} {q m : Nat} {x y z : Int32} (hq : q < 12) (hm : m < 9) (hl : ql q = nI m)
    (p : post (hc, rh, so, sh, uw, gc, gb, upd ql q (nI (m + 1)), upd xS (q * 9 + m) x, upd xB (q * 9 + m) y, upd xT (q * 9 + m) z)) : wpX_append post (hc, rh, so, sh, uw, gc, gb, ql, xS, xB, xT) (nI q) x y z := by
  unfold wpX_append
  have e : (nI q).toNatClampNeg = q := nI_clamp (by omega)
  have e2 : (nI (q * 9 + m)).toNatClampNeg = q * 9 + m := nI_clamp (by omega)
  have hi : vp_in (nI (q * 9 + m)) 108 := vp_in_nI (by omega) (by omega)
  have hi2 : vp_in (nI q) 12 := vp_in_nI hq (by omega)
  refine ⟨hi2, nm_r (e' := nI (q * 9 + m)) (by rw [e, hl, oc_m9, nI_add]) ⟨hi, nm_r (e' := upd xS (q * 9 + m) x) (by rw [e2]) ⟨hi, nm_r (e' := upd xB (q * 9 + m) y) (by rw [e2]) ⟨hi, nm_r (e' := upd xT (q * 9 + m) z) (by rw [e2]) ⟨hi2, hi2, nm_r (e' := upd ql q (nI (m + 1))) (by rw [e, hl, nI_1]) p⟩⟩⟩⟩⟩
theorem oc_x_rem_l {post : SX → Prop} {q m : Nat} (hq : q < 12) (hm : m < 9) (hl : ql q = nI (m + 1))
    (p : post (hc, rh, so, sh, uw, gc, gb, upd ql q (nI m), oc_sh xS (q * 9) (q * 9 + m), oc_sh xB (q * 9) (q * 9 + m), oc_sh xT (q * 9) (q * 9 + m))) : ∀ d i : Nat, i + d = m →
    wX_removeOldest_19 post (nI q) (nI (q * 9 + m)) (d + 1) (nI (q * 9 + i)) hc rh so sh uw gc gb ql (oc_sh xS (q * 9) (q * 9 + i)) (oc_sh xB (q * 9) (q * 9 + i)) (oc_sh xT (q * 9) (q * 9 + i)) := by
  intro d
  have e : (nI q).toNatClampNeg = q := nI_clamp (by omega)
  have hi2 : vp_in (nI q) 12 := vp_in_nI hq (by omega)
  induction d with
  | zero =>
    intro i hi
    have e1 : i = m := by omega
    subst e1
    exact br_t (nI_le (Nat.le_refl _) (by omega)) ⟨hi2, hi2, nm_r (e' := upd ql q (nI i)) (by rw [e, hl, nI_pred]) p⟩
  | succ d ih =>
    intro i hi
    have a1 : vp_in (nI (q * 9 + i) + 1) 108 := oc_ia1 (by omega) (by omega)
    have a2 : vp_in (nI (q * 9 + i)) 108 := vp_in_nI (by omega) (by omega)
    have b1 : (nI (q * 9 + i) + 1).toNatClampNeg = q * 9 + i + 1 := oc_ca1 (by omega)
    have b2 : (nI (q * 9 + i)).toNatClampNeg = q * 9 + i := nI_clamp (by omega)
    refine br_f (nI_ge (by omega) (by omega)) ⟨a1, a2, nm_r (e' := oc_sh xS (q * 9) (q * 9 + (i + 1))) ?_ ⟨a1, a2, nm_r (e' := oc_sh xB (q * 9) (q * 9 + (i + 1))) ?_ ⟨a1, a2, nm_r (e' := oc_sh xT (q * 9) (q * 9 + (i + 1))) ?_ (nm_r (nI_1 _) (ih (i + 1) (by omega)))⟩⟩⟩
    · rw [b1, b2]
      exact oc_sh_s xS (by omega)
    · rw [b1, b2]
      exact oc_sh_s xB (by omega)
    · rw [b1, b2]
      exact oc_sh_s xT (by omega)
theorem oc_x_rem {post : SX → Prop} {q m : Nat} (hq : q < 12) (hm : m < 9) (hl : ql q = nI (m + 1))
    (p : post (hc, rh, so, sh, uw, gc, gb, upd ql q (nI m), oc_sh xS (q * 9) (q * 9 + m), oc_sh xB (q * 9) (q * 9 + m), oc_sh xT (q * 9) (q * 9 + m))) : wpX_removeOldest post (hc, rh, so, sh, uw, gc, gb, ql, xS, xB, xT) (nI q) := by
  unfold wpX_removeOldest
  have e : (nI q).toNatClampNeg = q := nI_clamp (by omega)
  refine nm_r (e' := nI (q * 9)) (oc_m9 q) ⟨vp_in_nI hq (by omega), nm_r (e' := nI (q * 9 + m)) ?_ ⟨m + 1, ?_⟩⟩
  · rw [e, hl, nI_add, show q * 9 + (m + 1) = q * 9 + m + 1 by omega, nI_pred]
  · have g := oc_x_rem_l (xS := xS) (xB := xB) (xT := xT) hq hm hl p m 0 (by omega)
    rw [oc_sh_00, oc_sh_00, oc_sh_00] at g
    exact g
theorem oc_and7 {g : Nat} (h : g < 2 ^ 31) : nI g &&& 7 = nI (g % 8) := pk_andN (by omega) 3 (by decide)
theorem oc_x_del {post : SX → Prop} {w g m : Nat} {v : Int32} (hw : w < 12) (hg : g < 2 ^ 30) (hgc : gc w = nI g) (hu : uw w = nI (m + 1))
    (p : post (hc, rh, so, sh, upd uw w (nI m), upd gc w (nI (g + 1)), upd gb (w * 8 + g % 8) v, ql, xS, xB, xT)) : wpX_deliver post (hc, rh, so, sh, uw, gc, gb, ql, xS, xB, xT) (nI w) v := by
  unfold wpX_deliver
  have e : (nI w).toNatClampNeg = w := nI_clamp (by omega)
  have hi : vp_in (nI w) 12 := vp_in_nI hw (by omega)
  have e2 : nI w * 8 + (gc (nI w).toNatClampNeg &&& 7) = nI (w * 8 + g % 8) := by
    rw [e, hgc, oc_and7 (by omega), oc_m8, nI_add]
  refine ⟨hi, ?_⟩
  unfold wpX_gotPlace
  rw [e2]
  refine ⟨vp_in_nI (by omega) (by omega), nm_r (e' := upd gb (w * 8 + g % 8) v) (by rw [nI_clamp (by omega)]) ⟨hi, hi, nm_r (e' := upd gc w (nI (g + 1))) (by rw [e, hgc, nI_1]) ⟨hi, hi, nm_r (e' := upd uw w (nI m)) (by rw [e, hu, nI_pred]) p⟩⟩⟩
theorem oc_x_crR {post : Int32 → Prop} {x y z r : Int32} (h : ∀ P : Int32 → Prop, P r → wpX_circuitRefusal P (hc, rh, so, sh, uw, gc, gb, ql, xS, xB, xT) x) (hr : ¬ r = 0) (p : post r) : wpX_cellRefusal post (hc, rh, so, sh, uw, gc, gb, ql, xS, xB, xT) x y z := by
  unfold wpX_cellRefusal
  exact h _ (br_f hr p)
theorem oc_x_crL {post : Int32 → Prop} {c : Nat} {y z : Int32} (hc2 : c < 2) (h0 : ¬ hc c = 0) (h : y < 0 ∨ 3 ≤ y) (p : post (-7)) : wpX_cellRefusal post (hc, rh, so, sh, uw, gc, gb, ql, xS, xB, xT) (nI c) y z := by
  unfold wpX_cellRefusal
  exact oc_x_ref hc2 h0 (br_t rfl (oc_x_lnkB h (br_t rfl p)))
theorem oc_x_cr0 {post : Int32 → Prop} {c l f : Nat} (hc2 : c < 2) (h0 : ¬ hc c = 0) (hl : l < 3) (hf : f < 2) (h : ql ((c * 3 + l) * 2 + (1 - f)) = 0) (p : post (-7)) : wpX_cellRefusal post (hc, rh, so, sh, uw, gc, gb, ql, xS, xB, xT) (nI c) (nI l) (nI f) := by
  unfold wpX_cellRefusal
  exact oc_x_ref hc2 h0 (br_t rfl (oc_x_lnk hl (br_f (by decide) (oc_x_que hf ⟨vp_in_nI (by omega) (by omega), br_t (by rw [nI_clamp (by omega)]; exact h) p⟩))))
theorem oc_x_cr {post : Int32 → Prop} {c l f : Nat} (hc2 : c < 2) (h0 : ¬ hc c = 0) (hl : l < 3) (hf : f < 2) (h : ¬ ql ((c * 3 + l) * 2 + (1 - f)) = 0) (p : post 0) : wpX_cellRefusal post (hc, rh, so, sh, uw, gc, gb, ql, xS, xB, xT) (nI c) (nI l) (nI f) := by
  unfold wpX_cellRefusal
  exact oc_x_ref hc2 h0 (br_t rfl (oc_x_lnk hl (br_f (by decide) (oc_x_que hf ⟨vp_in_nI (by omega) (by omega), br_f (by rw [nI_clamp (by omega)]; exact h) p⟩))))
end
end
section
/-! ===== the reference's own methods, each with a general post ===== -/
theorem oc_toI (n : Nat) (h : n < 2 ^ 31) : (nI n).toInt = (n : Int) := nI_toInt h
theorem oc_gt {a : Nat} {y : Int32} (ha : a + 1 < 2 ^ 31) (h : nI (a + 1) ≤ y) : nI a < y := by
  rw [Int32.le_iff_toInt_le, nI_toInt ha] at h
  rw [Int32.lt_iff_toInt_lt, nI_toInt (by omega)]
  omega
theorem oc_ngt {a : Nat} {y : Int32} (ha : a + 1 < 2 ^ 31) (h : nI (a + 1) ≤ y) : ¬ y ≤ nI a := by
  rw [Int32.le_iff_toInt_le, nI_toInt ha] at h
  rw [Int32.le_iff_toInt_le, nI_toInt (by omega)]
  omega
theorem oc_ge0 {a : Nat} {y : Int32} (ha : a < 2 ^ 31) (h : nI a ≤ y) : ¬ y < 0 := by
  rw [Int32.le_iff_toInt_le, nI_toInt ha] at h
  rw [Int32.lt_iff_toInt_lt, show (0 : Int32).toInt = 0 from by decide]
  omega
theorem oc_neI {a : Nat} {y : Int32} {N : Nat} (ha : a < N) (hN : N < 2 ^ 31) (h : y < 0 ∨ nI N ≤ y) : ¬ nI a = y := by
  intro e
  subst e
  rcases h with h | h
  · exact nI_pos (by omega) h
  · exact nI_ge ha hN h
theorem oc_noC {x : Int32} (h : x < 0 ∨ 2 ≤ x) : ¬ x = 0 ∧ ¬ x = 1 :=
  ⟨fun e => oc_neI (a := 0) (N := 2) (by decide) (by decide) h e.symm, fun e => oc_neI (a := 1) (N := 2) (by decide) (by decide) h e.symm⟩
theorem oc_d3 {a : Nat} (h : a < 2 ^ 31) : nI a / 3 = nI (a / 3) := pk_div (d := 3) h (by decide) (by decide)
theorem oc_3n : ¬ (3 : Int32) = 0 := by decide
section
variable {n : Int32} {hc rl jn gd lb cS cF cL cB cT : Nat → Int32}
theorem oc_y_refB {post : Int32 → Prop} {x : Int32} (h : x < 0 ∨ 2 ≤ x) (p : post (-1)) : wpY_refusal post (n, hc, rl, jn, gd, lb, cS, cF, cL, cB, cT) x := by
  unfold wpY_refusal
  exact br_f (oc_noC h).1 (br_f (oc_noC h).2 p)
theorem oc_y_ref11 {post : Int32 → Prop} {c : Nat} (h : c < 2) (p : wY_refusal_11 post (nI c) n hc rl jn gd lb cS cF cL cB cT) : wpY_refusal post (n, hc, rl, jn, gd, lb, cS, cF, cL, cB, cT) (nI c) := by
  unfold wpY_refusal
  match c, h with
  | 0, _ => exact br_t rfl p
  | 1, _ => exact br_f (by decide) (br_t rfl p)
theorem oc_y_ref0 {post : Int32 → Prop} {c : Nat} (h : c < 2) (h0 : hc c = 0) (p : post (-5)) : wpY_refusal post (n, hc, rl, jn, gd, lb, cS, cF, cL, cB, cT) (nI c) :=
  oc_y_ref11 h ⟨vp_in_nI h (by omega), br_t (by rw [nI_clamp (by omega)]; exact h0) p⟩
theorem oc_y_ref {post : Int32 → Prop} {c : Nat} (h : c < 2) (h0 : ¬ hc c = 0) (p : post 0) : wpY_refusal post (n, hc, rl, jn, gd, lb, cS, cF, cL, cB, cT) (nI c) :=
  oc_y_ref11 h ⟨vp_in_nI h (by omega), br_f (by rw [nI_clamp (by omega)]; exact h0) p⟩
theorem oc_y_take_l {post : SY → Prop} {a m : Nat} (hm : m < 36) (hF : ∀ i, i ≤ m → vp_nar .boolean (cF i) = cF i)
    (p : post (nI m, hc, rl, jn, gd, lb, oc_sh cS a m, oc_sh cF a m, oc_sh cL a m, oc_sh cB a m, oc_sh cT a m)) : ∀ d i : Nat, a ≤ i → i + d = m →
    wY_take_12 post (nI m) (d + 1) (nI i) hc rl jn gd lb (oc_sh cS a i) (oc_sh cF a i) (oc_sh cL a i) (oc_sh cB a i) (oc_sh cT a i) := by
  intro d
  induction d with
  | zero =>
    intro i ha hi
    have e1 : i = m := by omega
    subst e1
    exact br_t (nI_le (Nat.le_refl _) (by omega)) p
  | succ d ih =>
    intro i ha hi
    have a1 : vp_in (nI i + 1) 36 := oc_ia1 (by omega) (by omega)
    have a2 : vp_in (nI i) 36 := vp_in_nI (by omega) (by omega)
    have b1 : (nI i + 1).toNatClampNeg = i + 1 := oc_ca1 (by omega)
    have b2 : (nI i).toNatClampNeg = i := nI_clamp (by omega)
    refine br_f (nI_ge (by omega) (by omega)) ⟨a1, a2, nm_r (e' := oc_sh cS a (i + 1)) ?_ ⟨a1, a2, nm_r (e' := oc_sh cF a (i + 1)) ?_ ⟨a1, a2, nm_r (e' := oc_sh cL a (i + 1)) ?_ ⟨a1, a2, nm_r (e' := oc_sh cB a (i + 1)) ?_ ⟨a1, a2, nm_r (e' := oc_sh cT a (i + 1)) ?_ (nm_r (nI_1 _) (ih (i + 1) (by omega) (by omega)))⟩⟩⟩⟩⟩
    · rw [b1, b2]
      exact oc_sh_s cS ha
    · rw [b1, b2, oc_sh_out (i := i + 1) (by omega), hF (i + 1) (by omega), ← oc_sh_out (a := cF) (p := a) (e := i) (i := i + 1) (by omega)]
      exact oc_sh_s cF ha
    · rw [b1, b2]
      exact oc_sh_s cL ha
    · rw [b1, b2]
      exact oc_sh_s cB ha
    · rw [b1, b2]
      exact oc_sh_s cT ha
theorem oc_y_take {post : SY → Prop} {a m : Nat} (ha : a ≤ m) (hm : m < 36) (hF : ∀ i, i ≤ m → vp_nar .boolean (cF i) = cF i)
    (p : post (nI m, hc, rl, jn, gd, lb, oc_sh cS a m, oc_sh cF a m, oc_sh cL a m, oc_sh cB a m, oc_sh cT a m)) :
    wpY_take post (nI (m + 1), hc, rl, jn, gd, lb, cS, cF, cL, cB, cT) (nI a) := by
  unfold wpY_take
  refine nm_r (e' := nI m) (nI_pred m) ⟨m - a + 1, ?_⟩
  have g := oc_y_take_l (cS := cS) (cF := cF) (cL := cL) (cB := cB) (cT := cT) hm hF p (m - a) a (Nat.le_refl a) (by omega)
  rw [oc_sh_0, oc_sh_0, oc_sh_0, oc_sh_0, oc_sh_0] at g
  exact g
theorem oc_y_app {post : SY → Prop} {m f : Nat} {s l b t : Int32} (hm : m < 36) (hf : f < 2)
    (p : post (nI (m + 1), hc, rl, jn, gd, lb, upd cS m s, upd cF m (nI f), upd cL m l, upd cB m b, upd cT m t)) : wpY_append post (nI m, hc, rl, jn, gd, lb, cS, cF, cL, cB, cT) s (nI f) l b t := by
  unfold wpY_append
  have hi : vp_in (nI m) 36 := vp_in_nI hm (by omega)
  have e : (nI m).toNatClampNeg = m := nI_clamp (by omega)
  exact ⟨hi, nm_r (e' := upd cS m s) (by rw [e]) ⟨hi, nm_r (e' := upd cF m (nI f)) (by rw [e, oc_bN hf]) ⟨hi, nm_r (e' := upd cL m l) (by rw [e]) ⟨hi, nm_r (e' := upd cB m b) (by rw [e]) ⟨hi, nm_r (e' := upd cT m t) (by rw [e]) (nm_r (nI_1 m) p)⟩⟩⟩⟩⟩
theorem oc_y_des6 {post : Int32 → SY → Prop} {c : Nat} {x : Int32} (hc2 : c < 2) (p : post (x - n) (n, hc, rl, oc_fl jn (c * 3) (c * 3 + 3) (-1), gd, lb, cS, cF, cL, cB, cT)) : ∀ d i : Nat, i + d = 3 →
    wY_destroy_62 post (nI c) x n (d + 1) (nI i) hc rl (oc_fl jn (c * 3) (c * 3 + i) (-1)) gd lb cS cF cL cB cT := by
  intro d
  induction d with
  | zero =>
    intro i hi
    have e : i = 3 := by omega
    subst e
    exact br_t (nI_le (a := 3) (b := 3) (Nat.le_refl 3) (by decide)) p
  | succ d ih =>
    intro i hi
    refine br_f (nI_ge (b := 3) (by omega) (by decide)) ⟨?_, nm_r (e' := oc_fl jn (c * 3) (c * 3 + (i + 1)) (-1)) ?_ (nm_r (nI_1 i) (ih (i + 1) (by omega)))⟩
    · rw [oc_m3]
      exact vp_in_nI (by omega) (by omega)
    · rw [oc_m3, nI_clamp (by omega)]
      exact oc_fl_s jn (-1) (by omega)
end
theorem oc_Y_F {L : List oc_C} {n : Int32} {cS cF cL cB cT : Nat → Int32} (h : oc_Y L n cS cF cL cB cT) (hok : ∀ x ∈ L, oc_ok x) : ∀ i, i < L.length → vp_nar .boolean (cF i) = cF i := by
  intro i hi
  have hx := List.getElem?_eq_getElem hi
  have h1 := (oc_Y_at h hx).2.1
  rw [h1]
  exact oc_bN (hok _ (List.getElem_mem hi)).2.1
theorem oc_mid (A B : List oc_C) (x : oc_C) : (A ++ x :: B)[A.length]? = some x := by simp
section
variable {hc rl jn gd lb : Nat → Int32} {L : List oc_C}
theorem oc_y_des2 {post : Int32 → SY → Prop} {c : Nat} {z : Int32} (hc2 : c < 2) (hok : ∀ x ∈ L, oc_ok x) (hL : L.length ≤ 36)
    (p : ∀ (n : Int32) (cS cF cL cB cT : Nat → Int32), oc_Y (oc_D c L) n cS cF cL cB cT → post (z - n) (n, upd hc c 0, rl, oc_fl jn (c * 3) (c * 3 + 3) (-1), gd, lb, cS, cF, cL, cB, cT)) :
    ∀ (k : Nat) (A B : List oc_C), A.length = k → L = A ++ B → ∀ (n : Int32) (cS cF cL cB cT : Nat → Int32), oc_Y (A ++ oc_D c B) n cS cF cL cB cT →
      wY_destroy_22 post (nI c) z (k + 1) (nI k - 1) n hc rl jn gd lb cS cF cL cB cT := by
  intro k
  induction k with
  | zero =>
    intro A B hA hAB n cS cF cL cB cT hY
    have e := List.length_eq_zero_iff.mp hA
    subst e
    rw [List.nil_append] at hAB hY
    subst hAB
    refine br_t (by decide) ⟨vp_in_nI hc2 (by omega), nm_r (e' := upd hc c 0) (by rw [nI_clamp (by omega)]) ⟨4, ?_⟩⟩
    have g := oc_y_des6 (hc := upd hc c 0) (rl := rl) (jn := jn) (gd := gd) (lb := lb) (post := post) (x := z) hc2 (p n cS cF cL cB cT hY) 3 0 (by omega)
    rw [oc_fl_00] at g
    exact g
  | succ k ih =>
    intro A B hA hAB n cS cF cL cB cT hY
    have hne : A ≠ [] := fun e => by rw [e] at hA; simp at hA
    obtain ⟨A', x, rfl⟩ : ∃ A' x, A = A' ++ [x] := ⟨A.dropLast, A.getLast hne, (List.dropLast_concat_getLast hne).symm⟩
    rw [List.length_append, List.length_singleton] at hA
    have hk : A'.length = k := by omega
    rw [List.append_assoc, List.singleton_append] at hAB hY
    have hlen : L.length = A'.length + (B.length + 1) := by rw [hAB, List.length_append, List.length_cons]
    have hDl : (oc_D c B).length ≤ B.length := List.length_filter_le _ _
    have hxm : x ∈ L := by rw [hAB]; simp
    have hx := hok x hxm
    have hat := oc_Y_at hY (oc_mid A' (oc_D c B) x)
    rw [hk] at hat
    have e1 : (nI k).toNatClampNeg = k := nI_clamp (by omega)
    have e2 : nI (k + 1) - 1 = nI k := nI_pred k
    have e3 : cS (nI k).toNatClampNeg / 3 = nI (x.1 / 3) := by
      rw [e1, hat.1]
      exact oc_d3 (by have := hx.1; omega)
    have e4 : nI k + (-1) = nI k - 1 := (Int32.sub_eq_add_neg _ _).symm
    rw [e2]
    refine br_f (nI_pos (by omega)) ⟨vp_in_nI (by omega) (by omega), oc_3n, ?_⟩
    rw [e3]
    by_cases hd : x.1 / 3 = c
    · refine br_t (by rw [hd]) ?_
      have hn : n = nI (A'.length + (oc_D c B).length + 1) := by
        rw [hY.1, List.length_append, List.length_cons]
        rfl
      have hokD : ∀ y ∈ A' ++ x :: oc_D c B, oc_ok y := by
        intro y hy
        refine hok y ?_
        rw [hAB]
        rcases List.mem_append.mp hy with hy | hy
        · exact List.mem_append.mpr (Or.inl hy)
        · rcases List.mem_cons.mp hy with hy | hy
          · exact List.mem_append.mpr (Or.inr (List.mem_cons.mpr (Or.inl hy)))
          · exact List.mem_append.mpr (Or.inr (List.mem_cons.mpr (Or.inr (oc_D_mem hy).1)))
      have hF := oc_Y_F hY hokD
      have hlD : (A' ++ x :: oc_D c B).length = A'.length + (oc_D c B).length + 1 := by
        rw [List.length_append, List.length_cons]
        rfl
      have hcut := oc_Y_cut hY
      subst hn
      rw [← hk]
      refine oc_y_take (a := A'.length) (m := A'.length + (oc_D c B).length) (by omega) (by omega) (fun i hi => hF i (by omega)) ?_
      rw [hk] at hcut ⊢
      refine nm_r e4 ?_
      exact ih A' (x :: B) hk hAB _ _ _ _ _ _ (by rw [oc_D_s B hd]; exact hcut)
    · refine br_f (fun z => hd ((nI_eq (by have := hx.1; omega) (by omega)).mp z)) (nm_r e4 ?_)
      exact ih A' (x :: B) hk hAB n cS cF cL cB cT (by rw [oc_D_c B hd]; exact hY)
theorem oc_y_des {post : Int32 → SY → Prop} {c : Nat} {n : Int32} {cS cF cL cB cT : Nat → Int32} (hc2 : c < 2) (h0 : ¬ hc c = 0) (hok : ∀ x ∈ L, oc_ok x) (hL : L.length ≤ 36) (hY : oc_Y L n cS cF cL cB cT)
    (p : ∀ (n : Int32) (cS cF cL cB cT : Nat → Int32), oc_Y (oc_D c L) n cS cF cL cB cT → post (nI (L.length - (oc_D c L).length)) (n, upd hc c 0, rl, oc_fl jn (c * 3) (c * 3 + 3) (-1), gd, lb, cS, cF, cL, cB, cT)) :
    wpY_destroy post (n, hc, rl, jn, gd, lb, cS, cF, cL, cB, cT) (nI c) := by
  unfold wpY_destroy
  refine oc_y_ref hc2 h0 (br_t (by decide) ?_)
  have hn := hY.1
  subst hn
  refine nm_e ⟨L.length + 1, ?_⟩
  have hle : (oc_D c L).length ≤ L.length := List.length_filter_le _ _
  refine oc_y_des2 (L := L) hc2 hok hL (fun m aS aF aL aB aT hY2 => ?_) L.length L [] rfl (List.append_nil L).symm _ cS cF cL cB cT (by rw [show oc_D c [] = [] from rfl, List.append_nil]; exact hY)
  rw [hY2.1, pk_sub hle, ← hY2.1]
  exact p m aS aF aL aB aT hY2
end
section
variable {hc rl jn gd lb cS cF cL cB cT : Nat → Int32} {L : List oc_C} {n : Int32}
theorem oc_y_uw_l {post : Int32 → Prop} {s f : Nat} (hs : s < 6) (hf : f < 2) (hok : ∀ x ∈ L, oc_ok x) (hL : L.length ≤ 36) (hY : oc_Y L n cS cF cL cB cT) (p : post (nI (oc_n (s * 2 + (1 - f)) L))) :
    ∀ B A : List oc_C, L = A ++ B → wY_underWay_5 post (nI s) (nI f) n hc rl jn gd lb cS cF cL cB cT (B.length + 1) (nI (oc_n (s * 2 + (1 - f)) A)) (nI A.length) := by
  intro B
  induction B with
  | nil =>
    intro A hA
    rw [List.append_nil] at hA
    subst hA
    refine br_t ?_ p
    rw [hY.1]
    exact nI_le (Nat.le_refl _) (by omega)
  | cons x B ih =>
    intro A hA
    have hlen : L.length = A.length + (B.length + 1) := by rw [hA, List.length_append, List.length_cons]
    have hx := hok x (by rw [hA]; simp)
    have hat := oc_Y_at hY (by rw [hA]; exact oc_mid A B x)
    have hi : vp_in (nI A.length) 36 := vp_in_nI (by omega) (by omega)
    have e1 : (nI A.length).toNatClampNeg = A.length := nI_clamp (by omega)
    have g := ih (A ++ [x]) (by rw [List.append_assoc, List.singleton_append]; exact hA)
    rw [oc_n_app, List.length_append, List.length_singleton] at g
    obtain ⟨o1, o2, o3⟩ := hx
    refine br_f (by rw [hY.1]; exact nI_ge (by omega) (by omega)) ⟨hi, ?_⟩
    rw [e1, hat.1, hat.2.1]
    by_cases d1 : x.1 = s
    · refine br_t (by rw [d1]) ⟨hi, ?_⟩
      by_cases d2 : x.2.1 = f
      · rw [if_pos (show oc_wi x = s * 2 + (1 - f) by unfold oc_wi; rw [d1, d2])] at g
        exact br_t (by rw [d2]) (nm_r (nI_1 _) (nm_r (nI_1 _) g))
      · rw [if_neg (show ¬ oc_wi x = s * 2 + (1 - f) by unfold oc_wi; omega)] at g
        exact br_f (fun z => d2 ((nI_eq (by omega) (by omega)).mp z)) (nm_r (nI_1 _) g)
    · rw [if_neg (show ¬ oc_wi x = s * 2 + (1 - f) by unfold oc_wi; omega)] at g
      exact br_f (fun z => d1 ((nI_eq (by omega) (by omega)).mp z)) (nm_r (nI_1 _) g)
theorem oc_y_uw {post : Int32 → Prop} {s f : Nat} (hs : s < 6) (hf : f < 2) (hok : ∀ x ∈ L, oc_ok x) (hL : L.length ≤ 36) (hY : oc_Y L n cS cF cL cB cT) (p : post (nI (oc_n (s * 2 + (1 - f)) L))) :
    wpY_underWay post (n, hc, rl, jn, gd, lb, cS, cF, cL, cB, cT) (nI s) (nI f) := by
  unfold wpY_underWay
  exact ⟨L.length + 1, oc_y_uw_l hs hf hok hL hY p L [] rfl⟩
/-- the cell is the one that is looked for -/
def oc_M (x l : Int32) (f : Nat) (y : oc_C) : Prop := nI (y.1 / 3) = x ∧ nI y.2.2.1 = l ∧ y.2.1 = f
theorem oc_y_old_s {post : Int32 → Prop} {x l : Int32} {f i k : Nat} {y : oc_C} (hf : f < 2) (hok : ∀ x ∈ L, oc_ok x) (hL : L.length ≤ 36) (hY : oc_Y L n cS cF cL cB cT) (hy : L[i]? = some y) (hn : ¬ oc_M x l f y)
    (p : wY_oldest_3 post x l (nI f) n hc rl jn gd lb cS cF cL cB cT k (nI (i + 1))) : wY_oldest_3 post x l (nI f) n hc rl jn gd lb cS cF cL cB cT (k + 1) (nI i) := by
  have hil := oc_ar_lt hy
  have hat := oc_Y_at hY hy
  have hi : vp_in (nI i) 36 := vp_in_nI (by omega) (by omega)
  have e1 : (nI i).toNatClampNeg = i := nI_clamp (by omega)
  obtain ⟨o1, o2, o3⟩ := hok y (List.mem_of_getElem? hy)
  refine br_f (by rw [hY.1]; exact nI_ge (by omega) (by omega)) ⟨hi, oc_3n, ?_⟩
  rw [e1, hat.1, hat.2.1, hat.2.2.1, oc_d3 (by omega)]
  refine br_c (fun d1 => ⟨hi, br_c (fun d2 => ⟨hi, br_f (fun d3 => ?_) (nm_r (nI_1 i) p)⟩) (fun _ => nm_r (nI_1 i) p)⟩) (fun _ => nm_r (nI_1 i) p)
  exact hn ⟨d1, d2, (nI_eq (by omega) (by omega)).mp d3⟩
theorem oc_y_oldN {post : Int32 → Prop} {x l : Int32} {f : Nat} (hf : f < 2) (hok : ∀ x ∈ L, oc_ok x) (hL : L.length ≤ 36) (hY : oc_Y L n cS cF cL cB cT) (hn : ∀ y ∈ L, ¬ oc_M x l f y) (p : post (-7)) : wpY_oldest post (n, hc, rl, jn, gd, lb, cS, cF, cL, cB, cT) x l (nI f) := by
  unfold wpY_oldest
  have g : ∀ B A : List oc_C, L = A ++ B → wY_oldest_3 post x l (nI f) n hc rl jn gd lb cS cF cL cB cT (B.length + 1) (nI A.length) := by
    intro B
    induction B with
    | nil =>
      intro A hA
      rw [List.append_nil] at hA
      subst hA
      refine br_t ?_ p
      rw [hY.1]
      exact nI_le (Nat.le_refl _) (by omega)
    | cons y B ih =>
      intro A hA
      have g := ih (A ++ [y]) (by rw [List.append_assoc, List.singleton_append]; exact hA)
      rw [List.length_append, List.length_singleton] at g
      exact oc_y_old_s hf hok hL hY (by rw [hA]; exact oc_mid A B y) (hn y (by rw [hA]; simp)) g
  exact ⟨L.length + 1, g L [] rfl⟩
theorem oc_y_old {post : Int32 → Prop} {x l : Int32} {f : Nat} {A B : List oc_C} {y : oc_C} (hf : f < 2) (hok : ∀ x ∈ L, oc_ok x) (hL : L.length ≤ 36) (hY : oc_Y L n cS cF cL cB cT) (hA : L = A ++ y :: B) (hy : oc_M x l f y) (hn : ∀ z ∈ A, ¬ oc_M x l f z) (p : post (nI A.length)) : wpY_oldest post (n, hc, rl, jn, gd, lb, cS, cF, cL, cB, cT) x l (nI f) := by
  unfold wpY_oldest
  have g : ∀ A2 A1 : List oc_C, A = A1 ++ A2 → wY_oldest_3 post x l (nI f) n hc rl jn gd lb cS cF cL cB cT (A2.length + 1) (nI A1.length) := by
    intro A2
    induction A2 with
    | nil =>
      intro A1 h1
      rw [List.append_nil] at h1
      subst h1
      have hil : A.length < L.length := by
        rw [hA, List.length_append, List.length_cons]
        omega
      have hat := oc_Y_at hY (by rw [hA]; exact oc_mid A B y)
      have hi : vp_in (nI A.length) 36 := vp_in_nI (by omega) (by omega)
      have e1 : (nI A.length).toNatClampNeg = A.length := nI_clamp (by omega)
      obtain ⟨o1, o2, o3⟩ := hok y (by rw [hA]; simp)
      obtain ⟨m1, m2, m3⟩ := hy
      refine br_f (by rw [hY.1]; exact nI_ge (by omega) (by omega)) ⟨hi, oc_3n, ?_⟩
      rw [e1, hat.1, hat.2.1, hat.2.2.1, oc_d3 (by omega)]
      exact br_t m1 ⟨hi, br_t m2 ⟨hi, br_t (by rw [m3]) p⟩⟩
    | cons z A2 ih =>
      intro A1 h1
      have g := ih (A1 ++ [z]) (by rw [List.append_assoc, List.singleton_append]; exact h1)
      rw [List.length_append, List.length_singleton] at g
      refine oc_y_old_s (y := z) hf hok hL hY ?_ (hn z (by rw [h1]; simp)) g
      rw [hA, h1, List.append_assoc]
      exact oc_mid A1 _ z
  exact ⟨A.length + 1, g A [] rfl⟩
theorem oc_y_wait {post : Int32 → Prop} {x l : Int32} {f : Nat} (P : oc_C → Bool) (hf : f < 2) (hok : ∀ x ∈ L, oc_ok x) (hL : L.length ≤ 36) (hY : oc_Y L n cS cF cL cB cT) (hP : ∀ y ∈ L, P y = true ↔ oc_M x l f y) (p : post (nI (L.countP P))) : wpY_waiting post (n, hc, rl, jn, gd, lb, cS, cF, cL, cB, cT) x l (nI f) := by
  unfold wpY_waiting
  have g : ∀ B A : List oc_C, L = A ++ B → wY_waiting_6 post x l (nI f) n hc rl jn gd lb cS cF cL cB cT (B.length + 1) (nI (A.countP P)) (nI A.length) := by
    intro B
    induction B with
    | nil =>
      intro A hA
      rw [List.append_nil] at hA
      subst hA
      refine br_t ?_ p
      rw [hY.1]
      exact nI_le (Nat.le_refl _) (by omega)
    | cons y B ih =>
      intro A hA
      have hlen : L.length = A.length + (B.length + 1) := by rw [hA, List.length_append, List.length_cons]
      have hm : y ∈ L := by rw [hA]; simp
      have g := ih (A ++ [y]) (by rw [List.append_assoc, List.singleton_append]; exact hA)
      rw [List.countP_append, List.countP_singleton, List.length_append, List.length_singleton] at g
      have hat := oc_Y_at hY (by rw [hA]; exact oc_mid A B y)
      have hi : vp_in (nI A.length) 36 := vp_in_nI (by omega) (by omega)
      have e1 : (nI A.length).toNatClampNeg = A.length := nI_clamp (by omega)
      obtain ⟨o1, o2, o3⟩ := hok y hm
      have hPy := hP y hm
      refine br_f (by rw [hY.1]; exact nI_ge (by omega) (by omega)) ⟨hi, oc_3n, ?_⟩
      rw [e1, hat.1, hat.2.1, hat.2.2.1, oc_d3 (by omega)]
      by_cases hp : P y = true
      · obtain ⟨m1, m2, m3⟩ := hPy.mp hp
        rw [if_pos hp] at g
        exact br_t m1 ⟨hi, br_t m2 ⟨hi, br_t (by rw [m3]) (nm_r (nI_1 _) (nm_r (nI_1 _) g))⟩⟩
      · rw [if_neg hp] at g
        refine br_c (fun d1 => ⟨hi, br_c (fun d2 => ⟨hi, br_f (fun d3 => ?_) (nm_r (nI_1 _) g)⟩) (fun _ => nm_r (nI_1 _) g)⟩) (fun _ => nm_r (nI_1 _) g)
        exact hp (hPy.mpr ⟨d1, d2, (nI_eq (by omega) (by omega)).mp d3⟩)
  exact ⟨L.length + 1, g L [] rfl⟩
end
section
variable {n : Int32} {hc rl jn gd lb cS cF cL cB cT : Nat → Int32}
theorem oc_y_get_l {post : SY → Prop} {w g : Nat} {v : Int32} (hw : w < 12) (hg : gd w = nI g) (p : post (n, hc, rl, jn, upd gd w (nI (g + 1)), upd (oc_sr lb (w * 8) 0) (w * 8) v, cS, cF, cL, cB, cT)) : ∀ k : Nat, k ≤ 7 →
    wY_get_3 post (nI w) v n (k + 1) (nI k) hc rl jn gd (oc_sr lb (w * 8) k) cS cF cL cB cT := by
  intro k
  have e : (nI w).toNatClampNeg = w := nI_clamp (by omega)
  have hi : vp_in (nI w) 12 := vp_in_nI hw (by omega)
  induction k with
  | zero =>
    intro _
    refine br_t (by decide) ⟨?_, nm_r (e' := upd (oc_sr lb (w * 8) 0) (w * 8) v) ?_ ⟨hi, hi, nm_r (e' := upd gd w (nI (g + 1))) (by rw [e, hg, nI_1]) p⟩⟩
    · rw [oc_m8]
      exact vp_in_nI (by omega) (by omega)
    · rw [oc_m8, nI_clamp (by omega)]
  | succ k ih =>
    intro hk
    have e1 : nI w * 8 + nI (k + 1) = nI (w * 8 + (k + 1)) := by rw [oc_m8, nI_add]
    have e2 : nI (w * 8 + (k + 1)) - 1 = nI (w * 8 + k) := nI_pred (w * 8 + k)
    refine br_f (nI_nle (by omega) (by omega)) ?_
    rw [e1, e2]
    refine ⟨vp_in_nI (by omega) (by omega), vp_in_nI (by omega) (by omega), nm_r (e' := oc_sr lb (w * 8) k) ?_ (nm_r (pk_m1 k) (ih (by omega)))⟩
    rw [nI_clamp (by omega), nI_clamp (by omega)]
    exact oc_sr_s lb (by omega)
theorem oc_y_get {post : SY → Prop} {w g : Nat} {v : Int32} (hw : w < 12) (hg : gd w = nI g) (p : post (n, hc, rl, jn, upd gd w (nI (g + 1)), upd (oc_sr lb (w * 8) 0) (w * 8) v, cS, cF, cL, cB, cT)) :
    wpY_get post (n, hc, rl, jn, gd, lb, cS, cF, cL, cB, cT) (nI w) v := by
  unfold wpY_get
  have h := oc_y_get_l (lb := lb) hw hg p 7 (by omega)
  rw [oc_sr_0] at h
  exact ⟨8, h⟩
theorem oc_y_isoR {post : Int32 → Prop} {x y r : Int32} (h : ∀ P : Int32 → Prop, P r → wpY_refusal P (n, hc, rl, jn, gd, lb, cS, cF, cL, cB, cT) x) (hr : ¬ r = 0) (p : post 0) : wpY_isOpen post (n, hc, rl, jn, gd, lb, cS, cF, cL, cB, cT) x y := by
  unfold wpY_isOpen
  exact h _ (br_f hr p)
theorem oc_y_isoS {post : Int32 → Prop} {c : Nat} {y : Int32} (hc2 : c < 2) (h0 : ¬ hc c = 0) (h : y < 0 ∨ 3 ≤ y) (p : post 0) : wpY_isOpen post (n, hc, rl, jn, gd, lb, cS, cF, cL, cB, cT) (nI c) y := by
  unfold wpY_isOpen
  refine oc_y_ref hc2 h0 (br_t rfl (br_c (fun _ => p) (fun hn => br_t (oc_gt (a := 2) (by decide) (h.resolve_left hn)) p)))
theorem oc_y_iso0 {post : Int32 → Prop} {c s : Nat} (hc2 : c < 2) (h0 : ¬ hc c = 0) (hs : s < 3) (h : jn (c * 3 + s) < 0) (p : post 0) : wpY_isOpen post (n, hc, rl, jn, gd, lb, cS, cF, cL, cB, cT) (nI c) (nI s) := by
  unfold wpY_isOpen
  refine oc_y_ref hc2 h0 (br_t rfl (br_f (nI_pos (by omega)) (br_f ?_ ?_)))
  · exact fun z => absurd ((nI_ltI (a := 2) (by decide) (by omega)).mp z) (by omega)
  · rw [oc_m3]
    exact ⟨vp_in_nI (by omega) (by omega), br_t (by rw [nI_clamp (by omega)]; exact h) p⟩
theorem oc_y_iso1 {post : Int32 → Prop} {c s : Nat} (hc2 : c < 2) (h0 : ¬ hc c = 0) (hs : s < 3) (h : ¬ jn (c * 3 + s) < 0) (p : post 1) : wpY_isOpen post (n, hc, rl, jn, gd, lb, cS, cF, cL, cB, cT) (nI c) (nI s) := by
  unfold wpY_isOpen
  refine oc_y_ref hc2 h0 (br_t rfl (br_f (nI_pos (by omega)) (br_f ?_ ?_)))
  · exact fun z => absurd ((nI_ltI (a := 2) (by decide) (by omega)).mp z) (by omega)
  · rw [oc_m3]
    exact ⟨vp_in_nI (by omega) (by omega), br_f (by rw [nI_clamp (by omega)]; exact h) p⟩
end
end
section
/-! ===== the relation, and the ways in which the calls part ===== -/
theorem oc_ixo (x : Int32) (n : Nat) (hn : n < 2 ^ 31) : (x < 0 ∨ nI n ≤ x) ∨ ∃ j : Nat, j < n ∧ x = nI j := by
  rcases pk_ix x hn with h | h | h
  · exact Or.inl (Or.inl h)
  · exact Or.inl (Or.inr h)
  · exact Or.inr h
theorem oc_bz (v : Int32) : ∃ f : Nat, f < 2 ∧ lw_bz v = nI f := by
  rcases lw_bz_01 v with h | h
  · exact ⟨0, by decide, h⟩
  · exact ⟨1, by decide, h⟩
/-- the component's state (hc .. xT) and the reference's (n .. cT): one list of cells stands behind both -/
def i_Rel (k : Nat) (u : SX) (v : SY) : Prop := match u, v with
  | (hc, rh, so, sh, uw, gc, gb, ql, xS, xB, xT), (n, hd, rl, jn, gd, lb, cS, cF, cL, cB, cT) =>
    hc = hd ∧ ∃ (N J G : Nat → Nat) (L : List oc_C), oc_K k N J G L hc rh so sh uw gc gb ql xS xB xT rl jn gd lb ∧ oc_Y L n cS cF cL cB cT
section
variable {k : Nat} {N J G : Nat → Nat} {L : List oc_C} {hc rh so sh uw gc gb ql xS xB xT rl jn gd lb cS cF cL cB cT : Nat → Int32} {n : Int32}
theorem oc_mk (K : oc_K k N J G L hc rh so sh uw gc gb ql xS xB xT rl jn gd lb) (hY : oc_Y L n cS cF cL cB cT) : i_Rel k (hc, rh, so, sh, uw, gc, gb, ql, xS, xB, xT) (n, hc, rl, jn, gd, lb, cS, cF, cL, cB, cT) := by
  unfold i_Rel
  exact ⟨rfl, N, J, G, L, K, hY⟩
theorem oc_mk5 (K : oc_K k N J G L hc rh so sh uw gc gb ql xS xB xT rl jn gd lb) (hY : oc_Y L n cS cF cL cB cT) : i_Rel (k + 5) (hc, rh, so, sh, uw, gc, gb, ql, xS, xB, xT) (n, hc, rl, jn, gd, lb, cS, cF, cL, cB, cT) :=
  oc_mk (oc_K_up (k + 5) (by omega) K) hY
theorem oc_hc {c : Nat} (hH : oc_H N hc) (hc2 : c < 2) : hc c = 0 ↔ N c = 0 := by
  obtain ⟨h1, h2⟩ := hH c hc2
  rw [h1]
  exact nI_eq (b := 0) (by omega) (by decide)
theorem oc_refus (hH : oc_H N hc) (x : Int32) :
    (∃ r : Int32, ¬ r = 0 ∧ ¬ 0 ≤ r ∧ (∀ P : Int32 → Prop, P r → wpX_circuitRefusal P (hc, rh, so, sh, uw, gc, gb, ql, xS, xB, xT) x) ∧ (∀ P : Int32 → Prop, P r → wpY_refusal P (n, hc, rl, jn, gd, lb, cS, cF, cL, cB, cT) x)) ∨
    (∃ c, c < 2 ∧ x = nI c ∧ 0 < N c ∧ ¬ hc c = 0) := by
  rcases oc_ixo x 2 (by decide) with h | ⟨c, hc2, rfl⟩
  · exact Or.inl ⟨-1, by decide, by decide, fun P p => oc_x_refB h p, fun P p => oc_y_refB h p⟩
  · by_cases h0 : hc c = 0
    · exact Or.inl ⟨-5, by decide, by decide, fun P p => oc_x_ref0 hc2 h0 p, fun P p => oc_y_ref0 hc2 h0 p⟩
    · refine Or.inr ⟨c, hc2, rfl, ?_, h0⟩
      have h1 : ¬ N c = 0 := fun z => h0 ((oc_hc hH hc2).mpr z)
      omega
theorem oc_isop (hH : oc_H N hc) (hJ : oc_J N J so sh jn) (x y : Int32) :
    ((∀ P : Int32 → Prop, P 0 → wpX_isOpenStream P (hc, rh, so, sh, uw, gc, gb, ql, xS, xB, xT) x y) ∧ (∀ P : Int32 → Prop, P 0 → wpY_isOpen P (n, hc, rl, jn, gd, lb, cS, cF, cL, cB, cT) x y)) ∨
    (∃ c s j, c < 2 ∧ s < 3 ∧ x = nI c ∧ y = nI s ∧ j < 3 ∧ J (c * 3 + s) = j + 1 ∧ sh (c * 3 + s) = nI j ∧ jn (c * 3 + s) = nI j ∧ 0 < N c ∧ ¬ hc c = 0 ∧
      (∀ P : Int32 → Prop, P 1 → wpX_isOpenStream P (hc, rh, so, sh, uw, gc, gb, ql, xS, xB, xT) x y) ∧ (∀ P : Int32 → Prop, P 1 → wpY_isOpen P (n, hc, rl, jn, gd, lb, cS, cF, cL, cB, cT) x y)) := by
  rcases oc_ixo x 2 (by decide) with h | ⟨c, hc2, rfl⟩
  · exact Or.inl ⟨fun P p => oc_x_isoC h p, fun P p => oc_y_isoR (r := -1) (fun Q q => oc_y_refB h q) (by decide) p⟩
  · rcases oc_ixo y 3 (by decide) with h | ⟨s, hs, rfl⟩
    · refine Or.inl ⟨fun P p => oc_x_isoS hc2 h p, fun P p => ?_⟩
      by_cases h0 : hc c = 0
      · exact oc_y_isoR (r := -5) (fun Q q => oc_y_ref0 hc2 h0 q) (by decide) p
      · exact oc_y_isoS hc2 h0 h p
    · have hd : (c * 3 + s) / 3 = c := by omega
      rcases hJ (c * 3 + s) (by omega) with ⟨j1, j2, j3⟩ | ⟨j, j1, j2, j3, j4, j5, j6⟩
      · refine Or.inl ⟨fun P p => oc_x_iso0 hc2 hs j2 p, fun P p => ?_⟩
        by_cases h0 : hc c = 0
        · exact oc_y_isoR (r := -5) (fun Q q => oc_y_ref0 hc2 h0 q) (by decide) p
        · exact oc_y_iso0 hc2 h0 hs (by rw [j3]; decide) p
      · rw [hd] at j6
        have h0 : ¬ hc c = 0 := fun z => by
          have := (oc_hc hH hc2).mp z
          omega
        exact Or.inr ⟨c, s, j, hc2, hs, rfl, rfl, j1, j2, j4, j5, j6, h0, fun P p => oc_x_iso1 hc2 hs j3 p, fun P p => oc_y_iso1 hc2 h0 hs (by rw [j5]; exact nI_pos (by omega)) p⟩
theorem oc_M_qi {c l f : Nat} {y : oc_C} (hy : oc_ok y) (hc2 : c < 2) (hl : l < 3) (hf : f < 2) : oc_M (nI c) (nI l) f y ↔ oc_qi y = (c * 3 + l) * 2 + (1 - f) := by
  obtain ⟨o1, o2, o3⟩ := hy
  unfold oc_M oc_qi
  rw [nI_eq (by omega) (by omega), nI_eq (by omega) (by omega)]
  omega
theorem oc_cell (K : oc_K k N J G L hc rh so sh uw gc gb ql xS xB xT rl jn gd lb) (hY : oc_Y L n cS cF cL cB cT) {c f : Nat} (hc2 : c < 2) (h0 : ¬ hc c = 0) (hf : f < 2) (y : Int32) :
    ((∀ P : Int32 → Prop, P (-7) → wpX_cellRefusal P (hc, rh, so, sh, uw, gc, gb, ql, xS, xB, xT) (nI c) y (nI f)) ∧ (∀ P : Int32 → Prop, P (-7) → wpY_oldest P (n, hc, rl, jn, gd, lb, cS, cF, cL, cB, cT) (nI c) y (nI f))) ∨
    (∃ (l : Nat) (A : List oc_C) (x : oc_C) (B : List oc_C), l < 3 ∧ y = nI l ∧ L = A ++ x :: B ∧ oc_qi x = (c * 3 + l) * 2 + (1 - f) ∧ (∀ z ∈ A, oc_qi z ≠ (c * 3 + l) * 2 + (1 - f)) ∧
      (∀ P : Int32 → Prop, P 0 → wpX_cellRefusal P (hc, rh, so, sh, uw, gc, gb, ql, xS, xB, xT) (nI c) y (nI f)) ∧ (∀ P : Int32 → Prop, P (nI A.length) → wpY_oldest P (n, hc, rl, jn, gd, lb, cS, cF, cL, cB, cT) (nI c) y (nI f))) := by
  obtain ⟨h1, h2, h3, h4, h5, h6, h7, h8⟩ := K
  have hok := oc_L_ok h6
  have hL := oc_U_len h7 hok
  rcases oc_ixo y 3 (by decide) with h | ⟨l, hl, rfl⟩
  · refine Or.inl ⟨fun P p => oc_x_crL hc2 h0 h p, fun P p => oc_y_oldN hf hok hL hY (fun z hz m => ?_) p⟩
    exact oc_neI (hok z hz).2.2 (by decide) h m.2.1
  · have hq : (c * 3 + l) * 2 + (1 - f) < 12 := by omega
    obtain ⟨q0, q1, q2, q3, q4⟩ := h8 ((c * 3 + l) * 2 + (1 - f)) hq
    cases hQ : oc_Q ((c * 3 + l) * 2 + (1 - f)) L with
    | nil =>
      rw [hQ] at q0
      refine Or.inl ⟨fun P p => oc_x_cr0 hc2 h0 hl hf q0 p, fun P p => oc_y_oldN hf hok hL hY (fun z hz m => ?_) p⟩
      exact oc_Q_nil (by rw [hQ]; rfl) z hz ((oc_M_qi (hok z hz) hc2 hl hf).mp m)
    | cons x R =>
      rw [hQ, List.length_cons] at q0
      rw [hQ, List.length_cons] at q4
      obtain ⟨A, B, hAB, hx, hA, _⟩ := oc_first L hQ
      refine Or.inr ⟨l, A, x, B, hl, rfl, hAB, hx, hA, fun P p => oc_x_cr hc2 h0 hl hf (by rw [q0]; exact nI_ne0 (by omega) (by omega)) p, fun P p => oc_y_old hf hok hL hY hAB ?_ ?_ p⟩
      · exact (oc_M_qi (hok x (by rw [hAB]; simp)) hc2 hl hf).mpr hx
      · exact fun z hz m => hA z hz ((oc_M_qi (hok z (by rw [hAB]; simp [hz])) hc2 hl hf).mp m)
theorem oc_y_ini {post : SY → Prop} (p : post (n, hc, rl, oc_fl jn 0 6 (-1), gd, lb, cS, cF, cL, cB, cT)) : ∀ d i : Nat, i + d = 6 → wY_init_85 post n (d + 1) (nI i) hc rl (oc_fl jn 0 i (-1)) gd lb cS cF cL cB cT := by
  intro d
  induction d with
  | zero =>
    intro i hi
    have e : i = 6 := by omega
    subst e
    exact br_t (nI_le (a := 6) (b := 6) (Nat.le_refl 6) (by decide)) p
  | succ d ih =>
    intro i hi
    refine br_f (nI_ge (b := 6) (by omega) (by decide)) ⟨vp_in_nI (by omega) (by omega), nm_r (e' := oc_fl jn 0 (i + 1) (-1)) ?_ (nm_r (nI_1 i) (ih (i + 1) (by omega)))⟩
    rw [nI_clamp (by omega)]
    exact oc_fl_s jn (-1) (by omega)
end
theorem i_up {k : Nat} {u : SX} {v : SY} (h : i_Rel k u v) : i_Rel (k + 5) u v := by
  obtain ⟨hc, rh, so, sh, uw, gc, gb, ql, xS, xB, xT⟩ := u
  obtain ⟨n, hd, rl, jn, gd, lb, cS, cF, cL, cB, cT⟩ := v
  obtain ⟨rfl, N, J, G, L, K, hY⟩ := h
  exact oc_mk5 K hY
theorem oc_K_0 : oc_K 1 (fun _ => 0) (fun _ => 0) (fun _ => 0) [] (fun _ => 0) (fun _ => 0) (fun _ => 0) (fun _ => 0) (fun _ => 0) (fun _ => 0) (fun _ => 0) (fun _ => 0) (fun _ => 0) (fun _ => 0) (fun _ => 0) (fun _ => 0) (oc_fl (fun _ => 0) 0 6 (-1)) (fun _ => 0) (fun _ => 0) := by
  refine ⟨fun c _ => ⟨rfl, Nat.zero_le 3⟩, fun c r _ _ => Or.inl ⟨rfl, fun h hh => absurd hh (Nat.not_lt_zero h)⟩, fun s hs => Or.inl ⟨rfl, rfl, oc_fl_in (by omega) hs⟩, fun w _ => ⟨rfl, Nat.zero_le 1, fun _ => rfl, fun z => absurd z (Nat.lt_irrefl 0)⟩,
    fun w b _ _ h => absurd h (Nat.not_lt_zero b), fun x hx => absurd hx List.not_mem_nil, fun w _ => ⟨rfl, Nat.zero_le 3⟩, fun q _ => ⟨rfl, oc_ar_nil, oc_ar_nil, oc_ar_nil, Nat.zero_le 9⟩⟩
theorem i_vc0 (k0 : Int32) : wpX_init (fun u => wpY_init (fun v => i_Rel 1 u v) k0) k0 := by
  unfold wpX_init
  unfold wpY_init
  refine ⟨7, ?_⟩
  have g := oc_y_ini (n := 0) (jn := fun _ => 0) (hc := fun _ => 0) (rl := fun _ => 0) (gd := fun _ => 0) (lb := fun _ => 0) (cS := fun _ => 0) (cF := fun _ => 0) (cL := fun _ => 0) (cB := fun _ => 0) (cT := fun _ => 0)
    (post := fun v => i_Rel 1 ((fun _ => 0), (fun _ => 0), (fun _ => 0), (fun _ => 0), (fun _ => 0), (fun _ => 0), (fun _ => 0), (fun _ => 0), (fun _ => 0), (fun _ => 0), (fun _ => 0)) v)
    (oc_mk oc_K_0 ⟨rfl, oc_ar_nil, oc_ar_nil, oc_ar_nil, oc_ar_nil, oc_ar_nil⟩) 6 0 (by omega)
  rw [oc_fl_0] at g
  exact g
end
section
/-! ===== hops, extend, destroy, and the opening of a stream ===== -/
section
variable {k : Nat} {N J G : Nat → Nat} {L : List oc_C} {hc rh so sh uw gc gb ql xS xB xT rl jn gd lb cS cF cL cB cT : Nat → Int32} {n : Int32}
theorem oc_x_hopsB {post : Int32 → Prop} {x : Int32} (h : x < 0 ∨ 2 ≤ x) (p : post (-1)) : wpX_hops post (hc, rh, so, sh, uw, gc, gb, ql, xS, xB, xT) x := by
  unfold wpX_hops
  exact oc_x_cirB h (br_t rfl p)
theorem oc_x_hops {post : Int32 → Prop} {c : Nat} (h : c < 2) (p : post (hc c)) : wpX_hops post (hc, rh, so, sh, uw, gc, gb, ql, xS, xB, xT) (nI c) := by
  unfold wpX_hops
  exact oc_x_cir h (br_f (by decide) ⟨vp_in_nI h (by omega), by rw [nI_clamp (by omega)]; exact p⟩)
theorem oc_y_hopsB {post : Int32 → Prop} {x : Int32} (h : x < 0 ∨ 2 ≤ x) (p : post (-1)) : wpY_hops post (n, hc, rl, jn, gd, lb, cS, cF, cL, cB, cT) x := by
  unfold wpY_hops
  exact oc_y_refB h (br_t rfl p)
theorem oc_y_hops {post : Int32 → Prop} {c : Nat} (h : c < 2) (p : post (hc c)) : wpY_hops post (n, hc, rl, jn, gd, lb, cS, cF, cL, cB, cT) (nI c) := by
  unfold wpY_hops
  have e : ∀ r : Int32, ¬ r = -1 → (r = -1 → post (-1)) ∧ (¬ r = -1 → vp_in (nI c) 2 ∧ post (hc (nI c).toNatClampNeg)) := fun r hr => br_f hr ⟨vp_in_nI h (by omega), by rw [nI_clamp (by omega)]; exact p⟩
  by_cases h0 : hc c = 0
  · exact oc_y_ref0 h h0 (e (-5) (by decide))
  · exact oc_y_ref h h0 (e 0 (by decide))
theorem oc_x_extB {post : Int32 → SX → Prop} {x y : Int32} (h : x < 0 ∨ 2 ≤ x) (p : post (-1) (hc, rh, so, sh, uw, gc, gb, ql, xS, xB, xT)) : wpX_extend post (hc, rh, so, sh, uw, gc, gb, ql, xS, xB, xT) x y := by
  unfold wpX_extend
  exact oc_x_cirB h (br_t rfl p)
theorem oc_x_extR {post : Int32 → SX → Prop} {c : Nat} {y : Int32} (hc2 : c < 2) (h : y < 0 ∨ 5 ≤ y) (p : post (-2) (hc, rh, so, sh, uw, gc, gb, ql, xS, xB, xT)) : wpX_extend post (hc, rh, so, sh, uw, gc, gb, ql, xS, xB, xT) (nI c) y := by
  unfold wpX_extend
  refine oc_x_cir hc2 (br_f (by decide) (br_c (fun _ => p) (fun h1 => br_f ?_ p)))
  exact Int32.not_lt.mpr (h.resolve_left h1)
theorem oc_x_extH {post : Int32 → SX → Prop} {c r : Nat} (hc2 : c < 2) (hr : r < 5) (h : rh (c * 5 + r) = 1) (p : post (-2) (hc, rh, so, sh, uw, gc, gb, ql, xS, xB, xT)) : wpX_extend post (hc, rh, so, sh, uw, gc, gb, ql, xS, xB, xT) (nI c) (nI r) := by
  unfold wpX_extend
  refine oc_x_cir hc2 (br_f (by decide) (br_f (nI_pos (by omega)) (br_t (nI_lt (b := 5) hr (by decide)) (nm_r (e' := nI (c * 5 + r)) (oc_m5 c r) ⟨vp_in_nI (by omega) (by omega), br_f ?_ p⟩))))
  rw [nI_clamp (by omega), h]
  decide
theorem oc_x_extF {post : Int32 → SX → Prop} {c r : Nat} (hc2 : c < 2) (hr : r < 5) (h : rh (c * 5 + r) = 0) (h3 : hc c = nI 3) (p : post (-4) (hc, rh, so, sh, uw, gc, gb, ql, xS, xB, xT)) : wpX_extend post (hc, rh, so, sh, uw, gc, gb, ql, xS, xB, xT) (nI c) (nI r) := by
  unfold wpX_extend
  refine oc_x_cir hc2 (br_f (by decide) (br_f (nI_pos (by omega)) (br_t (nI_lt (b := 5) hr (by decide)) (nm_r (e' := nI (c * 5 + r)) (oc_m5 c r) ⟨vp_in_nI (by omega) (by omega), br_t ?_ ⟨vp_in_nI hc2 (by omega), br_f ?_ p⟩⟩))))
  · rw [nI_clamp (by omega), h]
  · rw [nI_clamp (by omega), h3]
    decide
theorem oc_x_ext {post : Int32 → SX → Prop} {c r m : Nat} (hc2 : c < 2) (hr : r < 5) (h : rh (c * 5 + r) = 0) (h3 : hc c = nI m) (hm : m < 3) (p : post (nI (m + 1)) (upd hc c (nI (m + 1)), upd rh (c * 5 + r) 1, so, sh, uw, gc, gb, ql, xS, xB, xT)) : wpX_extend post (hc, rh, so, sh, uw, gc, gb, ql, xS, xB, xT) (nI c) (nI r) := by
  unfold wpX_extend
  have e : (nI c).toNatClampNeg = c := nI_clamp (by omega)
  have e2 : (nI (c * 5 + r)).toNatClampNeg = c * 5 + r := nI_clamp (by omega)
  have hi : vp_in (nI c) 2 := vp_in_nI hc2 (by omega)
  have hi2 : vp_in (nI (c * 5 + r)) 10 := vp_in_nI (by omega) (by omega)
  refine oc_x_cir hc2 (br_f (by decide) (br_f (nI_pos (by omega)) (br_t (nI_lt (b := 5) hr (by decide)) (nm_r (e' := nI (c * 5 + r)) (oc_m5 c r) ⟨hi2, br_t ?_ ⟨hi, br_t ?_ ⟨hi2, nm_r (e' := upd rh (c * 5 + r) 1) ?_ ⟨hi, hi, nm_r (e' := upd hc c (nI (m + 1))) ?_ ⟨hi, ?_⟩⟩⟩⟩⟩))))
  · rw [e2, h]
  · rw [e, h3]
    exact nI_lt (b := 3) hm (by decide)
  · rw [e2, oc_b1]
  · rw [e, h3, nI_1]
  · rw [e, pk_us]
    exact p
theorem oc_y_extB {post : Int32 → SY → Prop} {x y : Int32} (h : x < 0 ∨ 2 ≤ x) (p : post (-1) (n, hc, rl, jn, gd, lb, cS, cF, cL, cB, cT)) : wpY_extend post (n, hc, rl, jn, gd, lb, cS, cF, cL, cB, cT) x y := by
  unfold wpY_extend
  exact oc_y_refB h (br_t rfl p)
theorem oc_y_any {post : Int32 → Prop} {c : Nat} (h : c < 2) (p : ∀ r : Int32, ¬ r = -1 → post r) : wpY_refusal post (n, hc, rl, jn, gd, lb, cS, cF, cL, cB, cT) (nI c) := by
  by_cases h0 : hc c = 0
  · exact oc_y_ref0 h h0 (p (-5) (by decide))
  · exact oc_y_ref h h0 (p 0 (by decide))
theorem oc_y_extR {post : Int32 → SY → Prop} {c : Nat} {y : Int32} (hc2 : c < 2) (h : y < 0 ∨ 5 ≤ y) (p : post (-2) (n, hc, rl, jn, gd, lb, cS, cF, cL, cB, cT)) : wpY_extend post (n, hc, rl, jn, gd, lb, cS, cF, cL, cB, cT) (nI c) y := by
  unfold wpY_extend
  refine oc_y_any hc2 (fun r hr => br_f hr (br_c (fun _ => p) (fun h1 => br_f ?_ p)))
  exact oc_ngt (a := 4) (by decide) (h.resolve_left h1)
theorem oc_y_extH {post : Int32 → SY → Prop} {c r m t : Nat} (hc2 : c < 2) (hr : r < 5) (h3 : hc c = nI m) (hm : m ≤ 3) (ht : t < m) (h : rl (c * 3 + t) = nI r) (p : post (-2) (n, hc, rl, jn, gd, lb, cS, cF, cL, cB, cT)) : wpY_extend post (n, hc, rl, jn, gd, lb, cS, cF, cL, cB, cT) (nI c) (nI r) := by
  unfold wpY_extend
  have e : (nI c).toNatClampNeg = c := nI_clamp (by omega)
  have hi : vp_in (nI c) 2 := vp_in_nI hc2 (by omega)
  have g : ∀ d i : Nat, i + d = t → wY_extend_25 post (nI c) (nI r) n hc rl jn gd lb cS cF cL cB cT (d + 1) (nI i) := by
    intro d
    induction d with
    | zero =>
      intro i hit
      have e1 : i = t := by omega
      subst e1
      refine ⟨hi, br_f ?_ ?_⟩
      · rw [e, h3]
        exact nI_ge ht (by omega)
      · rw [oc_m3]
        refine ⟨vp_in_nI (by omega) (by omega), br_t ?_ p⟩
        rw [nI_clamp (by omega)]
        exact h
    | succ d ih =>
      intro i hit
      refine ⟨hi, br_f ?_ ?_⟩
      · rw [e, h3]
        exact nI_ge (by omega) (by omega)
      · rw [oc_m3]
        exact ⟨vp_in_nI (by omega) (by omega), br_c (fun _ => p) (fun _ => nm_r (nI_1 i) (ih (i + 1) (by omega)))⟩
  exact oc_y_any hc2 (fun r hr1 => br_f hr1 (br_f (nI_pos (by omega)) (br_t (nI_le (b := 4) (by omega) (by decide)) ⟨t + 1, g t 0 (by omega)⟩)))
theorem oc_y_ext_l {post : Int32 → SY → Prop} {c r m : Nat} (hc2 : c < 2) (h3 : hc c = nI m) (hm : m ≤ 3) (h : ∀ t, t < m → rl (c * 3 + t) ≠ nI r)
    (p4 : m = 3 → post (-4) (n, hc, rl, jn, gd, lb, cS, cF, cL, cB, cT)) (p : m < 3 → post (nI (m + 1)) (n, upd hc c (nI (m + 1)), upd rl (c * 3 + m) (nI r), jn, gd, lb, cS, cF, cL, cB, cT)) : ∀ d i : Nat, i + d = m → wY_extend_25 post (nI c) (nI r) n hc rl jn gd lb cS cF cL cB cT (d + 1) (nI i) := by
  have e : (nI c).toNatClampNeg = c := nI_clamp (by omega)
  have hi : vp_in (nI c) 2 := vp_in_nI hc2 (by omega)
  intro d
  induction d with
  | zero =>
    intro i him
    have e1 : i = m := by omega
    subst e1
    refine ⟨hi, br_t ?_ ⟨hi, ?_⟩⟩
    · rw [e, h3]
      exact nI_le (Nat.le_refl _) (by omega)
    · by_cases h33 : i = 3
      · refine br_t ?_ (p4 h33)
        rw [e, h3, h33]
        rfl
      · refine br_f ?_ ⟨hi, ?_⟩
        · rw [e, h3]
          exact fun z => h33 ((nI_eq (b := 3) (by omega) (by decide)).mp z)
        · have e2 : nI c * 3 + hc (nI c).toNatClampNeg = nI (c * 3 + i) := by rw [e, h3, oc_m3]
          rw [e2]
          refine ⟨vp_in_nI (by omega) (by omega), nm_r (e' := upd rl (c * 3 + i) (nI r)) (by rw [nI_clamp (by omega)]) ⟨hi, hi, nm_r (e' := upd hc c (nI (i + 1))) (by rw [e, h3, nI_1]) ⟨hi, ?_⟩⟩⟩
          rw [e, pk_us]
          exact p (by omega)
  | succ d ih =>
    intro i him
    refine ⟨hi, br_f ?_ ?_⟩
    · rw [e, h3]
      exact nI_ge (by omega) (by omega)
    · rw [oc_m3]
      refine ⟨vp_in_nI (by omega) (by omega), br_f ?_ (nm_r (nI_1 i) (ih (i + 1) (by omega)))⟩
      rw [nI_clamp (by omega)]
      exact h i (by omega)
theorem oc_y_ext {post : Int32 → SY → Prop} {c r m : Nat} (hc2 : c < 2) (hr : r < 5) (h3 : hc c = nI m) (hm : m ≤ 3) (h : ∀ t, t < m → rl (c * 3 + t) ≠ nI r)
    (p4 : m = 3 → post (-4) (n, hc, rl, jn, gd, lb, cS, cF, cL, cB, cT)) (p : m < 3 → post (nI (m + 1)) (n, upd hc c (nI (m + 1)), upd rl (c * 3 + m) (nI r), jn, gd, lb, cS, cF, cL, cB, cT)) : wpY_extend post (n, hc, rl, jn, gd, lb, cS, cF, cL, cB, cT) (nI c) (nI r) := by
  unfold wpY_extend
  exact oc_y_any hc2 (fun r hr1 => br_f hr1 (br_f (nI_pos (by omega)) (br_t (nI_le (b := 4) (by omega) (by decide)) ⟨m + 1, oc_y_ext_l hc2 h3 hm h p4 p m 0 (by omega)⟩)))
theorem oc_x_desR {post : Int32 → SX → Prop} {x r : Int32} (h : ∀ P : Int32 → Prop, P r → wpX_circuitRefusal P (hc, rh, so, sh, uw, gc, gb, ql, xS, xB, xT) x) (hr : ¬ r = 0) (p : post r (hc, rh, so, sh, uw, gc, gb, ql, xS, xB, xT)) : wpX_destroy post (hc, rh, so, sh, uw, gc, gb, ql, xS, xB, xT) x := by
  unfold wpX_destroy
  exact h _ (br_f hr p)
theorem oc_y_desR {post : Int32 → SY → Prop} {x r : Int32} (h : ∀ P : Int32 → Prop, P r → wpY_refusal P (n, hc, rl, jn, gd, lb, cS, cF, cL, cB, cT) x) (hr : ¬ 0 ≤ r) (p : post r (n, hc, rl, jn, gd, lb, cS, cF, cL, cB, cT)) : wpY_destroy post (n, hc, rl, jn, gd, lb, cS, cF, cL, cB, cT) x := by
  unfold wpY_destroy
  exact h _ (br_f hr p)
theorem oc_x_des {post : Int32 → SX → Prop} {c : Nat} (hc2 : c < 2) (h0 : ¬ hc c = 0) (hok : ∀ x ∈ L, oc_ok x) (hU : oc_U L uw)
    (p : post (nI (L.length - (oc_D c L).length)) (upd hc c 0, oc_fl rh (c * 5) (c * 5 + 5) 0, oc_fl so (c * 3) (c * 3 + 3) 0, sh, oc_fl uw (c * 6) (c * 6 + 6) 0, oc_fl gc (c * 6) (c * 6 + 6) 0, gb, oc_fl ql (c * 6) (c * 6 + 6) 0, xS, xB, xT)) :
    wpX_destroy post (hc, rh, so, sh, uw, gc, gb, ql, xS, xB, xT) (nI c) := by
  unfold wpX_destroy
  refine oc_x_ref hc2 h0 (br_t rfl ?_)
  refine oc_x_cuw hc2 (hU (c * 6) (by omega)).1 (hU (c * 6 + 1) (by omega)).1 (hU (c * 6 + 2) (by omega)).1 (hU (c * 6 + 3) (by omega)).1 (hU (c * 6 + 4) (by omega)).1 (hU (c * 6 + 5) (by omega)).1 ?_
  have hl := oc_lost (c := c) L hok
  rw [show oc_n (c * 6) L + oc_n (c * 6 + 1) L + oc_n (c * 6 + 2) L + oc_n (c * 6 + 3) L + oc_n (c * 6 + 4) L + oc_n (c * 6 + 5) L = L.length - (oc_D c L).length by omega]
  exact oc_x_td hc2 p
theorem oc_x_opnR {post : Int32 → SX → Prop} {x y r : Int32} (h : ∀ P : Int32 → Prop, P r → wpX_circuitRefusal P (hc, rh, so, sh, uw, gc, gb, ql, xS, xB, xT) x) (hr : ¬ r = 0) (p : post r (hc, rh, so, sh, uw, gc, gb, ql, xS, xB, xT)) : wpX_open post (hc, rh, so, sh, uw, gc, gb, ql, xS, xB, xT) x y := by
  unfold wpX_open
  exact h _ (br_f hr p)
theorem oc_y_opnR {post : Int32 → SY → Prop} {x y r : Int32} (h : ∀ P : Int32 → Prop, P r → wpY_refusal P (n, hc, rl, jn, gd, lb, cS, cF, cL, cB, cT) x) (hr : ¬ 0 ≤ r) (p : post r (n, hc, rl, jn, gd, lb, cS, cF, cL, cB, cT)) : wpY_open post (n, hc, rl, jn, gd, lb, cS, cF, cL, cB, cT) x y := by
  unfold wpY_open
  exact h _ (br_f hr p)
theorem oc_x_opnS {post : Int32 → SX → Prop} {c : Nat} {y : Int32} (hc2 : c < 2) (h0 : ¬ hc c = 0) (h : y < 0 ∨ 3 ≤ y) (p : post (-3) (hc, rh, so, sh, uw, gc, gb, ql, xS, xB, xT)) : wpX_open post (hc, rh, so, sh, uw, gc, gb, ql, xS, xB, xT) (nI c) y := by
  unfold wpX_open
  exact oc_x_ref hc2 h0 (br_t rfl (oc_x_strB h (br_t rfl p)))
theorem oc_y_opnS {post : Int32 → SY → Prop} {c : Nat} {y : Int32} (hc2 : c < 2) (h0 : ¬ hc c = 0) (h : y < 0 ∨ 3 ≤ y) (p : post (-3) (n, hc, rl, jn, gd, lb, cS, cF, cL, cB, cT)) : wpY_open post (n, hc, rl, jn, gd, lb, cS, cF, cL, cB, cT) (nI c) y := by
  unfold wpY_open
  exact oc_y_ref hc2 h0 (br_t (by decide) (br_c (fun _ => p) (fun h1 => br_f (oc_ngt (a := 2) (by decide) (h.resolve_left h1)) p)))
theorem oc_x_opnO {post : Int32 → SX → Prop} {c s : Nat} (hc2 : c < 2) (h0 : ¬ hc c = 0) (hs : s < 3) (h : so (c * 3 + s) = 1) (p : post (-8) (hc, rh, so, sh, uw, gc, gb, ql, xS, xB, xT)) : wpX_open post (hc, rh, so, sh, uw, gc, gb, ql, xS, xB, xT) (nI c) (nI s) := by
  unfold wpX_open
  refine oc_x_ref hc2 h0 (br_t rfl (oc_x_str hs (br_f (by decide) (oc_x_pl ⟨vp_in_nI (by omega) (by omega), br_f ?_ p⟩))))
  rw [nI_clamp (by omega), h]
  decide
theorem oc_y_opnO {post : Int32 → SY → Prop} {c s : Nat} (hc2 : c < 2) (h0 : ¬ hc c = 0) (hs : s < 3) (h : ¬ jn (c * 3 + s) < 0) (p : post (-8) (n, hc, rl, jn, gd, lb, cS, cF, cL, cB, cT)) : wpY_open post (n, hc, rl, jn, gd, lb, cS, cF, cL, cB, cT) (nI c) (nI s) := by
  unfold wpY_open
  refine oc_y_ref hc2 h0 (br_t (by decide) (br_f (nI_pos (by omega)) (br_t (nI_le (b := 2) (by omega) (by decide)) (nm_r (e' := nI (c * 3 + s)) (oc_m3 c s) ⟨vp_in_nI (by omega) (by omega), br_f ?_ p⟩))))
  rw [nI_clamp (by omega)]
  exact h
theorem oc_x_opn {post : Int32 → SX → Prop} {c s j : Nat} (hc2 : c < 2) (h0 : hc c = nI (j + 1)) (hj : j < 3) (hs : s < 3) (h : so (c * 3 + s) = 0) (p : post (nI j) (hc, rh, upd so (c * 3 + s) 1, upd sh (c * 3 + s) (nI j), uw, gc, gb, ql, xS, xB, xT)) : wpX_open post (hc, rh, so, sh, uw, gc, gb, ql, xS, xB, xT) (nI c) (nI s) := by
  unfold wpX_open
  have e : (nI c).toNatClampNeg = c := nI_clamp (by omega)
  have e2 : (nI (c * 3 + s)).toNatClampNeg = c * 3 + s := nI_clamp (by omega)
  have hi : vp_in (nI (c * 3 + s)) 6 := vp_in_nI (by omega) (by omega)
  refine oc_x_ref hc2 (by rw [h0]; exact nI_ne0 (by omega) (by omega)) (br_t rfl (oc_x_str hs (br_f (by decide) (oc_x_pl ⟨hi, br_t ?_ ⟨hi, nm_r (e' := upd so (c * 3 + s) 1) ?_ ⟨vp_in_nI hc2 (by omega), hi, nm_r (e' := upd sh (c * 3 + s) (nI j)) ?_ ⟨hi, ?_⟩⟩⟩⟩))))
  · rw [e2, h]
  · rw [e2, oc_b1]
  · rw [e2, e, h0, nI_pred]
  · rw [e2, pk_us]
    exact p
theorem oc_y_opn {post : Int32 → SY → Prop} {c s j : Nat} (hc2 : c < 2) (h0 : hc c = nI (j + 1)) (hj : j < 3) (hs : s < 3) (h : jn (c * 3 + s) < 0) (p : post (nI j) (n, hc, rl, upd jn (c * 3 + s) (nI j), upd (upd gd ((c * 3 + s) * 2) 0) ((c * 3 + s) * 2 + 1) 0, lb, cS, cF, cL, cB, cT)) : wpY_open post (n, hc, rl, jn, gd, lb, cS, cF, cL, cB, cT) (nI c) (nI s) := by
  unfold wpY_open
  have e : (nI c).toNatClampNeg = c := nI_clamp (by omega)
  have e2 : (nI (c * 3 + s)).toNatClampNeg = c * 3 + s := nI_clamp (by omega)
  have hi : vp_in (nI (c * 3 + s)) 6 := vp_in_nI (by omega) (by omega)
  have e3 : nI (c * 3 + s) * 2 = nI ((c * 3 + s) * 2) := oc_m2 _
  refine oc_y_ref hc2 (by rw [h0]; exact nI_ne0 (by omega) (by omega)) (br_t (by decide) (br_f (nI_pos (by omega)) (br_t (nI_le (b := 2) (by omega) (by decide)) (nm_r (e' := nI (c * 3 + s)) (oc_m3 c s) ⟨hi, br_t ?_ ⟨vp_in_nI hc2 (by omega), hi, nm_r (e' := upd jn (c * 3 + s) (nI j)) ?_ ?_⟩⟩))))
  · rw [e2]
    exact h
  · rw [e2, e, h0, nI_pred]
  · rw [e3]
    refine ⟨vp_in_nI (by omega) (by omega), nm_r (e' := upd gd ((c * 3 + s) * 2) 0) (by rw [nI_clamp (by omega)]) ⟨oc_ia1 (by omega) (by omega), nm_r (e' := upd (upd gd ((c * 3 + s) * 2) 0) ((c * 3 + s) * 2 + 1) 0) (by rw [oc_ca1 (by omega)]) ⟨hi, ?_⟩⟩⟩
    rw [e2, pk_us]
    exact p
end
theorem i_vc_hops {k : Nat} {u : SX} {v : SY} (I : i_Rel k u v) (hk : k + 5 ≤ 2561) (v1 : Int32) : wpX_hops (fun r => wpY_hops (fun r' => r' = r ∧ i_Rel (k + 5) u v) v v1) u v1 := by
  obtain ⟨hc, rh, so, sh, uw, gc, gb, ql, xS, xB, xT⟩ := u
  obtain ⟨n, hd, rl, jn, gd, lb, cS, cF, cL, cB, cT⟩ := v
  obtain ⟨rfl, N, J, G, L, K, hY⟩ := I
  rcases oc_ixo v1 2 (by decide) with h | ⟨c, hc2, rfl⟩
  · exact oc_x_hopsB h (oc_y_hopsB h ⟨rfl, oc_mk5 K hY⟩)
  · exact oc_x_hops hc2 (oc_y_hops hc2 ⟨rfl, oc_mk5 K hY⟩)
theorem i_vc_extend {k : Nat} {u : SX} {v : SY} (I : i_Rel k u v) (hk : k + 5 ≤ 2561) (v1 : Int32) (v2 : Int32) : wpX_extend (fun r u' => wpY_extend (fun r' v' => r' = r ∧ i_Rel (k + 5) u' v') v v1 v2) u v1 v2 := by
  obtain ⟨hc, rh, so, sh, uw, gc, gb, ql, xS, xB, xT⟩ := u
  obtain ⟨n, hd, rl, jn, gd, lb, cS, cF, cL, cB, cT⟩ := v
  obtain ⟨rfl, N, J, G, L, K, hY⟩ := I
  rcases oc_ixo v1 2 (by decide) with h | ⟨c, hc2, rfl⟩
  · exact oc_x_extB h (oc_y_extB h ⟨rfl, oc_mk5 K hY⟩)
  · rcases oc_ixo v2 5 (by decide) with h | ⟨r, hr, rfl⟩
    · exact oc_x_extR hc2 h (oc_y_extR hc2 h ⟨rfl, oc_mk5 K hY⟩)
    · obtain ⟨hN, hN3⟩ := K.1 c hc2
      rcases K.2.1 c r hc2 hr with ⟨h1, h2⟩ | ⟨h1, t, ht, h2⟩
      · by_cases h3 : N c = 3
        · exact oc_x_extF hc2 hr h1 (by rw [hN, h3]) (oc_y_ext hc2 hr hN hN3 h2 (fun _ => ⟨rfl, oc_mk5 K hY⟩) (fun z => absurd z (by omega)))
        · exact oc_x_ext hc2 hr h1 hN (by omega) (oc_y_ext hc2 hr hN hN3 h2 (fun z => absurd z h3) (fun _ => ⟨rfl, oc_mk (oc_K_ext K hc2 hr (by omega)) hY⟩))
      · exact oc_x_extH hc2 hr h1 (oc_y_extH hc2 hr hN hN3 ht h2 ⟨rfl, oc_mk5 K hY⟩)
theorem i_vc_destroy {k : Nat} {u : SX} {v : SY} (I : i_Rel k u v) (hk : k + 5 ≤ 2561) (v1 : Int32) : wpX_destroy (fun r u' => wpY_destroy (fun r' v' => r' = r ∧ i_Rel (k + 5) u' v') v v1) u v1 := by
  obtain ⟨hc, rh, so, sh, uw, gc, gb, ql, xS, xB, xT⟩ := u
  obtain ⟨n, hd, rl, jn, gd, lb, cS, cF, cL, cB, cT⟩ := v
  obtain ⟨rfl, N, J, G, L, K, hY⟩ := I
  rcases oc_refus K.1 v1 with ⟨r, h1, h2, h3, h4⟩ | ⟨c, hc2, rfl, hN, h0⟩
  · exact oc_x_desR h3 h1 (oc_y_desR h4 h2 ⟨rfl, oc_mk5 K hY⟩)
  · have hok := oc_L_ok K.2.2.2.2.2.1
    have hU := K.2.2.2.2.2.2.1
    exact oc_x_des hc2 h0 hok hU (oc_y_des hc2 h0 hok (oc_U_len hU hok) hY (fun m aS aF aL aB aT hY2 => ⟨rfl, oc_mk (oc_K_des K c) hY2⟩))
theorem i_vc_open {k : Nat} {u : SX} {v : SY} (I : i_Rel k u v) (hk : k + 5 ≤ 2561) (v1 : Int32) (v2 : Int32) : wpX_open (fun r u' => wpY_open (fun r' v' => r' = r ∧ i_Rel (k + 5) u' v') v v1 v2) u v1 v2 := by
  obtain ⟨hc, rh, so, sh, uw, gc, gb, ql, xS, xB, xT⟩ := u
  obtain ⟨n, hd, rl, jn, gd, lb, cS, cF, cL, cB, cT⟩ := v
  obtain ⟨rfl, N, J, G, L, K, hY⟩ := I
  rcases oc_refus K.1 v1 with ⟨r, h1, h2, h3, h4⟩ | ⟨c, hc2, rfl, hN, h0⟩
  · exact oc_x_opnR h3 h1 (oc_y_opnR h4 h2 ⟨rfl, oc_mk5 K hY⟩)
  · rcases oc_ixo v2 3 (by decide) with h | ⟨s, hs, rfl⟩
    · exact oc_x_opnS hc2 h0 h (oc_y_opnS hc2 h0 h ⟨rfl, oc_mk5 K hY⟩)
    · rcases K.2.2.1 (c * 3 + s) (by omega) with ⟨j1, j2, j3⟩ | ⟨j, j1, j2, j3, j4, j5, j6⟩
      · obtain ⟨hN1, hN3⟩ := K.1 c hc2
        obtain ⟨j, hj⟩ : ∃ j, N c = j + 1 := ⟨N c - 1, by omega⟩
        rw [hj] at hN1
        have hd : (c * 3 + s) / 3 = c := by omega
        exact oc_x_opn hc2 hN1 (by omega) hs j2 (oc_y_opn hc2 hN1 (by omega) hs (by rw [j3]; decide) ⟨rfl, oc_mk (oc_K_open K (by omega) (by rw [hd]; exact hj) j1) hY⟩)
      · exact oc_x_opnO hc2 h0 hs j3 (oc_y_opnO hc2 h0 hs (by rw [j5]; exact nI_pos (by omega)) ⟨rfl, oc_mk5 K hY⟩)
end
section
/-! ===== got, byteGot, waiting, tamper, send, reply ===== -/
section
variable {k : Nat} {N J G : Nat → Nat} {L : List oc_C} {hc rh so sh uw gc gb ql xS xB xT rl jn gd lb cS cF cL cB cT : Nat → Int32} {n : Int32}
theorem oc_x_gotC {post : Int32 → Prop} {x y z : Int32} (h : ∀ P : Int32 → Prop, P 0 → wpX_isOpenStream P (hc, rh, so, sh, uw, gc, gb, ql, xS, xB, xT) x y) (p : post 0) : wpX_got post (hc, rh, so, sh, uw, gc, gb, ql, xS, xB, xT) x y z := by
  unfold wpX_got
  exact h _ (br_t rfl p)
theorem oc_y_gotC {post : Int32 → Prop} {x y z : Int32} (h : ∀ P : Int32 → Prop, P 0 → wpY_isOpen P (n, hc, rl, jn, gd, lb, cS, cF, cL, cB, cT) x y) (p : post 0) : wpY_got post (n, hc, rl, jn, gd, lb, cS, cF, cL, cB, cT) x y z := by
  unfold wpY_got
  exact h _ (br_t rfl p)
theorem oc_x_got {post : Int32 → Prop} {c s f : Nat} (hc2 : c < 2) (hs : s < 3) (hf : f < 2) (h : ∀ P : Int32 → Prop, P 1 → wpX_isOpenStream P (hc, rh, so, sh, uw, gc, gb, ql, xS, xB, xT) (nI c) (nI s)) (p : post (gc ((c * 3 + s) * 2 + (1 - f)))) : wpX_got post (hc, rh, so, sh, uw, gc, gb, ql, xS, xB, xT) (nI c) (nI s) (nI f) := by
  unfold wpX_got
  refine h _ (br_f (by decide) (oc_x_way hf ⟨vp_in_nI (by omega) (by omega), ?_⟩))
  rw [nI_clamp (by omega)]
  exact p
theorem oc_y_got {post : Int32 → Prop} {c s f : Nat} (hc2 : c < 2) (hs : s < 3) (hf : f < 2) (h : ∀ P : Int32 → Prop, P 1 → wpY_isOpen P (n, hc, rl, jn, gd, lb, cS, cF, cL, cB, cT) (nI c) (nI s)) (p : post (gd ((c * 3 + s) * 2 + (1 - f)))) : wpY_got post (n, hc, rl, jn, gd, lb, cS, cF, cL, cB, cT) (nI c) (nI s) (nI f) := by
  unfold wpY_got
  refine h _ (br_f (by decide) ?_)
  rw [oc_m3, oc_m2, oc_p1, oc_p0]
  match f, hf with
  | 0, _ =>
    refine br_t rfl ⟨vp_in_nI (by omega) (by omega), ?_⟩
    rw [nI_clamp (by omega)]
    exact p
  | 1, _ =>
    refine br_f (by decide) ⟨vp_in_nI (by omega) (by omega), ?_⟩
    rw [nI_clamp (by omega)]
    exact p
theorem oc_x_bgC {post : Int32 → Prop} {x y z b : Int32} (h : ∀ P : Int32 → Prop, P 0 → wpX_isOpenStream P (hc, rh, so, sh, uw, gc, gb, ql, xS, xB, xT) x y) (p : post (-7)) : wpX_byteGot post (hc, rh, so, sh, uw, gc, gb, ql, xS, xB, xT) x y z b := by
  unfold wpX_byteGot
  exact h _ (br_t rfl p)
theorem oc_y_bgB {post : Int32 → Prop} {x y z b : Int32} (h : b < 0 ∨ 8 ≤ b) (p : post (-7)) : wpY_byteGot post (n, hc, rl, jn, gd, lb, cS, cF, cL, cB, cT) x y z b := by
  unfold wpY_byteGot
  exact br_c (fun _ => p) (fun h1 => br_t (oc_gt (a := 7) (by decide) (h.resolve_left h1)) p)
theorem oc_y_bgC {post : Int32 → Prop} {x y z : Int32} {b : Nat} (hb : b < 8) (h : ∀ P : Int32 → Prop, P 0 → wpY_isOpen P (n, hc, rl, jn, gd, lb, cS, cF, cL, cB, cT) x y) (p : post (-7)) : wpY_byteGot post (n, hc, rl, jn, gd, lb, cS, cF, cL, cB, cT) x y z (nI b) := by
  unfold wpY_byteGot
  refine br_f (nI_pos (by omega)) (br_f ?_ (oc_y_gotC h (br_f (nI_pos (by omega)) p)))
  exact fun z => absurd ((nI_ltI (a := 7) (by decide) (by omega)).mp z) (by omega)
theorem oc_x_bgB {post : Int32 → Prop} {c s f : Nat} {b : Int32} (hf : f < 2) (h : ∀ P : Int32 → Prop, P 1 → wpX_isOpenStream P (hc, rh, so, sh, uw, gc, gb, ql, xS, xB, xT) (nI c) (nI s)) (hb : b < 0 ∨ 8 ≤ b) (p : post (-7)) : wpX_byteGot post (hc, rh, so, sh, uw, gc, gb, ql, xS, xB, xT) (nI c) (nI s) (nI f) b := by
  unfold wpX_byteGot
  exact h _ (br_f (by decide) (oc_x_way hf (br_c (fun _ => p) (fun h1 => br_t (hb.resolve_left h1) p))))
theorem oc_x_bgN {post : Int32 → Prop} {c s f b g : Nat} (hc2 : c < 2) (hs : s < 3) (hf : f < 2) (h : ∀ P : Int32 → Prop, P 1 → wpX_isOpenStream P (hc, rh, so, sh, uw, gc, gb, ql, xS, xB, xT) (nI c) (nI s)) (hb : b < 8) (hg : gc ((c * 3 + s) * 2 + (1 - f)) = nI g) (hg2 : g < 2 ^ 30) (hn : ¬ b < g) (p : post (-7)) : wpX_byteGot post (hc, rh, so, sh, uw, gc, gb, ql, xS, xB, xT) (nI c) (nI s) (nI f) (nI b) := by
  unfold wpX_byteGot
  refine h _ (br_f (by decide) (oc_x_way hf (br_f (nI_pos (by omega)) (br_f (nI_ge (b := 8) hb (by decide)) ⟨vp_in_nI (by omega) (by omega), br_f ?_ p⟩))))
  rw [nI_clamp (by omega), hg]
  exact nI_nlt (by omega) (by omega)
theorem oc_x_bg {post : Int32 → Prop} {c s f b g : Nat} (hc2 : c < 2) (hs : s < 3) (hf : f < 2) (h : ∀ P : Int32 → Prop, P 1 → wpX_isOpenStream P (hc, rh, so, sh, uw, gc, gb, ql, xS, xB, xT) (nI c) (nI s)) (hb : b < 8) (hg : gc ((c * 3 + s) * 2 + (1 - f)) = nI g) (hg2 : g < 2 ^ 30) (hn : b < g)
    (p : post (gb (((c * 3 + s) * 2 + (1 - f)) * 8 + (g - 1 - b) % 8))) : wpX_byteGot post (hc, rh, so, sh, uw, gc, gb, ql, xS, xB, xT) (nI c) (nI s) (nI f) (nI b) := by
  unfold wpX_byteGot
  have e : (nI ((c * 3 + s) * 2 + (1 - f))).toNatClampNeg = (c * 3 + s) * 2 + (1 - f) := nI_clamp (by omega)
  have hi : vp_in (nI ((c * 3 + s) * 2 + (1 - f))) 12 := vp_in_nI (by omega) (by omega)
  refine h _ (br_f (by decide) (oc_x_way hf (br_f (nI_pos (by omega)) (br_f (nI_ge (b := 8) hb (by decide)) ⟨hi, br_t ?_ ⟨hi, ?_⟩⟩))))
  · rw [e, hg]
    exact nI_lt hn (by omega)
  · unfold wpX_gotPlace
    have e2 : nI ((c * 3 + s) * 2 + (1 - f)) * 8 + ((gc (nI ((c * 3 + s) * 2 + (1 - f))).toNatClampNeg - 1 - nI b) &&& 7) = nI (((c * 3 + s) * 2 + (1 - f)) * 8 + (g - 1 - b) % 8) := by
      rw [e, hg, show nI g - 1 = nI (g - 1) from pk_sub (b := 1) (by omega), pk_sub (by omega), oc_and7 (by omega), oc_m8, nI_add]
    rw [e2]
    refine ⟨vp_in_nI (by omega) (by omega), ?_⟩
    rw [nI_clamp (by omega)]
    exact p
theorem oc_y_bgN {post : Int32 → Prop} {c s f b g : Nat} (hc2 : c < 2) (hs : s < 3) (hf : f < 2) (h : ∀ P : Int32 → Prop, P 1 → wpY_isOpen P (n, hc, rl, jn, gd, lb, cS, cF, cL, cB, cT) (nI c) (nI s)) (hb : b < 8) (hg : gd ((c * 3 + s) * 2 + (1 - f)) = nI g) (hg2 : g < 2 ^ 30) (hn : ¬ b < g) (p : post (-7)) : wpY_byteGot post (n, hc, rl, jn, gd, lb, cS, cF, cL, cB, cT) (nI c) (nI s) (nI f) (nI b) := by
  unfold wpY_byteGot
  refine br_f (nI_pos (by omega)) (br_f ?_ (oc_y_got hc2 hs hf h (br_f ?_ p)))
  · exact fun z => absurd ((nI_ltI (a := 7) (by decide) (by omega)).mp z) (by omega)
  · rw [hg]
    exact nI_nlt (by omega) (by omega)
theorem oc_y_bg {post : Int32 → Prop} {c s f b g : Nat} (hc2 : c < 2) (hs : s < 3) (hf : f < 2) (h : ∀ P : Int32 → Prop, P 1 → wpY_isOpen P (n, hc, rl, jn, gd, lb, cS, cF, cL, cB, cT) (nI c) (nI s)) (hb : b < 8) (hg : gd ((c * 3 + s) * 2 + (1 - f)) = nI g) (hg2 : g < 2 ^ 30) (hn : b < g)
    (p : post (lb (((c * 3 + s) * 2 + (1 - f)) * 8 + b))) : wpY_byteGot post (n, hc, rl, jn, gd, lb, cS, cF, cL, cB, cT) (nI c) (nI s) (nI f) (nI b) := by
  unfold wpY_byteGot
  refine br_f (nI_pos (by omega)) (br_f ?_ (oc_y_got hc2 hs hf h (br_t ?_ ?_)))
  · exact fun z => absurd ((nI_ltI (a := 7) (by decide) (by omega)).mp z) (by omega)
  · rw [hg]
    exact nI_lt hn (by omega)
  · rw [oc_m3, oc_m2, oc_p1, oc_p0, oc_m8, oc_m8, nI_add, nI_add]
    match f, hf with
    | 0, _ =>
      refine br_t rfl ⟨vp_in_nI (by omega) (by omega), ?_⟩
      rw [nI_clamp (by omega)]
      exact p
    | 1, _ =>
      refine br_f (by decide) ⟨vp_in_nI (by omega) (by omega), ?_⟩
      rw [nI_clamp (by omega)]
      exact p
theorem oc_x_waC {post : Int32 → Prop} {x y z : Int32} (h : x < 0 ∨ 2 ≤ x) (p : post 0) : wpX_waiting post (hc, rh, so, sh, uw, gc, gb, ql, xS, xB, xT) x y z := by
  unfold wpX_waiting
  exact oc_x_cirB h (br_t rfl p)
theorem oc_x_waL {post : Int32 → Prop} {c : Nat} {y z : Int32} (hc2 : c < 2) (h : y < 0 ∨ 3 ≤ y) (p : post 0) : wpX_waiting post (hc, rh, so, sh, uw, gc, gb, ql, xS, xB, xT) (nI c) y z := by
  unfold wpX_waiting
  exact oc_x_cir hc2 (br_f (by decide) (oc_x_lnkB h (br_t rfl p)))
theorem oc_x_wa {post : Int32 → Prop} {c l f : Nat} (hc2 : c < 2) (hl : l < 3) (hf : f < 2) (p : post (ql ((c * 3 + l) * 2 + (1 - f)))) : wpX_waiting post (hc, rh, so, sh, uw, gc, gb, ql, xS, xB, xT) (nI c) (nI l) (nI f) := by
  unfold wpX_waiting
  refine oc_x_cir hc2 (br_f (by decide) (oc_x_lnk hl (br_f (by decide) (oc_x_que hf ⟨vp_in_nI (by omega) (by omega), ?_⟩))))
  rw [nI_clamp (by omega)]
  exact p
theorem oc_x_taR {post : Int32 → SX → Prop} {x y z b r : Int32} (h : ∀ P : Int32 → Prop, P r → wpX_cellRefusal P (hc, rh, so, sh, uw, gc, gb, ql, xS, xB, xT) x y z) (hr : ¬ r = 0) (p : post r (hc, rh, so, sh, uw, gc, gb, ql, xS, xB, xT)) : wpX_tamper post (hc, rh, so, sh, uw, gc, gb, ql, xS, xB, xT) x y z b := by
  unfold wpX_tamper
  exact h _ (br_f hr p)
theorem oc_y_taR {post : Int32 → SY → Prop} {x y z b r : Int32} (h : ∀ P : Int32 → Prop, P r → wpY_refusal P (n, hc, rl, jn, gd, lb, cS, cF, cL, cB, cT) x) (hr : ¬ 0 ≤ r) (p : post r (n, hc, rl, jn, gd, lb, cS, cF, cL, cB, cT)) : wpY_tamper post (n, hc, rl, jn, gd, lb, cS, cF, cL, cB, cT) x y z b := by
  unfold wpY_tamper
  exact h _ (br_f hr p)
theorem oc_y_taN {post : Int32 → SY → Prop} {c : Nat} {y z b : Int32} (hc2 : c < 2) (h0 : ¬ hc c = 0) (h : ∀ P : Int32 → Prop, P (-7) → wpY_oldest P (n, hc, rl, jn, gd, lb, cS, cF, cL, cB, cT) (nI c) y z) (p : post (-7) (n, hc, rl, jn, gd, lb, cS, cF, cL, cB, cT)) : wpY_tamper post (n, hc, rl, jn, gd, lb, cS, cF, cL, cB, cT) (nI c) y z b := by
  unfold wpY_tamper
  exact oc_y_ref hc2 h0 (br_t (by decide) (h _ (br_f (by decide) p)))
theorem oc_x_ta {post : Int32 → SX → Prop} {c l f : Nat} {b t : Int32} (hc2 : c < 2) (hl : l < 3) (hf : f < 2) (h : ∀ P : Int32 → Prop, P 0 → wpX_cellRefusal P (hc, rh, so, sh, uw, gc, gb, ql, xS, xB, xT) (nI c) (nI l) (nI f)) (ht : xT (((c * 3 + l) * 2 + (1 - f)) * 9) = t)
    (p : post 0 (hc, rh, so, sh, uw, gc, gb, ql, xS, xB, upd xT (((c * 3 + l) * 2 + (1 - f)) * 9) (t ^^^ (b &&& 255)))) : wpX_tamper post (hc, rh, so, sh, uw, gc, gb, ql, xS, xB, xT) (nI c) (nI l) (nI f) b := by
  unfold wpX_tamper
  have hi : vp_in (nI (((c * 3 + l) * 2 + (1 - f)) * 9)) 108 := vp_in_nI (by omega) (by omega)
  refine h _ (br_t rfl (oc_x_que hf (nm_r (e' := nI (((c * 3 + l) * 2 + (1 - f)) * 9)) (oc_m9 _) ⟨hi, hi, nm_r (e' := upd xT (((c * 3 + l) * 2 + (1 - f)) * 9) (t ^^^ (b &&& 255))) ?_ p⟩)))
  rw [nI_clamp (by omega), ht]
theorem oc_y_ta {post : Int32 → SY → Prop} {c a : Nat} {y z b t : Int32} (hc2 : c < 2) (h0 : ¬ hc c = 0) (ha : a < 36) (h : ∀ P : Int32 → Prop, P (nI a) → wpY_oldest P (n, hc, rl, jn, gd, lb, cS, cF, cL, cB, cT) (nI c) y z) (ht : cT a = t)
    (p : post 0 (n, hc, rl, jn, gd, lb, cS, cF, cL, cB, upd cT a (t ^^^ (b &&& 255)))) : wpY_tamper post (n, hc, rl, jn, gd, lb, cS, cF, cL, cB, cT) (nI c) y z b := by
  unfold wpY_tamper
  have hi : vp_in (nI a) 36 := vp_in_nI ha (by omega)
  refine oc_y_ref hc2 h0 (br_t (by decide) (h _ (br_t (nI_pos' (by omega)) ⟨hi, hi, nm_r (e' := upd cT a (t ^^^ (b &&& 255))) ?_ p⟩)))
  rw [nI_clamp (by omega), ht]
theorem oc_x_fl {post : Int32 → Prop} {c s f e : Nat} (hc2 : c < 2) (hs : s < 3) (he : (f = 1 ∧ e = 0) ∨ (f = 0 ∧ sh (c * 3 + s) = nI e)) (p : post (nI e)) : wpX_firstLink post (hc, rh, so, sh, uw, gc, gb, ql, xS, xB, xT) (nI c) (nI s) (nI f) := by
  rcases he with ⟨rfl, rfl⟩ | ⟨rfl, h⟩
  · exact oc_x_fl1 p
  · exact oc_x_fl0 hc2 hs (by rw [h]; exact p)
theorem oc_x_lauR {post : Int32 → SX → Prop} {x y b z r : Int32} (h : ∀ P : Int32 → Prop, P r → wpX_circuitRefusal P (hc, rh, so, sh, uw, gc, gb, ql, xS, xB, xT) x) (hr : ¬ r = 0) (p : post r (hc, rh, so, sh, uw, gc, gb, ql, xS, xB, xT)) : wpX_launch post (hc, rh, so, sh, uw, gc, gb, ql, xS, xB, xT) x y b z := by
  unfold wpX_launch
  exact h _ (br_f hr p)
theorem oc_x_lauC {post : Int32 → SX → Prop} {c : Nat} {y b z : Int32} (hc2 : c < 2) (h0 : ¬ hc c = 0) (h : ∀ P : Int32 → Prop, P 0 → wpX_isOpenStream P (hc, rh, so, sh, uw, gc, gb, ql, xS, xB, xT) (nI c) y) (p : post (-3) (hc, rh, so, sh, uw, gc, gb, ql, xS, xB, xT)) : wpX_launch post (hc, rh, so, sh, uw, gc, gb, ql, xS, xB, xT) (nI c) y b z := by
  unfold wpX_launch
  exact oc_x_ref hc2 h0 (br_t rfl (h _ (br_t rfl p)))
theorem oc_x_lauW {post : Int32 → SX → Prop} {c s f : Nat} {b : Int32} (hc2 : c < 2) (h0 : ¬ hc c = 0) (hs : s < 3) (hf : f < 2) (h : ∀ P : Int32 → Prop, P 1 → wpX_isOpenStream P (hc, rh, so, sh, uw, gc, gb, ql, xS, xB, xT) (nI c) (nI s)) (hw : uw ((c * 3 + s) * 2 + (1 - f)) = nI 3) (p : post (-6) (hc, rh, so, sh, uw, gc, gb, ql, xS, xB, xT)) : wpX_launch post (hc, rh, so, sh, uw, gc, gb, ql, xS, xB, xT) (nI c) (nI s) b (nI f) := by
  unfold wpX_launch
  refine oc_x_ref hc2 h0 (br_t rfl (h _ (br_f (by decide) (oc_x_way hf ⟨vp_in_nI (by omega) (by omega), br_f ?_ p⟩))))
  rw [nI_clamp (by omega), hw]
  decide
theorem oc_x_lau {post : Int32 → SX → Prop} {c s f e m t : Nat} {b : Int32} (hc2 : c < 2) (h0 : ¬ hc c = 0) (hs : s < 3) (hf : f < 2) (h : ∀ P : Int32 → Prop, P 1 → wpX_isOpenStream P (hc, rh, so, sh, uw, gc, gb, ql, xS, xB, xT) (nI c) (nI s)) (hw : uw ((c * 3 + s) * 2 + (1 - f)) = nI m) (hm : m < 3)
    (he : (f = 1 ∧ e = 0) ∨ (f = 0 ∧ sh (c * 3 + s) = nI e)) (he3 : e < 3) (hq : ql ((c * 3 + e) * 2 + (1 - f)) = nI t) (ht : t < 9)
    (p : post (nI (m + 1)) (hc, rh, so, sh, upd uw ((c * 3 + s) * 2 + (1 - f)) (nI (m + 1)), gc, gb, upd ql ((c * 3 + e) * 2 + (1 - f)) (nI (t + 1)), upd xS (((c * 3 + e) * 2 + (1 - f)) * 9 + t) (nI s), upd xB (((c * 3 + e) * 2 + (1 - f)) * 9 + t) (b &&& 255), upd xT (((c * 3 + e) * 2 + (1 - f)) * 9 + t) 0)) :
    wpX_launch post (hc, rh, so, sh, uw, gc, gb, ql, xS, xB, xT) (nI c) (nI s) b (nI f) := by
  unfold wpX_launch
  have ew : (nI ((c * 3 + s) * 2 + (1 - f))).toNatClampNeg = (c * 3 + s) * 2 + (1 - f) := nI_clamp (by omega)
  have hi : vp_in (nI ((c * 3 + s) * 2 + (1 - f))) 12 := vp_in_nI (by omega) (by omega)
  refine oc_x_ref hc2 h0 (br_t rfl (h _ (br_f (by decide) (oc_x_way hf ⟨hi, br_t ?_ (oc_x_fl hc2 hs he (oc_x_que hf (oc_x_app (by omega) ht hq ⟨hi, hi, nm_r (e' := upd uw ((c * 3 + s) * 2 + (1 - f)) (nI (m + 1))) ?_ ⟨hi, ?_⟩⟩)))⟩))))
  · rw [ew, hw]
    exact nI_lt (b := 3) hm (by decide)
  · rw [ew, hw, nI_1]
  · rw [ew, pk_us]
    exact p
theorem oc_y_stR {post : Int32 → SY → Prop} {x y b z r : Int32} (h : ∀ P : Int32 → Prop, P r → wpY_refusal P (n, hc, rl, jn, gd, lb, cS, cF, cL, cB, cT) x) (hr : ¬ 0 ≤ r) (p : post r (n, hc, rl, jn, gd, lb, cS, cF, cL, cB, cT)) : wpY_start post (n, hc, rl, jn, gd, lb, cS, cF, cL, cB, cT) x y b z := by
  unfold wpY_start
  exact h _ (br_f hr p)
theorem oc_y_stC {post : Int32 → SY → Prop} {c : Nat} {y b z : Int32} (hc2 : c < 2) (h0 : ¬ hc c = 0) (h : ∀ P : Int32 → Prop, P 0 → wpY_isOpen P (n, hc, rl, jn, gd, lb, cS, cF, cL, cB, cT) (nI c) y) (p : post (-3) (n, hc, rl, jn, gd, lb, cS, cF, cL, cB, cT)) : wpY_start post (n, hc, rl, jn, gd, lb, cS, cF, cL, cB, cT) (nI c) y b z := by
  unfold wpY_start
  exact oc_y_ref hc2 h0 (br_t (by decide) (h _ (br_t rfl p)))
theorem oc_y_stW {post : Int32 → SY → Prop} {c s f : Nat} {b : Int32} (hc2 : c < 2) (h0 : ¬ hc c = 0) (hs : s < 3) (hf : f < 2) (h : ∀ P : Int32 → Prop, P 1 → wpY_isOpen P (n, hc, rl, jn, gd, lb, cS, cF, cL, cB, cT) (nI c) (nI s))
    (hok : ∀ x ∈ L, oc_ok x) (hL : L.length ≤ 36) (hY : oc_Y L n cS cF cL cB cT) (hw : oc_n ((c * 3 + s) * 2 + (1 - f)) L = 3) (p : post (-6) (n, hc, rl, jn, gd, lb, cS, cF, cL, cB, cT)) : wpY_start post (n, hc, rl, jn, gd, lb, cS, cF, cL, cB, cT) (nI c) (nI s) b (nI f) := by
  unfold wpY_start
  refine oc_y_ref hc2 h0 (br_t (by decide) (h _ (br_f (by decide) (nm_r (e' := nI (c * 3 + s)) (oc_m3 c s) (oc_y_uw (L := L) (by omega) hf hok hL hY (br_t ?_ p))))))
  rw [hw]
  rfl
theorem oc_y_st {post : Int32 → SY → Prop} {c s f e : Nat} {b : Int32} (hc2 : c < 2) (h0 : ¬ hc c = 0) (hs : s < 3) (hf : f < 2) (h : ∀ P : Int32 → Prop, P 1 → wpY_isOpen P (nI L.length, hc, rl, jn, gd, lb, cS, cF, cL, cB, cT) (nI c) (nI s))
    (hok : ∀ x ∈ L, oc_ok x) (hL : L.length < 36) (hY : oc_Y L (nI L.length) cS cF cL cB cT) (hw : oc_n ((c * 3 + s) * 2 + (1 - f)) L < 3)
    (he : (f = 1 ∧ e = 0) ∨ (f = 0 ∧ jn (c * 3 + s) = nI e)) (he3 : e < 3)
    (p : post (nI (oc_n ((c * 3 + s) * 2 + (1 - f)) L + 1)) (nI (L.length + 1), hc, rl, jn, gd, lb, upd cS L.length (nI (c * 3 + s)), upd cF L.length (nI f), upd cL L.length (nI e), upd cB L.length (b &&& 255), upd cT L.length 0)) :
    wpY_start post (nI L.length, hc, rl, jn, gd, lb, cS, cF, cL, cB, cT) (nI c) (nI s) b (nI f) := by
  unfold wpY_start
  have hY2 := oc_Y_push (c * 3 + s, f, e, b &&& 255, 0) hY
  have hok2 : ∀ x ∈ L ++ [(c * 3 + s, f, e, b &&& 255, (0 : Int32))], oc_ok x := by
    intro x hx
    rcases List.mem_append.mp hx with hx | hx
    · exact hok x hx
    · rw [List.mem_singleton.mp hx]
      exact ⟨by show c * 3 + s < 6; omega, hf, he3⟩
  have g : wY_start_70 post b (nI f) (nI (c * 3 + s)) (nI e) (nI f) (nI (c * 3 + s)) (nI L.length) hc rl jn gd lb cS cF cL cB cT := by
    unfold wY_start_70
    refine oc_y_app hL hf ?_
    refine oc_y_uw (L := L ++ [(c * 3 + s, f, e, b &&& 255, 0)]) (by omega) hf hok2 (by rw [List.length_append, List.length_singleton]; omega) hY2 ?_
    rw [oc_n_app, if_pos (show oc_wi (c * 3 + s, f, e, b &&& 255, 0) = (c * 3 + s) * 2 + (1 - f) from rfl)]
    exact p
  refine oc_y_ref hc2 h0 (br_t (by decide) (h _ (br_f (by decide) (nm_r (e' := nI (c * 3 + s)) (oc_m3 c s) (oc_y_uw (L := L) (by omega) hf hok (by omega) hY (br_f ?_ ?_))))))
  · exact fun z => absurd ((nI_eq (b := 3) (by omega) (by decide)).mp z) (by omega)
  · rcases he with ⟨rfl, rfl⟩ | ⟨rfl, he⟩
    · exact br_f (by decide) g
    · refine br_t rfl ⟨vp_in_nI (by omega) (by omega), ?_⟩
      rw [nI_clamp (by omega), he]
      exact g
theorem oc_launch (K : oc_K k N J G L hc rh so sh uw gc gb ql xS xB xT rl jn gd lb) (hY : oc_Y L n cS cF cL cB cT) {f : Nat} (hf : f < 2) (x y b : Int32) :
    ∃ (r : Int32) (u' : SX) (v' : SY), (∀ post : Int32 → SX → Prop, post r u' → wpX_launch post (hc, rh, so, sh, uw, gc, gb, ql, xS, xB, xT) x y b (nI f)) ∧ (∀ post : Int32 → SY → Prop, post r v' → wpY_start post (n, hc, rl, jn, gd, lb, cS, cF, cL, cB, cT) x y b (nI f)) ∧ i_Rel (k + 5) u' v' := by
  have hok := oc_L_ok K.2.2.2.2.2.1
  have hU := K.2.2.2.2.2.2.1
  have hL := oc_U_len hU hok
  rcases oc_refus (rh := rh) (so := so) (sh := sh) (uw := uw) (gc := gc) (gb := gb) (ql := ql) (xS := xS) (xB := xB) (xT := xT) (n := n) (rl := rl) (jn := jn) (gd := gd) (lb := lb) (cS := cS) (cF := cF) (cL := cL) (cB := cB) (cT := cT) K.1 x with ⟨r, h1, h2, h3, h4⟩ | ⟨c, hc2, rfl, hN, h0⟩
  · exact ⟨r, _, _, fun post p => oc_x_lauR h3 h1 p, fun post p => oc_y_stR h4 h2 p, oc_mk5 K hY⟩
  · rcases oc_isop (rh := rh) (uw := uw) (gc := gc) (gb := gb) (ql := ql) (xS := xS) (xB := xB) (xT := xT) (n := n) (rl := rl) (gd := gd) (lb := lb) (cS := cS) (cF := cF) (cL := cL) (cB := cB) (cT := cT) K.1 K.2.2.1 (nI c) y with ⟨h1, h2⟩ | ⟨c', s, j, hc3, hs, ec, rfl, hj, j1, j2, j3, j4, j5, h1, h2⟩
    · exact ⟨-3, _, _, fun post p => oc_x_lauC hc2 h0 h1 p, fun post p => oc_y_stC hc2 h0 h2 p, oc_mk5 K hY⟩
    · have ec2 : c = c' := (nI_eq (by omega) (by omega)).mp ec
      subst ec2
      obtain ⟨w1, w2⟩ := hU ((c * 3 + s) * 2 + (1 - f)) (by omega)
      by_cases hw : oc_n ((c * 3 + s) * 2 + (1 - f)) L = 3
      · exact ⟨-6, _, _, fun post p => oc_x_lauW hc2 h0 hs hf h1 (by rw [w1, hw]) p, fun post p => oc_y_stW hc2 h0 hs hf h2 hok hL hY hw p, oc_mk5 K hY⟩
      · obtain ⟨e, he3, heJ, heX, heY⟩ : ∃ e, e < 3 ∧ e < j + 1 ∧ ((f = 1 ∧ e = 0) ∨ (f = 0 ∧ sh (c * 3 + s) = nI e)) ∧ ((f = 1 ∧ e = 0) ∨ (f = 0 ∧ jn (c * 3 + s) = nI e)) := by
          rcases oc_f2 hf with rfl | rfl
          · exact ⟨j, hj, by omega, Or.inr ⟨rfl, j2⟩, Or.inr ⟨rfl, j3⟩⟩
          · exact ⟨0, by omega, by omega, Or.inl ⟨rfl, rfl⟩, Or.inl ⟨rfl, rfl⟩⟩
        have hn := hY.1
        subst hn
        have hd3 : (c * 3 + s) / 3 = c := by omega
        have hm3 : (c * 3 + s) % 3 = s := by omega
        obtain ⟨s1, s2, s3⟩ := oc_K_send (x := (c * 3 + s, f, e, b &&& 255, 0)) (q := (c * 3 + e) * 2 + (1 - f)) (w := (c * 3 + s) * 2 + (1 - f)) K ⟨by show c * 3 + s < 6; omega, hf, he3⟩ (by show e < J (c * 3 + s); omega) (by show ((c * 3 + s) / 3 * 3 + e) * 2 + (1 - f) = _; rw [hd3]) rfl (by omega)
        have q0 := (K.2.2.2.2.2.2.2 ((c * 3 + e) * 2 + (1 - f)) (by omega)).1
        dsimp only at s3
        rw [hm3] at s3
        exact ⟨_, _, _, fun post p => oc_x_lau hc2 h0 hs hf h1 w1 (by omega) heX he3 q0 s1 p, fun post p => oc_y_st hc2 h0 hs hf h2 hok s2 hY (by omega) heY he3 p, oc_mk s3 (oc_Y_push (c * 3 + s, f, e, b &&& 255, 0) hY)⟩
end
theorem i_vc_got {k : Nat} {u : SX} {v : SY} (I : i_Rel k u v) (hk : k + 5 ≤ 2561) (v1 : Int32) (v2 : Int32) (v3 : Int32) : wpX_got (fun r => wpY_got (fun r' => r' = r ∧ i_Rel (k + 5) u v) v v1 v2 (lw_bz v3)) u v1 v2 (lw_bz v3) := by
  obtain ⟨hc, rh, so, sh, uw, gc, gb, ql, xS, xB, xT⟩ := u
  obtain ⟨n, hd, rl, jn, gd, lb, cS, cF, cL, cB, cT⟩ := v
  obtain ⟨rfl, N, J, G, L, K, hY⟩ := I
  obtain ⟨f, hf, ef⟩ := oc_bz v3
  rw [ef]
  rcases oc_isop K.1 K.2.2.1 v1 v2 with ⟨h1, h2⟩ | ⟨c, s, j, hc2, hs, rfl, rfl, hj, j1, j2, j3, j4, j5, h1, h2⟩
  · exact oc_x_gotC h1 (oc_y_gotC h2 ⟨rfl, oc_mk5 K hY⟩)
  · obtain ⟨g1, g2, g3, g4⟩ := K.2.2.2.1 ((c * 3 + s) * 2 + (1 - f)) (by omega)
    have e : ((c * 3 + s) * 2 + (1 - f)) / 2 = c * 3 + s := by omega
    rw [e] at g4
    exact oc_x_got hc2 hs hf h1 (oc_y_got hc2 hs hf h2 ⟨by rw [g1, g4 (by omega)], oc_mk5 K hY⟩)
theorem i_vc_byteGot {k : Nat} {u : SX} {v : SY} (I : i_Rel k u v) (hk : k + 5 ≤ 2561) (v1 : Int32) (v2 : Int32) (v3 : Int32) (v4 : Int32) : wpX_byteGot (fun r => wpY_byteGot (fun r' => r' = r ∧ i_Rel (k + 5) u v) v v1 v2 (lw_bz v3) v4) u v1 v2 (lw_bz v3) v4 := by
  obtain ⟨hc, rh, so, sh, uw, gc, gb, ql, xS, xB, xT⟩ := u
  obtain ⟨n, hd, rl, jn, gd, lb, cS, cF, cL, cB, cT⟩ := v
  obtain ⟨rfl, N, J, G, L, K, hY⟩ := I
  obtain ⟨f, hf, ef⟩ := oc_bz v3
  rw [ef]
  rcases oc_isop K.1 K.2.2.1 v1 v2 with ⟨h1, h2⟩ | ⟨c, s, j, hc2, hs, rfl, rfl, hj, j1, j2, j3, j4, j5, h1, h2⟩
  · rcases oc_ixo v4 8 (by decide) with h | ⟨b, hb, rfl⟩
    · exact oc_x_bgC h1 (oc_y_bgB h ⟨rfl, oc_mk5 K hY⟩)
    · exact oc_x_bgC h1 (oc_y_bgC hb h2 ⟨rfl, oc_mk5 K hY⟩)
  · rcases oc_ixo v4 8 (by decide) with h | ⟨b, hb, rfl⟩
    · exact oc_x_bgB hf h1 h (oc_y_bgB h ⟨rfl, oc_mk5 K hY⟩)
    · obtain ⟨g1, g2, g3, g4⟩ := K.2.2.2.1 ((c * 3 + s) * 2 + (1 - f)) (by omega)
      have e : ((c * 3 + s) * 2 + (1 - f)) / 2 = c * 3 + s := by omega
      rw [e] at g4
      have g5 := g4 (by omega)
      by_cases hn : b < G ((c * 3 + s) * 2 + (1 - f))
      · exact oc_x_bg hc2 hs hf h1 hb g1 (by omega) hn (oc_y_bg hc2 hs hf h2 hb g5 (by omega) hn ⟨(K.2.2.2.2.1 _ b (by omega) hb hn).symm, oc_mk5 K hY⟩)
      · exact oc_x_bgN hc2 hs hf h1 hb g1 (by omega) hn (oc_y_bgN hc2 hs hf h2 hb g5 (by omega) hn ⟨rfl, oc_mk5 K hY⟩)
theorem i_vc_waiting {k : Nat} {u : SX} {v : SY} (I : i_Rel k u v) (hk : k + 5 ≤ 2561) (v1 : Int32) (v2 : Int32) (v3 : Int32) : wpX_waiting (fun r => wpY_waiting (fun r' => r' = r ∧ i_Rel (k + 5) u v) v v1 v2 (lw_bz v3)) u v1 v2 (lw_bz v3) := by
  obtain ⟨hc, rh, so, sh, uw, gc, gb, ql, xS, xB, xT⟩ := u
  obtain ⟨n, hd, rl, jn, gd, lb, cS, cF, cL, cB, cT⟩ := v
  obtain ⟨rfl, N, J, G, L, K, hY⟩ := I
  obtain ⟨f, hf, ef⟩ := oc_bz v3
  rw [ef]
  have hok := oc_L_ok K.2.2.2.2.2.1
  have hU := K.2.2.2.2.2.2.1
  have hL := oc_U_len hU hok
  have e0 : L.countP (fun _ => false) = 0 := by simp
  rcases oc_ixo v1 2 (by decide) with h | ⟨c, hc2, rfl⟩
  · refine oc_x_waC h (oc_y_wait (fun _ => false) hf hok hL hY (fun y hy => ⟨fun z => absurd z (by decide), fun m => ?_⟩) ⟨by rw [e0]; rfl, oc_mk5 K hY⟩)
    have := (hok y hy).1
    exact absurd m.1 (oc_neI (N := 2) (by omega) (by decide) h)
  · rcases oc_ixo v2 3 (by decide) with h | ⟨l, hl, rfl⟩
    · refine oc_x_waL hc2 h (oc_y_wait (fun _ => false) hf hok hL hY (fun y hy => ⟨fun z => absurd z (by decide), fun m => ?_⟩) ⟨by rw [e0]; rfl, oc_mk5 K hY⟩)
      exact absurd m.2.1 (oc_neI (N := 3) (hok y hy).2.2 (by decide) h)
    · refine oc_x_wa hc2 hl hf (oc_y_wait (fun y => oc_qi y == (c * 3 + l) * 2 + (1 - f)) hf hok hL hY (fun y hy => ?_) ⟨?_, oc_mk5 K hY⟩)
      · rw [oc_M_qi (hok y hy) hc2 hl hf]
        simp
      · rw [(K.2.2.2.2.2.2.2 ((c * 3 + l) * 2 + (1 - f)) (by omega)).1, List.countP_eq_length_filter]
        rfl
theorem i_vc_tamper {k : Nat} {u : SX} {v : SY} (I : i_Rel k u v) (hk : k + 5 ≤ 2561) (v1 : Int32) (v2 : Int32) (v3 : Int32) (v4 : Int32) : wpX_tamper (fun r u' => wpY_tamper (fun r' v' => r' = r ∧ i_Rel (k + 5) u' v') v v1 v2 (lw_bz v3) v4) u v1 v2 (lw_bz v3) v4 := by
  obtain ⟨hc, rh, so, sh, uw, gc, gb, ql, xS, xB, xT⟩ := u
  obtain ⟨n, hd, rl, jn, gd, lb, cS, cF, cL, cB, cT⟩ := v
  obtain ⟨rfl, N, J, G, L, K, hY⟩ := I
  obtain ⟨f, hf, ef⟩ := oc_bz v3
  rw [ef]
  have hok := oc_L_ok K.2.2.2.2.2.1
  have hU := K.2.2.2.2.2.2.1
  have hL := oc_U_len hU hok
  rcases oc_refus K.1 v1 with ⟨r, h1, h2, h3, h4⟩ | ⟨c, hc2, rfl, hN, h0⟩
  · exact oc_x_taR (r := r) (fun P p => oc_x_crR h3 h1 p) h1 (oc_y_taR h4 h2 ⟨rfl, oc_mk5 K hY⟩)
  · rcases oc_cell K hY hc2 h0 hf v2 with ⟨h1, h2⟩ | ⟨l, A, x, B, hl, rfl, rfl, hx, hA, h1, h2⟩
    · exact oc_x_taR h1 (by decide) (oc_y_taN hc2 h0 h2 ⟨rfl, oc_mk5 K hY⟩)
    · have hq : (c * 3 + l) * 2 + (1 - f) < 12 := by omega
      obtain ⟨a1, a2, a3, a4, a5⟩ := oc_X_at K.2.2.2.2.2.2.2 hq hx hA
      have ha : A.length < 36 := by
        rw [List.length_append, List.length_cons] at hL
        omega
      obtain ⟨b1, b2, b3, b4, b5⟩ := oc_Y_at hY (oc_mid A B x)
      exact oc_x_ta hc2 hl hf h1 a4 (oc_y_ta hc2 h0 ha h2 b5 ⟨rfl, oc_mk (oc_K_set K _ hq hx hA) (oc_Y_set _ hY)⟩)
theorem i_vc_send {k : Nat} {u : SX} {v : SY} (I : i_Rel k u v) (hk : k + 5 ≤ 2561) (v1 : Int32) (v2 : Int32) (v3 : Int32) : wpX_send (fun r u' => wpY_send (fun r' v' => r' = r ∧ i_Rel (k + 5) u' v') v v1 v2 v3) u v1 v2 v3 := by
  obtain ⟨hc, rh, so, sh, uw, gc, gb, ql, xS, xB, xT⟩ := u
  obtain ⟨n, hd, rl, jn, gd, lb, cS, cF, cL, cB, cT⟩ := v
  obtain ⟨rfl, N, J, G, L, K, hY⟩ := I
  obtain ⟨r, u', v', hX, hW, hR⟩ := oc_launch K hY (f := 1) (by decide) v1 v2 v3
  obtain ⟨a1, a2, a3, a4, a5, a6, a7, a8, a9, a10, a11⟩ := u'
  obtain ⟨b1, b2, b3, b4, b5, b6, b7, b8, b9, b10, b11⟩ := v'
  unfold wpX_send
  refine hX _ ?_
  unfold wpY_send
  exact hW _ ⟨rfl, hR⟩
theorem i_vc_reply {k : Nat} {u : SX} {v : SY} (I : i_Rel k u v) (hk : k + 5 ≤ 2561) (v1 : Int32) (v2 : Int32) (v3 : Int32) : wpX_reply (fun r u' => wpY_reply (fun r' v' => r' = r ∧ i_Rel (k + 5) u' v') v v1 v2 v3) u v1 v2 v3 := by
  obtain ⟨hc, rh, so, sh, uw, gc, gb, ql, xS, xB, xT⟩ := u
  obtain ⟨n, hd, rl, jn, gd, lb, cS, cF, cL, cB, cT⟩ := v
  obtain ⟨rfl, N, J, G, L, K, hY⟩ := I
  obtain ⟨r, u', v', hX, hW, hR⟩ := oc_launch K hY (f := 0) (by decide) v1 v2 v3
  obtain ⟨a1, a2, a3, a4, a5, a6, a7, a8, a9, a10, a11⟩ := u'
  obtain ⟨b1, b2, b3, b4, b5, b6, b7, b8, b9, b10, b11⟩ := v'
  unfold wpX_reply
  refine hX _ ?_
  unfold wpY_reply
  exact hW _ ⟨rfl, hR⟩
end
section
/-! ===== move ===== -/
section
variable {k : Nat} {N J G : Nat → Nat} {L : List oc_C} {hc rh so sh uw gc gb ql xS xB xT rl jn gd lb cS cF cL cB cT : Nat → Int32} {n : Int32}
theorem oc_x_ll {post : Int32 → Prop} {c s f e : Nat} (hc2 : c < 2) (hs : s < 3) (he : (f = 0 ∧ e = 0) ∨ (f = 1 ∧ sh (c * 3 + s) = nI e)) (p : post (nI e)) : wpX_lastLink post (hc, rh, so, sh, uw, gc, gb, ql, xS, xB, xT) (nI c) (nI s) (nI f) := by
  rcases he with ⟨rfl, rfl⟩ | ⟨rfl, h⟩
  · exact oc_x_ll0 p
  · exact oc_x_ll1 hc2 hs (by rw [h]; exact p)
theorem oc_x_mvR {post : Int32 → SX → Prop} {x y z r : Int32} (h : ∀ P : Int32 → Prop, P r → wpX_cellRefusal P (hc, rh, so, sh, uw, gc, gb, ql, xS, xB, xT) x y z) (hr : ¬ r = 0) (p : post r (hc, rh, so, sh, uw, gc, gb, ql, xS, xB, xT)) : wpX_move post (hc, rh, so, sh, uw, gc, gb, ql, xS, xB, xT) x y z := by
  unfold wpX_move
  exact h _ (br_f hr p)
theorem oc_x_mv1 {post : Int32 → SX → Prop} {c l f s e m g w v : Nat} {b : Int32} (hc2 : c < 2) (hl : l < 3) (hf : f < 2) (hs : s < 3) (h : ∀ P : Int32 → Prop, P 0 → wpX_cellRefusal P (hc, rh, so, sh, uw, gc, gb, ql, xS, xB, xT) (nI c) (nI l) (nI f)) (hw : (c * 3 + s) * 2 + (1 - f) = w)
    (hq : ql ((c * 3 + l) * 2 + (1 - f)) = nI (m + 1)) (hm : m < 9) (hS : xS (((c * 3 + l) * 2 + (1 - f)) * 9) = nI s) (hB : xB (((c * 3 + l) * 2 + (1 - f)) * 9) = b) (hT : xT (((c * 3 + l) * 2 + (1 - f)) * 9) = 0)
    (he : (f = 0 ∧ e = 0) ∨ (f = 1 ∧ sh (c * 3 + s) = nI e)) (hle : l = e) (hgc : gc w = nI g) (hg : g < 2 ^ 30) (hu : uw w = nI (v + 1))
    (p : post 1 (hc, rh, so, sh, upd uw w (nI v), upd gc w (nI (g + 1)), upd gb (w * 8 + g % 8) b, upd ql ((c * 3 + l) * 2 + (1 - f)) (nI m), oc_sh xS (((c * 3 + l) * 2 + (1 - f)) * 9) (((c * 3 + l) * 2 + (1 - f)) * 9 + m), oc_sh xB (((c * 3 + l) * 2 + (1 - f)) * 9) (((c * 3 + l) * 2 + (1 - f)) * 9 + m), oc_sh xT (((c * 3 + l) * 2 + (1 - f)) * 9) (((c * 3 + l) * 2 + (1 - f)) * 9 + m))) :
    wpX_move post (hc, rh, so, sh, uw, gc, gb, ql, xS, xB, xT) (nI c) (nI l) (nI f) := by
  unfold wpX_move
  have hi : vp_in (nI (((c * 3 + l) * 2 + (1 - f)) * 9)) 108 := vp_in_nI (by omega) (by omega)
  have e9 : (nI (((c * 3 + l) * 2 + (1 - f)) * 9)).toNatClampNeg = ((c * 3 + l) * 2 + (1 - f)) * 9 := nI_clamp (by omega)
  refine h _ (br_t rfl (oc_x_que hf (nm_r (e' := nI (((c * 3 + l) * 2 + (1 - f)) * 9)) (oc_m9 _) ⟨hi, nm_r (e' := nI s) (by rw [e9, hS]) ⟨hi, nm_r (e' := b) (by rw [e9, hB]) ⟨hi, nm_r (e' := 0) (by rw [e9, hT]) (oc_x_rem (by omega) hm hq ?_)⟩⟩⟩)))
  refine oc_x_ll hc2 hs he (br_t (by rw [hle]) (br_t rfl (oc_x_way hf ?_)))
  rw [hw]
  exact oc_x_del (by omega) hg hgc hu p
theorem oc_x_mv2 {post : Int32 → SX → Prop} {c l f s e m : Nat} {b t : Int32} (hc2 : c < 2) (hl : l < 3) (hf : f < 2) (hs : s < 3) (h : ∀ P : Int32 → Prop, P 0 → wpX_cellRefusal P (hc, rh, so, sh, uw, gc, gb, ql, xS, xB, xT) (nI c) (nI l) (nI f))
    (hq : ql ((c * 3 + l) * 2 + (1 - f)) = nI (m + 1)) (hm : m < 9) (hS : xS (((c * 3 + l) * 2 + (1 - f)) * 9) = nI s) (hB : xB (((c * 3 + l) * 2 + (1 - f)) * 9) = b) (hT : xT (((c * 3 + l) * 2 + (1 - f)) * 9) = t)
    (he : (f = 0 ∧ e = 0) ∨ (f = 1 ∧ sh (c * 3 + s) = nI e)) (hle : l = e) (ht : ¬ t = 0)
    (p : post 2 (upd hc c 0, oc_fl rh (c * 5) (c * 5 + 5) 0, oc_fl so (c * 3) (c * 3 + 3) 0, sh, oc_fl uw (c * 6) (c * 6 + 6) 0, oc_fl gc (c * 6) (c * 6 + 6) 0, gb, oc_fl (upd ql ((c * 3 + l) * 2 + (1 - f)) (nI m)) (c * 6) (c * 6 + 6) 0, oc_sh xS (((c * 3 + l) * 2 + (1 - f)) * 9) (((c * 3 + l) * 2 + (1 - f)) * 9 + m), oc_sh xB (((c * 3 + l) * 2 + (1 - f)) * 9) (((c * 3 + l) * 2 + (1 - f)) * 9 + m), oc_sh xT (((c * 3 + l) * 2 + (1 - f)) * 9) (((c * 3 + l) * 2 + (1 - f)) * 9 + m))) :
    wpX_move post (hc, rh, so, sh, uw, gc, gb, ql, xS, xB, xT) (nI c) (nI l) (nI f) := by
  unfold wpX_move
  have hi : vp_in (nI (((c * 3 + l) * 2 + (1 - f)) * 9)) 108 := vp_in_nI (by omega) (by omega)
  have e9 : (nI (((c * 3 + l) * 2 + (1 - f)) * 9)).toNatClampNeg = ((c * 3 + l) * 2 + (1 - f)) * 9 := nI_clamp (by omega)
  refine h _ (br_t rfl (oc_x_que hf (nm_r (e' := nI (((c * 3 + l) * 2 + (1 - f)) * 9)) (oc_m9 _) ⟨hi, nm_r (e' := nI s) (by rw [e9, hS]) ⟨hi, nm_r (e' := b) (by rw [e9, hB]) ⟨hi, nm_r (e' := t) (by rw [e9, hT]) (oc_x_rem (by omega) hm hq ?_)⟩⟩⟩)))
  exact oc_x_ll hc2 hs he (br_t (by rw [hle]) (br_f ht (oc_x_td hc2 p)))
theorem oc_x_mv0 {post : Int32 → SX → Prop} {c l f s e m l2 m2 : Nat} {b t : Int32} (hc2 : c < 2) (hl : l < 3) (hf : f < 2) (hs : s < 3) (h : ∀ P : Int32 → Prop, P 0 → wpX_cellRefusal P (hc, rh, so, sh, uw, gc, gb, ql, xS, xB, xT) (nI c) (nI l) (nI f))
    (hq : ql ((c * 3 + l) * 2 + (1 - f)) = nI (m + 1)) (hm : m < 9) (hS : xS (((c * 3 + l) * 2 + (1 - f)) * 9) = nI s) (hB : xB (((c * 3 + l) * 2 + (1 - f)) * 9) = b) (hT : xT (((c * 3 + l) * 2 + (1 - f)) * 9) = t)
    (he : (f = 0 ∧ e = 0) ∨ (f = 1 ∧ sh (c * 3 + s) = nI e)) (he3 : e < 3) (hle : ¬ l = e) (h2 : (f = 0 ∧ l = l2 + 1) ∨ (f = 1 ∧ l2 = l + 1)) (hl2 : l2 < 3)
    (hq2 : (upd ql ((c * 3 + l) * 2 + (1 - f)) (nI m)) ((c * 3 + l2) * 2 + (1 - f)) = nI m2) (hm2 : m2 < 9)
    (p : post 0 (hc, rh, so, sh, uw, gc, gb, upd (upd ql ((c * 3 + l) * 2 + (1 - f)) (nI m)) ((c * 3 + l2) * 2 + (1 - f)) (nI (m2 + 1)), upd (oc_sh xS (((c * 3 + l) * 2 + (1 - f)) * 9) (((c * 3 + l) * 2 + (1 - f)) * 9 + m)) (((c * 3 + l2) * 2 + (1 - f)) * 9 + m2) (nI s), upd (oc_sh xB (((c * 3 + l) * 2 + (1 - f)) * 9) (((c * 3 + l) * 2 + (1 - f)) * 9 + m)) (((c * 3 + l2) * 2 + (1 - f)) * 9 + m2) b, upd (oc_sh xT (((c * 3 + l) * 2 + (1 - f)) * 9) (((c * 3 + l) * 2 + (1 - f)) * 9 + m)) (((c * 3 + l2) * 2 + (1 - f)) * 9 + m2) t)) :
    wpX_move post (hc, rh, so, sh, uw, gc, gb, ql, xS, xB, xT) (nI c) (nI l) (nI f) := by
  unfold wpX_move
  have hi : vp_in (nI (((c * 3 + l) * 2 + (1 - f)) * 9)) 108 := vp_in_nI (by omega) (by omega)
  have e9 : (nI (((c * 3 + l) * 2 + (1 - f)) * 9)).toNatClampNeg = ((c * 3 + l) * 2 + (1 - f)) * 9 := nI_clamp (by omega)
  refine h _ (br_t rfl (oc_x_que hf (nm_r (e' := nI (((c * 3 + l) * 2 + (1 - f)) * 9)) (oc_m9 _) ⟨hi, nm_r (e' := nI s) (by rw [e9, hS]) ⟨hi, nm_r (e' := b) (by rw [e9, hB]) ⟨hi, nm_r (e' := t) (by rw [e9, hT]) (oc_x_rem (by omega) hm hq ?_)⟩⟩⟩)))
  refine oc_x_ll hc2 hs he (br_f (fun z => hle ((nI_eq (by omega) (by omega)).mp z)) ?_)
  rcases h2 with ⟨rfl, rfl⟩ | ⟨rfl, rfl⟩
  · refine br_t rfl ?_
    rw [nI_pred]
    unfold wX_move_91
    exact oc_x_que (f := 0) hf (oc_x_app (by omega) hm2 hq2 p)
  · refine br_f (by decide) ?_
    rw [nI_1]
    unfold wX_move_91
    exact oc_x_que (f := 1) hf (oc_x_app (by omega) hm2 hq2 p)
theorem oc_y_mvR {post : Int32 → SY → Prop} {x y z r : Int32} (h : ∀ P : Int32 → Prop, P r → wpY_refusal P (n, hc, rl, jn, gd, lb, cS, cF, cL, cB, cT) x) (hr : ¬ 0 ≤ r) (p : post r (n, hc, rl, jn, gd, lb, cS, cF, cL, cB, cT)) : wpY_move post (n, hc, rl, jn, gd, lb, cS, cF, cL, cB, cT) x y z := by
  unfold wpY_move
  exact h _ (br_f hr p)
theorem oc_y_mvN {post : Int32 → SY → Prop} {c : Nat} {y z : Int32} (hc2 : c < 2) (h0 : ¬ hc c = 0) (h : ∀ P : Int32 → Prop, P (-7) → wpY_oldest P (n, hc, rl, jn, gd, lb, cS, cF, cL, cB, cT) (nI c) y z) (p : post (-7) (n, hc, rl, jn, gd, lb, cS, cF, cL, cB, cT)) : wpY_move post (n, hc, rl, jn, gd, lb, cS, cF, cL, cB, cT) (nI c) y z := by
  unfold wpY_move
  exact oc_y_ref hc2 h0 (br_t (by decide) (h _ (br_f (by decide) p)))
/-- down to the cell's being taken out -/
theorem oc_y_mvP {post : Int32 → SY → Prop} {c l f e a S : Nat} {b t : Int32} (hc2 : c < 2) (h0 : ¬ hc c = 0) (hl : l < 3) (he3 : e < 3) (hf : f < 2) (h : ∀ P : Int32 → Prop, P (nI a) → wpY_oldest P (n, hc, rl, jn, gd, lb, cS, cF, cL, cB, cT) (nI c) (nI l) (nI f)) (ha : a < 36)
    (hS : cS a = nI S) (hS6 : S < 6) (hB : cB a = b) (hT : cT a = t) (he : (f = 0 ∧ e = 0) ∨ (f = 1 ∧ jn S = nI e))
    (p1 : l = e → wY_move_83 post (nI c) (nI l) (nI f) (nI a) (nI S) b t 1 n hc rl jn gd lb cS cF cL cB cT) (p0 : ¬ l = e → wY_move_83 post (nI c) (nI l) (nI f) (nI a) (nI S) b t 0 n hc rl jn gd lb cS cF cL cB cT) :
    wpY_move post (n, hc, rl, jn, gd, lb, cS, cF, cL, cB, cT) (nI c) (nI l) (nI f) := by
  unfold wpY_move
  have hi : vp_in (nI a) 36 := vp_in_nI ha (by omega)
  have ea : (nI a).toNatClampNeg = a := nI_clamp (by omega)
  have g : wY_move_75 post (nI c) (nI l) (nI f) (nI a) (nI S) b t (nI e) (nI l) n hc rl jn gd lb cS cF cL cB cT := by
    unfold wY_move_75
    exact br_c (fun z => p1 ((nI_eq (by omega) (by omega)).mp z)) (fun z => p0 (fun y => z (by rw [y])))
  refine oc_y_ref hc2 h0 (br_t (by decide) (h _ (br_t (nI_pos' (by omega)) ⟨hi, nm_r (e' := nI S) (by rw [ea, hS]) ⟨hi, nm_r (e' := b) (by rw [ea, hB]) ⟨hi, nm_r (e' := t) (by rw [ea, hT]) ?_⟩⟩⟩)))
  rcases he with ⟨rfl, rfl⟩ | ⟨rfl, he⟩
  · exact br_t rfl g
  · refine br_f (by decide) ⟨vp_in_nI hS6 (by omega), ?_⟩
    rw [nI_clamp (by omega), he]
    exact g
theorem oc_y_mv0 {post : Int32 → SY → Prop} {c l f l2 a m S : Nat} {b t : Int32} (hf : f < 2) (hl : l < 3) (ha : a ≤ m) (hm : m < 36) (hF : ∀ i, i ≤ m → vp_nar .boolean (cF i) = cF i) (h2 : (f = 0 ∧ l = l2 + 1) ∨ (f = 1 ∧ l2 = l + 1))
    (p : post 0 (nI (m + 1), hc, rl, jn, gd, lb, upd (oc_sh cS a m) m (nI S), upd (oc_sh cF a m) m (nI f), upd (oc_sh cL a m) m (nI l2), upd (oc_sh cB a m) m b, upd (oc_sh cT a m) m t)) :
    wY_move_83 post (nI c) (nI l) (nI f) (nI a) (nI S) b t 0 (nI (m + 1)) hc rl jn gd lb cS cF cL cB cT := by
  unfold wY_move_83
  refine oc_y_take ha hm hF (br_t rfl ?_)
  rcases h2 with ⟨rfl, rfl⟩ | ⟨rfl, rfl⟩
  · refine br_t rfl ?_
    rw [nI_pred]
    unfold wY_move_113
    exact oc_y_app hm (f := 0) hf p
  · refine br_f (by decide) ?_
    rw [nI_1]
    unfold wY_move_113
    exact oc_y_app hm (f := 1) hf p
theorem oc_y_mv1 {post : Int32 → SY → Prop} {c l f a m S w g : Nat} {b : Int32} (hf : f < 2) (ha : a ≤ m) (hm : m < 36) (hF : ∀ i, i ≤ m → vp_nar .boolean (cF i) = cF i) (hS : S < 6) (hw : S * 2 + (1 - f) = w) (hg : gd w = nI g)
    (p : post 1 (nI m, hc, rl, jn, upd gd w (nI (g + 1)), upd (oc_sr lb (w * 8) 0) (w * 8) b, oc_sh cS a m, oc_sh cF a m, oc_sh cL a m, oc_sh cB a m, oc_sh cT a m)) :
    wY_move_83 post (nI c) (nI l) (nI f) (nI a) (nI S) b 0 1 (nI (m + 1)) hc rl jn gd lb cS cF cL cB cT := by
  unfold wY_move_83
  refine oc_y_take ha hm hF (br_f (by decide) (br_t rfl ?_))
  rw [oc_m2]
  rcases oc_f2 hf with rfl | rfl
  · refine br_t rfl ?_
    unfold wY_move_149
    rw [oc_p1, show S * 2 + 1 = w from hw]
    exact oc_y_get (by omega) hg p
  · refine br_f (by decide) ?_
    unfold wY_move_149
    rw [oc_p0, show S * 2 = w from hw]
    exact oc_y_get (by omega) hg p
theorem oc_y_mv2 {post : Int32 → SY → Prop} {A B : List oc_C} {c l f S : Nat} {b t : Int32} {x : oc_C} (hc2 : c < 2) (h0 : ¬ hc c = 0) (hok : ∀ y ∈ A ++ x :: B, oc_ok y) (hL : (A ++ x :: B).length ≤ 36) (hY : oc_Y (A ++ x :: B) (nI (A.length + B.length + 1)) cS cF cL cB cT) (ht : ¬ t = 0)
    (p : ∀ (n : Int32) (cS cF cL cB cT : Nat → Int32), oc_Y (oc_D c (A ++ B)) n cS cF cL cB cT → post 2 (n, upd hc c 0, rl, oc_fl jn (c * 3) (c * 3 + 3) (-1), gd, lb, cS, cF, cL, cB, cT)) :
    wY_move_83 post (nI c) (nI l) (nI f) (nI A.length) (nI S) b t 1 (nI (A.length + B.length + 1)) hc rl jn gd lb cS cF cL cB cT := by
  unfold wY_move_83
  have hlen : (A ++ x :: B).length = A.length + B.length + 1 := by
    rw [List.length_append, List.length_cons]
    rfl
  have hF := oc_Y_F hY hok
  refine oc_y_take (by omega) (by omega) (fun i hi => hF i (by omega)) (br_f (by decide) (br_f ht ?_))
  refine oc_y_des (L := A ++ B) hc2 h0 (fun y hy => hok y ?_) (by rw [List.length_append]; omega) (oc_Y_cut hY) (fun m aS aF aL aB aT hY2 => p m aS aF aL aB aT hY2)
  rcases List.mem_append.mp hy with hy | hy
  · exact List.mem_append.mpr (Or.inl hy)
  · exact List.mem_append.mpr (Or.inr (List.mem_cons_of_mem _ hy))
end
theorem i_vc_move {k : Nat} {u : SX} {v : SY} (I : i_Rel k u v) (hk : k + 5 ≤ 2561) (v1 : Int32) (v2 : Int32) (v3 : Int32) : wpX_move (fun r u' => wpY_move (fun r' v' => r' = r ∧ i_Rel (k + 5) u' v') v v1 v2 (lw_bz v3)) u v1 v2 (lw_bz v3) := by
  obtain ⟨hc, rh, so, sh, uw, gc, gb, ql, xS, xB, xT⟩ := u
  obtain ⟨n, hd, rl, jn, gd, lb, cS, cF, cL, cB, cT⟩ := v
  obtain ⟨rfl, N, J, G, L, K, hY⟩ := I
  obtain ⟨f, hf, ef⟩ := oc_bz v3
  rw [ef]
  have hok := oc_L_ok K.2.2.2.2.2.1
  have hU := K.2.2.2.2.2.2.1
  have hL := oc_U_len hU hok
  rcases oc_refus K.1 v1 with ⟨r, h1, h2, h3, h4⟩ | ⟨c, hc2, rfl, hN, h0⟩
  · exact oc_x_mvR (r := r) (fun P p => oc_x_crR h3 h1 p) h1 (oc_y_mvR h4 h2 ⟨rfl, oc_mk5 K hY⟩)
  · rcases oc_cell K hY hc2 h0 hf v2 with ⟨h1, h2⟩ | ⟨l, A, x, B, hl, rfl, rfl, hx, hA, h1, h2⟩
    · exact oc_x_mvR h1 (by decide) (oc_y_mvN hc2 h0 h2 ⟨rfl, oc_mk5 K hY⟩)
    · have hq : (c * 3 + l) * 2 + (1 - f) < 12 := by omega
      obtain ⟨a1, a2, a3, a4, a5⟩ := oc_X_at K.2.2.2.2.2.2.2 hq hx hA
      obtain ⟨b1, b2, b3, b4, b5⟩ := oc_Y_at hY (oc_mid A B x)
      have hlen : (A ++ x :: B).length = A.length + B.length + 1 := by
        rw [List.length_append, List.length_cons]
        rfl
      obtain ⟨⟨o1, o2, o3⟩, hJ⟩ := oc_L_mid K.2.2.2.2.2.1
      have hx2 := hx
      unfold oc_qi at hx2
      have hxf : x.2.1 = f := by omega
      have hxl : x.2.2.1 = l := by omega
      have hxc : x.1 / 3 = c := by omega
      have hxs : c * 3 + x.1 % 3 = x.1 := by omega
      have hs : x.1 % 3 < 3 := by omega
      have hF := oc_Y_F hY hok
      have hn : n = nI (A.length + B.length + 1) := by rw [hY.1, hlen]
      subst hn
      rcases K.2.2.1 x.1 o1 with ⟨j1, j2, j3⟩ | ⟨j, j1, j2, j3, j4, j5, j6⟩
      · omega
      · obtain ⟨e, he3, heX, heY, heL⟩ : ∃ e, e < 3 ∧ ((f = 0 ∧ e = 0) ∨ (f = 1 ∧ sh (c * 3 + x.1 % 3) = nI e)) ∧ ((f = 0 ∧ e = 0) ∨ (f = 1 ∧ jn x.1 = nI e)) ∧ ((f = 0 ∧ e = 0) ∨ (f = 1 ∧ e = j)) := by
          rcases oc_f2 hf with h | h
          · exact ⟨0, by omega, Or.inl ⟨h, rfl⟩, Or.inl ⟨h, rfl⟩, Or.inl ⟨h, rfl⟩⟩
          · exact ⟨j, j1, Or.inr ⟨h, by rw [hxs]; exact j4⟩, Or.inr ⟨h, j5⟩, Or.inr ⟨h, rfl⟩⟩
        by_cases hle : l = e
        · by_cases ht : x.2.2.2.2 = 0
          · have hw : oc_wi x = x.1 * 2 + (1 - f) := by
              unfold oc_wi
              rw [hxf]
            obtain ⟨g1, g2, g3, g4⟩ := K.2.2.2.1 (x.1 * 2 + (1 - f)) (by omega)
            have ew : (x.1 * 2 + (1 - f)) / 2 = x.1 := by omega
            rw [ew] at g4
            obtain ⟨u1, u2⟩ := hU (x.1 * 2 + (1 - f)) (by omega)
            rw [oc_n_mid, if_pos hw] at u1
            refine oc_x_mv1 hc2 hl hf hs h1 (by rw [hxs]) a1 a5 a2 a3 (a4.trans ht) heX hle g1 (by omega) u1 ?_
            refine oc_y_mvP hc2 h0 hl he3 hf h2 (by omega) b1 o1 b4 (b5.trans ht) heY (fun _ => ?_) (fun z => absurd hle z)
            exact oc_y_mv1 hf (by omega) (by omega) (fun i hi => hF i (by omega)) o1 rfl (g4 (by omega)) ⟨rfl, oc_mk (oc_K_get K hq hx hA hw _) (oc_Y_cut hY)⟩
          · refine oc_x_mv2 hc2 hl hf hs h1 a1 a5 a2 a3 a4 heX hle ht ?_
            refine oc_y_mvP hc2 h0 hl he3 hf h2 (by omega) b1 o1 b4 b5 heY (fun _ => ?_) (fun z => absurd hle z)
            exact oc_y_mv2 hc2 h0 hok hL hY ht (fun m aS aF aL aB aT hY2 => ⟨rfl, oc_mk (oc_K_down K hq hx hA hxc) hY2⟩)
        · obtain ⟨l2, hl2, h22, hlJ⟩ : ∃ l2, l2 < 3 ∧ ((f = 0 ∧ l = l2 + 1) ∨ (f = 1 ∧ l2 = l + 1)) ∧ l2 < J x.1 := by
            rcases heL with ⟨h, h3⟩ | ⟨h, h3⟩
            · exact ⟨l - 1, by omega, Or.inl ⟨h, by omega⟩, by omega⟩
            · exact ⟨l + 1, by omega, Or.inr ⟨h, rfl⟩, by omega⟩
          have hp : oc_qi (x.1, x.2.1, l2, x.2.2.2.1, x.2.2.2.2) = (c * 3 + l2) * 2 + (1 - f) := by
            show (x.1 / 3 * 3 + l2) * 2 + (1 - x.2.1) = _
            rw [hxc, hxf]
          obtain ⟨s1, s2, s3, s4⟩ := oc_K_on K hq hx hA hl2 hlJ hp
          have hYp := oc_Y_push (x.1, x.2.1, l2, x.2.2.2.1, x.2.2.2.2) (oc_Y_cut hY)
          rw [List.length_append] at hYp
          dsimp only at hYp
          rw [hxf] at hYp
          rw [hxf] at s4
          refine oc_x_mv0 hc2 hl hf hs h1 a1 a5 a2 a3 a4 heX he3 hle h22 hl2 s3 s1 ?_
          refine oc_y_mvP hc2 h0 hl he3 hf h2 (by omega) b1 o1 b4 b5 heY (fun z => absurd z hle) (fun _ => ?_)
          exact oc_y_mv0 hf hl (by omega) (by omega) (fun i hi => hF i (by omega)) h22 ⟨rfl, oc_mk s4 hYp⟩
end
