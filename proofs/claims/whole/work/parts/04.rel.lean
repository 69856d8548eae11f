/-- a function of naturals with one place changed -/
def oc_u (f : Nat → Nat) (k m : Nat) : Nat → Nat := fun i => if i = k then m else f i
theorem oc_us {f : Nat → Nat} {k m : Nat} : oc_u f k m k = m := if_pos rfl
theorem oc_un {f : Nat → Nat} {k m i : Nat} (h : i ≠ k) : oc_u f k m i = f i := if_neg h
/-- what a circuit that is taken down leaves of f, d places a circuit -/
def oc_z (f : Nat → Nat) (d c : Nat) : Nat → Nat := fun i => if i / d = c then 0 else f i
theorem oc_zs {f : Nat → Nat} {d c i : Nat} (h : i / d = c) : oc_z f d c i = 0 := if_pos h
theorem oc_zn {f : Nat → Nat} {d c i : Nat} (h : ¬ i / d = c) : oc_z f d c i = f i := if_neg h
/-- hops -/
def oc_H (N : Nat → Nat) (hc : Nat → Int32) : Prop := ∀ c, c < 2 → hc c = nI (N c) ∧ N c ≤ 3
theorem oc_H_u {N : Nat → Nat} {hc : Nat → Int32} (h : oc_H N hc) (c m : Nat) (hm : m ≤ 3) : oc_H (oc_u N c m) (upd hc c (nI m)) := by
  intro d hd
  by_cases e : d = c
  · subst e
    rw [oc_us, pk_us]
    exact ⟨rfl, hm⟩
  · rw [oc_un e, pk_un e]
    exact h d hd
/-- relays -/
def oc_P (N : Nat → Nat) (rh rl : Nat → Int32) : Prop := ∀ c r, c < 2 → r < 5 →
  (rh (c * 5 + r) = 0 ∧ ∀ h, h < N c → rl (c * 3 + h) ≠ nI r) ∨ (rh (c * 5 + r) = 1 ∧ ∃ h, h < N c ∧ rl (c * 3 + h) = nI r)
theorem oc_P_ext {N : Nat → Nat} {hc rh rl : Nat → Int32} {c r : Nat} (hH : oc_H N hc) (h : oc_P N rh rl) (hc2 : c < 2) (hr : r < 5) (hn : N c < 3) :
    oc_P (oc_u N c (N c + 1)) (upd rh (c * 5 + r) 1) (upd rl (c * 3 + N c) (nI r)) := by
  intro d s hd hs
  by_cases e : d = c
  · subst e
    rw [oc_us]
    by_cases e2 : s = r
    · subst e2
      exact Or.inr ⟨pk_us, N d, by omega, pk_us⟩
    · rw [pk_un (by omega)]
      rcases h d s hd hs with ⟨h1, h2⟩ | ⟨h1, t, h2, h3⟩
      · refine Or.inl ⟨h1, fun t ht => ?_⟩
        by_cases e3 : t = N d
        · subst e3
          rw [pk_us]
          exact fun z => e2 ((nI_eq (by omega) (by omega)).mp z).symm
        · rw [pk_un (by omega)]
          exact h2 t (by omega)
      · exact Or.inr ⟨h1, t, by omega, by rw [pk_un (by omega)]; exact h3⟩
  · have h3 := (hH d hd).2
    rw [oc_un e, pk_un (by omega)]
    rcases h d s hd hs with ⟨h1, h2⟩ | ⟨h1, t, h2, h4⟩
    · exact Or.inl ⟨h1, fun t ht => by rw [pk_un (by omega)]; exact h2 t ht⟩
    · exact Or.inr ⟨h1, t, h2, by rw [pk_un (by omega)]; exact h4⟩
theorem oc_P_des {N : Nat → Nat} {rh rl : Nat → Int32} {c : Nat} (h : oc_P N rh rl) :
    oc_P (oc_u N c 0) (oc_fl rh (c * 5) (c * 5 + 5) 0) rl := by
  intro d s hd hs
  by_cases e : d = c
  · subst e
    rw [oc_us]
    exact Or.inl ⟨oc_fl_in (by omega) (by omega), fun t ht => absurd ht (Nat.not_lt_zero t)⟩
  · rw [oc_un e, oc_fl_out (by omega)]
    exact h d s hd hs
/-- streams: J is 0 for a closed one, else one more than its hop -/
def oc_J (N J : Nat → Nat) (so sh jn : Nat → Int32) : Prop := ∀ s, s < 6 →
  (J s = 0 ∧ so s = 0 ∧ jn s = -1) ∨ (∃ j, j < 3 ∧ J s = j + 1 ∧ so s = 1 ∧ sh s = nI j ∧ jn s = nI j ∧ 0 < N (s / 3))
theorem oc_J_ext {N J : Nat → Nat} {so sh jn : Nat → Int32} (h : oc_J N J so sh jn) (c : Nat) : oc_J (oc_u N c (N c + 1)) J so sh jn := by
  intro s hs
  rcases h s hs with h1 | ⟨j, h1, h2, h3, h4, h5, h6⟩
  · exact Or.inl h1
  · refine Or.inr ⟨j, h1, h2, h3, h4, h5, ?_⟩
    by_cases e : s / 3 = c
    · rw [e, oc_us]
      omega
    · rw [oc_un e]
      exact h6
theorem oc_J_open {N J : Nat → Nat} {so sh jn : Nat → Int32} (h : oc_J N J so sh jn) {p j : Nat} (hj : j < 3) (hN : N (p / 3) = j + 1) :
    oc_J N (oc_u J p (j + 1)) (upd so p 1) (upd sh p (nI j)) (upd jn p (nI j)) := by
  intro s hs
  by_cases e : s = p
  · subst e
    rw [oc_us]
    exact Or.inr ⟨j, hj, rfl, pk_us, pk_us, pk_us, by omega⟩
  · rw [oc_un e, pk_un e, pk_un e, pk_un e]
    exact h s hs
theorem oc_J_des {N J : Nat → Nat} {so sh jn : Nat → Int32} (h : oc_J N J so sh jn) (c : Nat) :
    oc_J (oc_u N c 0) (oc_z J 3 c) (oc_fl so (c * 3) (c * 3 + 3) 0) sh (oc_fl jn (c * 3) (c * 3 + 3) (-1)) := by
  intro s hs
  by_cases e : s / 3 = c
  · exact Or.inl ⟨oc_zs e, oc_fl_in (by omega) (by omega), oc_fl_in (by omega) (by omega)⟩
  · rw [oc_zn e, oc_fl_out (by omega), oc_fl_out (by omega), oc_un e]
    exact h s hs
/-- how many bytes each way has got -/
def oc_G (k : Nat) (J G : Nat → Nat) (gc gd : Nat → Int32) : Prop := ∀ w, w < 12 →
  gc w = nI (G w) ∧ G w ≤ k ∧ (J (w / 2) = 0 → G w = 0) ∧ (0 < J (w / 2) → gd w = nI (G w))
theorem oc_G_up {k m : Nat} {J G : Nat → Nat} {gc gd : Nat → Int32} (h : oc_G k J G gc gd) (hm : k ≤ m) : oc_G m J G gc gd := by
  intro w hw
  obtain ⟨h1, h2, h3, h4⟩ := h w hw
  exact ⟨h1, Nat.le_trans h2 hm, h3, h4⟩
theorem oc_G_open {k : Nat} {J G : Nat → Nat} {gc gd : Nat → Int32} (h : oc_G k J G gc gd) {p j : Nat} (hp : J p = 0) :
    oc_G k (oc_u J p (j + 1)) G gc (upd (upd gd (p * 2) 0) (p * 2 + 1) 0) := by
  intro w hw
  obtain ⟨h1, h2, h3, h4⟩ := h w hw
  by_cases e : w / 2 = p
  · have hG : G w = 0 := h3 (by rw [e]; exact hp)
    refine ⟨h1, h2, fun _ => hG, fun _ => ?_⟩
    rw [hG]
    by_cases e2 : w = p * 2 + 1
    · rw [e2, pk_us]
      exact nI_0.symm
    · rw [pk_un e2, show w = p * 2 by omega, pk_us]
      exact nI_0.symm
  · rw [oc_un e]
    refine ⟨h1, h2, h3, fun h0 => ?_⟩
    rw [pk_un (by omega), pk_un (by omega)]
    exact h4 h0
theorem oc_G_des {k : Nat} {J G : Nat → Nat} {gc gd : Nat → Int32} (h : oc_G k J G gc gd) (c : Nat) :
    oc_G k (oc_z J 3 c) (oc_z G 6 c) (oc_fl gc (c * 6) (c * 6 + 6) 0) gd := by
  intro w hw
  obtain ⟨h1, h2, h3, h4⟩ := h w hw
  by_cases e : w / 6 = c
  · have e2 : w / 2 / 3 = c := by omega
    rw [oc_zs e, oc_zs e2]
    exact ⟨(oc_fl_in (by omega) (by omega)).trans nI_0.symm, Nat.zero_le k, fun _ => rfl, fun z => absurd z (Nat.lt_irrefl 0)⟩
  · have e2 : ¬ w / 2 / 3 = c := by omega
    rw [oc_zn e, oc_zn e2, oc_fl_out (by omega)]
    exact ⟨h1, h2, h3, h4⟩
theorem oc_G_get {k : Nat} {J G : Nat → Nat} {gc gd : Nat → Int32} (h : oc_G k J G gc gd) {w : Nat} (hJ : 0 < J (w / 2)) :
    oc_G (k + 1) J (oc_u G w (G w + 1)) (upd gc w (nI (G w + 1))) (upd gd w (nI (G w + 1))) := by
  intro v hv
  obtain ⟨h1, h2, h3, h4⟩ := h v hv
  by_cases e : v = w
  · subst e
    rw [oc_us, pk_us, pk_us]
    exact ⟨rfl, by omega, fun z => by omega, fun _ => rfl⟩
  · rw [oc_un e, pk_un e, pk_un e]
    exact ⟨h1, by omega, h3, h4⟩
/-- the last eight bytes of each way: the component's ring, the reference's row -/
def oc_B (G : Nat → Nat) (gb lb : Nat → Int32) : Prop := ∀ w b, w < 12 → b < 8 → b < G w → gb (w * 8 + (G w - 1 - b) % 8) = lb (w * 8 + b)
theorem oc_B_des {G : Nat → Nat} {gb lb : Nat → Int32} (h : oc_B G gb lb) (c : Nat) : oc_B (oc_z G 6 c) gb lb := by
  intro w b hw hb hG
  by_cases e : w / 6 = c
  · rw [oc_zs e] at hG
    omega
  · rw [oc_zn e] at hG ⊢
    exact h w b hw hb hG
theorem oc_B_get {G : Nat → Nat} {gb lb : Nat → Int32} (h : oc_B G gb lb) {w : Nat} (v : Int32) :
    oc_B (oc_u G w (G w + 1)) (upd gb (w * 8 + G w % 8) v) (upd (oc_sr lb (w * 8) 0) (w * 8) v) := by
  intro x b hx hb hG
  by_cases e : x = w
  · subst e
    rw [oc_us] at hG ⊢
    by_cases e0 : b = 0
    · subst e0
      rw [show x * 8 + (G x + 1 - 1 - 0) % 8 = x * 8 + G x % 8 by omega, pk_us]
      exact pk_us.symm
    · rw [pk_un (by omega), pk_un (by omega)]
      have e1 : oc_sr lb (x * 8) 0 (x * 8 + b) = lb (x * 8 + b - 1) := if_pos (by omega)
      rw [e1, show x * 8 + b - 1 = x * 8 + (b - 1) by omega, ← h x (b - 1) hx (by omega) (by omega)]
      congr 1
      omega
  · rw [oc_un e] at hG ⊢
    rw [pk_un (by omega), pk_un (by omega)]
    have e1 : oc_sr lb (w * 8) 0 (x * 8 + b) = lb (x * 8 + b) := if_neg (by omega)
    rw [e1]
    exact h x b hx hb hG
/-- every cell is on a link of the road of a stream that is joined -/
def oc_L (J : Nat → Nat) (L : List oc_C) : Prop := ∀ x, x ∈ L → oc_ok x ∧ x.2.2.1 < J x.1
theorem oc_L_ok {J : Nat → Nat} {L : List oc_C} (h : oc_L J L) : ∀ x ∈ L, oc_ok x := fun x hx => (h x hx).1
theorem oc_L_open {J : Nat → Nat} {L : List oc_C} (h : oc_L J L) {p j : Nat} (hp : J p = 0) : oc_L (oc_u J p (j + 1)) L := by
  intro x hx
  obtain ⟨h1, h2⟩ := h x hx
  have e : x.1 ≠ p := fun z => by rw [z, hp] at h2; omega
  rw [oc_un e]
  exact ⟨h1, h2⟩
theorem oc_L_push {J : Nat → Nat} {L : List oc_C} (h : oc_L J L) {x : oc_C} (h1 : oc_ok x) (h2 : x.2.2.1 < J x.1) : oc_L J (L ++ [x]) := by
  intro y hy
  rcases List.mem_append.mp hy with hy | hy
  · exact h y hy
  · rw [List.mem_singleton.mp hy]
    exact ⟨h1, h2⟩
theorem oc_L_mid {J : Nat → Nat} {A B : List oc_C} {x : oc_C} (h : oc_L J (A ++ x :: B)) : oc_ok x ∧ x.2.2.1 < J x.1 := h x (by simp)
theorem oc_L_cut {J : Nat → Nat} {A B : List oc_C} {x : oc_C} (h : oc_L J (A ++ x :: B)) : oc_L J (A ++ B) := by
  intro y hy
  refine h y ?_
  rcases List.mem_append.mp hy with hy | hy
  · exact List.mem_append.mpr (Or.inl hy)
  · exact List.mem_append.mpr (Or.inr (List.mem_cons_of_mem _ hy))
theorem oc_L_set {J : Nat → Nat} {A B : List oc_C} {x : oc_C} (t : Int32) (h : oc_L J (A ++ x :: B)) : oc_L J (A ++ (x.1, x.2.1, x.2.2.1, x.2.2.2.1, t) :: B) := by
  intro y hy
  rcases List.mem_append.mp hy with hy | hy
  · exact h y (List.mem_append.mpr (Or.inl hy))
  · rcases List.mem_cons.mp hy with rfl | hy
    · have hm := oc_L_mid h
      exact hm
    · exact h y (List.mem_append.mpr (Or.inr (List.mem_cons_of_mem _ hy)))
theorem oc_L_des {J : Nat → Nat} {L : List oc_C} (h : oc_L J L) (c : Nat) : oc_L (oc_z J 3 c) (oc_D c L) := by
  intro x hx
  obtain ⟨h1, h2⟩ := oc_D_mem hx
  rw [oc_zn h2]
  exact h x h1
/-- what each way has under way -/
def oc_U (L : List oc_C) (uw : Nat → Int32) : Prop := ∀ w, w < 12 → uw w = nI (oc_n w L) ∧ oc_n w L ≤ 3
theorem oc_U_push {L : List oc_C} {uw : Nat → Int32} (h : oc_U L uw) {x : oc_C} {w : Nat} (hx : oc_wi x = w) (hn : oc_n w L < 3) : oc_U (L ++ [x]) (upd uw w (nI (oc_n w L + 1))) := by
  intro v hv
  rw [oc_n_app]
  by_cases e : v = w
  · subst e
    rw [if_pos hx, pk_us]
    exact ⟨rfl, by omega⟩
  · rw [if_neg (fun z => e (z.symm.trans hx)), pk_un e]
    exact h v hv
theorem oc_U_on {A B : List oc_C} {uw : Nat → Int32} {x y : oc_C} (h : oc_U (A ++ x :: B) uw) (e : oc_wi y = oc_wi x) : oc_U (A ++ B ++ [y]) uw := by
  intro v hv
  rw [oc_n_on A B e]
  exact h v hv
theorem oc_U_set {A B : List oc_C} {uw : Nat → Int32} {x y : oc_C} (h : oc_U (A ++ x :: B) uw) (e : oc_wi y = oc_wi x) : oc_U (A ++ y :: B) uw := by
  intro v hv
  rw [oc_n_set A B e]
  exact h v hv
theorem oc_U_get {A B : List oc_C} {uw : Nat → Int32} {x : oc_C} {w : Nat} (h : oc_U (A ++ x :: B) uw) (hx : oc_wi x = w) : oc_U (A ++ B) (upd uw w (nI (oc_n w (A ++ B)))) := by
  intro v hv
  have h1 := h v hv
  rw [oc_n_mid] at h1
  by_cases e : v = w
  · subst e
    rw [if_pos hx] at h1
    rw [pk_us]
    exact ⟨rfl, by omega⟩
  · rw [if_neg (fun z => e (z.symm.trans hx))] at h1
    rw [pk_un e]
    exact h1
theorem oc_U_des {L : List oc_C} {uw : Nat → Int32} (h : oc_U L uw) (hok : ∀ x ∈ L, oc_ok x) (c : Nat) : oc_U (oc_D c L) (oc_fl uw (c * 6) (c * 6 + 6) 0) := by
  intro w hw
  rw [oc_D_n L hok]
  by_cases e : w / 6 = c
  · rw [if_pos e]
    exact ⟨(oc_fl_in (by omega) (by omega)).trans nI_0.symm, by omega⟩
  · rw [if_neg e, oc_fl_out (by omega)]
    exact h w hw
theorem oc_U_len {L : List oc_C} {uw : Nat → Int32} (h : oc_U L uw) (hok : ∀ x ∈ L, oc_ok x) : L.length ≤ 36 := by
  have h0 := (h 0 (by omega)).2
  have h1 := (h 1 (by omega)).2
  have h2 := (h 2 (by omega)).2
  have h3 := (h 3 (by omega)).2
  have h4 := (h 4 (by omega)).2
  have h5 := (h 5 (by omega)).2
  have h6 := (h 6 (by omega)).2
  have h7 := (h 7 (by omega)).2
  have h8 := (h 8 (by omega)).2
  have h9 := (h 9 (by omega)).2
  have h10 := (h 10 (by omega)).2
  have h11 := (h 11 (by omega)).2
  have := oc_len L hok
  omega
theorem oc_U_q {L : List oc_C} {uw : Nat → Int32} (h : oc_U L uw) (hok : ∀ x ∈ L, oc_ok x) {q : Nat} (hq : q < 12) : (oc_Q q L).length ≤ 9 := by
  have e : q = (q / 6 * 3 + q / 2 % 3) * 2 + q % 2 := by omega
  have h1 := oc_qlen (c := q / 6) (l := q / 2 % 3) (b := q % 2) (by omega) (by omega) L hok
  rw [← e] at h1
  have g1 := (h (q / 6 * 6 + q % 2) (by omega)).2
  have g2 := (h (q / 6 * 6 + 2 + q % 2) (by omega)).2
  have g3 := (h (q / 6 * 6 + 4 + q % 2) (by omega)).2
  omega
/-- all of it but the reference's cells -/
def oc_K (k : Nat) (N J G : Nat → Nat) (L : List oc_C) (hc rh so sh uw gc gb ql xS xB xT rl jn gd lb : Nat → Int32) : Prop :=
  oc_H N hc ∧ oc_P N rh rl ∧ oc_J N J so sh jn ∧ oc_G k J G gc gd ∧ oc_B G gb lb ∧ oc_L J L ∧ oc_U L uw ∧ oc_X L ql xS xB xT
section
variable {k : Nat} {N J G : Nat → Nat} {L : List oc_C} {hc rh so sh uw gc gb ql xS xB xT rl jn gd lb : Nat → Int32}
theorem oc_K_up (m : Nat) (hm : k ≤ m) (h : oc_K k N J G L hc rh so sh uw gc gb ql xS xB xT rl jn gd lb) : oc_K m N J G L hc rh so sh uw gc gb ql xS xB xT rl jn gd lb := by
  obtain ⟨h1, h2, h3, h4, h5, h6, h7, h8⟩ := h
  exact ⟨h1, h2, h3, oc_G_up h4 hm, h5, h6, h7, h8⟩
theorem oc_K_ext (h : oc_K k N J G L hc rh so sh uw gc gb ql xS xB xT rl jn gd lb) {c r : Nat} (hc2 : c < 2) (hr : r < 5) (hn : N c < 3) :
    oc_K (k + 5) (oc_u N c (N c + 1)) J G L (upd hc c (nI (N c + 1))) (upd rh (c * 5 + r) 1) so sh uw gc gb ql xS xB xT (upd rl (c * 3 + N c) (nI r)) jn gd lb := by
  obtain ⟨h1, h2, h3, h4, h5, h6, h7, h8⟩ := h
  exact ⟨oc_H_u h1 c _ (by omega), oc_P_ext h1 h2 hc2 hr hn, oc_J_ext h3 c, oc_G_up h4 (by omega), h5, h6, h7, h8⟩
theorem oc_K_des (h : oc_K k N J G L hc rh so sh uw gc gb ql xS xB xT rl jn gd lb) (c : Nat) :
    oc_K (k + 5) (oc_u N c 0) (oc_z J 3 c) (oc_z G 6 c) (oc_D c L) (upd hc c 0) (oc_fl rh (c * 5) (c * 5 + 5) 0) (oc_fl so (c * 3) (c * 3 + 3) 0) sh (oc_fl uw (c * 6) (c * 6 + 6) 0) (oc_fl gc (c * 6) (c * 6 + 6) 0) gb (oc_fl ql (c * 6) (c * 6 + 6) 0) xS xB xT rl (oc_fl jn (c * 3) (c * 3 + 3) (-1)) gd lb := by
  obtain ⟨h1, h2, h3, h4, h5, h6, h7, h8⟩ := h
  have g1 := oc_H_u h1 c 0 (by omega)
  rw [nI_0] at g1
  exact ⟨g1, oc_P_des h2, oc_J_des h3 c, oc_G_up (oc_G_des h4 c) (by omega), oc_B_des h5 c, oc_L_des h6 c, oc_U_des h7 (oc_L_ok h6) c, oc_X_D h8 (oc_L_ok h6)⟩
theorem oc_K_open (h : oc_K k N J G L hc rh so sh uw gc gb ql xS xB xT rl jn gd lb) {p j : Nat} (hj : j < 3) (hN : N (p / 3) = j + 1) (hp : J p = 0) :
    oc_K (k + 5) N (oc_u J p (j + 1)) G L hc rh (upd so p 1) (upd sh p (nI j)) uw gc gb ql xS xB xT rl (upd jn p (nI j)) (upd (upd gd (p * 2) 0) (p * 2 + 1) 0) lb := by
  obtain ⟨h1, h2, h3, h4, h5, h6, h7, h8⟩ := h
  exact ⟨h1, h2, oc_J_open h3 hj hN, oc_G_up (oc_G_open h4 hp) (by omega), h5, oc_L_open h6 hp, h7, h8⟩
theorem oc_K_send (h : oc_K k N J G L hc rh so sh uw gc gb ql xS xB xT rl jn gd lb) {x : oc_C} {q w : Nat} (hx : oc_ok x) (hl : x.2.2.1 < J x.1) (hq : oc_qi x = q) (hw : oc_wi x = w) (hn : oc_n w L < 3) :
    (oc_Q q L).length < 9 ∧ L.length < 36 ∧ oc_K (k + 5) N J G (L ++ [x]) hc rh so sh (upd uw w (nI (oc_n w L + 1))) gc gb (upd ql q (nI ((oc_Q q L).length + 1))) (upd xS (q * 9 + (oc_Q q L).length) (nI (x.1 % 3))) (upd xB (q * 9 + (oc_Q q L).length) x.2.2.2.1) (upd xT (q * 9 + (oc_Q q L).length) x.2.2.2.2) rl jn gd lb := by
  obtain ⟨h1, h2, h3, h4, h5, h6, h7, h8⟩ := h
  have g6 := oc_L_push h6 hx hl
  have g7 := oc_U_push h7 hw hn
  have hq2 : q < 12 := by
    rw [← hq]
    unfold oc_qi
    obtain ⟨a, b, d⟩ := hx
    omega
  have a1 := oc_U_q g7 (oc_L_ok g6) hq2
  rw [oc_Q_app_s L hq, List.length_append, List.length_singleton] at a1
  have a2 := oc_U_len g7 (oc_L_ok g6)
  rw [List.length_append, List.length_singleton] at a2
  exact ⟨by omega, by omega, h1, h2, h3, oc_G_up h4 (by omega), h5, g6, g7, oc_X_push h8 hq2 hq (by omega)⟩
end
section
variable {k : Nat} {N J G : Nat → Nat} {A B : List oc_C} {x : oc_C} {hc rh so sh uw gc gb ql xS xB xT rl jn gd lb : Nat → Int32}
theorem oc_K_set (h : oc_K k N J G (A ++ x :: B) hc rh so sh uw gc gb ql xS xB xT rl jn gd lb) {q : Nat} (t : Int32) (hq : q < 12) (hx : oc_qi x = q) (hA : ∀ y ∈ A, oc_qi y ≠ q) :
    oc_K (k + 5) N J G (A ++ (x.1, x.2.1, x.2.2.1, x.2.2.2.1, t) :: B) hc rh so sh uw gc gb ql xS xB (upd xT (q * 9) t) rl jn gd lb := by
  obtain ⟨h1, h2, h3, h4, h5, h6, h7, h8⟩ := h
  exact ⟨h1, h2, h3, oc_G_up h4 (by omega), h5, oc_L_set t h6, oc_U_set h7 rfl, oc_X_set t h8 hq hx hA⟩
/-- a cell goes on to the next link -/
theorem oc_K_on (h : oc_K k N J G (A ++ x :: B) hc rh so sh uw gc gb ql xS xB xT rl jn gd lb) {q p l : Nat} (hq : q < 12) (hx : oc_qi x = q) (hA : ∀ y ∈ A, oc_qi y ≠ q)
    (hl : l < 3) (hJ : l < J x.1) (hp : oc_qi (x.1, x.2.1, l, x.2.2.2.1, x.2.2.2.2) = p) :
    (oc_Q p (A ++ B)).length < 9 ∧ p < 12 ∧
    (upd ql q (nI (oc_Q q (A ++ B)).length)) p = nI (oc_Q p (A ++ B)).length ∧
    oc_K (k + 5) N J G (A ++ B ++ [(x.1, x.2.1, l, x.2.2.2.1, x.2.2.2.2)]) hc rh so sh uw gc gb
      (upd (upd ql q (nI (oc_Q q (A ++ B)).length)) p (nI ((oc_Q p (A ++ B)).length + 1)))
      (upd (oc_sh xS (q * 9) (q * 9 + (oc_Q q (A ++ B)).length)) (p * 9 + (oc_Q p (A ++ B)).length) (nI (x.1 % 3)))
      (upd (oc_sh xB (q * 9) (q * 9 + (oc_Q q (A ++ B)).length)) (p * 9 + (oc_Q p (A ++ B)).length) x.2.2.2.1)
      (upd (oc_sh xT (q * 9) (q * 9 + (oc_Q q (A ++ B)).length)) (p * 9 + (oc_Q p (A ++ B)).length) x.2.2.2.2) rl jn gd lb := by
  obtain ⟨h1, h2, h3, h4, h5, h6, h7, h8⟩ := h
  have hm := oc_L_mid h6
  have hok : oc_ok (x.1, x.2.1, l, x.2.2.2.1, x.2.2.2.2) := ⟨hm.1.1, hm.1.2.1, hl⟩
  have g6 := oc_L_push (oc_L_cut h6) hok hJ
  have g7 : oc_U (A ++ B ++ [(x.1, x.2.1, l, x.2.2.2.1, x.2.2.2.2)]) uw := oc_U_on h7 rfl
  have hp2 : p < 12 := by
    rw [← hp]
    unfold oc_qi
    obtain ⟨a, b, d⟩ := hok
    dsimp only at a b d ⊢
    omega
  have a1 := oc_U_q g7 (oc_L_ok g6) hp2
  rw [oc_Q_app_s (A ++ B) hp, List.length_append, List.length_singleton] at a1
  have g8 := oc_X_cut h8 hq hx hA
  exact ⟨by omega, hp2, (g8 p hp2).1, h1, h2, h3, oc_G_up h4 (by omega), h5, g6, g7, oc_X_push g8 hp2 hp (by omega)⟩
/-- a cell arrives -/
theorem oc_K_get (h : oc_K k N J G (A ++ x :: B) hc rh so sh uw gc gb ql xS xB xT rl jn gd lb) {q w : Nat} (hq : q < 12) (hx : oc_qi x = q) (hA : ∀ y ∈ A, oc_qi y ≠ q) (hw : oc_wi x = w) (v : Int32) :
    oc_K (k + 5) N J (oc_u G w (G w + 1)) (A ++ B) hc rh so sh (upd uw w (nI (oc_n w (A ++ B)))) (upd gc w (nI (G w + 1))) (upd gb (w * 8 + G w % 8) v)
      (upd ql q (nI (oc_Q q (A ++ B)).length)) (oc_sh xS (q * 9) (q * 9 + (oc_Q q (A ++ B)).length)) (oc_sh xB (q * 9) (q * 9 + (oc_Q q (A ++ B)).length)) (oc_sh xT (q * 9) (q * 9 + (oc_Q q (A ++ B)).length))
      rl jn (upd gd w (nI (G w + 1))) (upd (oc_sr lb (w * 8) 0) (w * 8) v) := by
  obtain ⟨h1, h2, h3, h4, h5, h6, h7, h8⟩ := h
  have hm := oc_L_mid h6
  have e : w / 2 = x.1 := by
    rw [← hw]
    unfold oc_wi
    obtain ⟨a, b, d⟩ := hm.1
    omega
  have hJ : 0 < J (w / 2) := by
    rw [e]
    omega
  exact ⟨h1, h2, h3, oc_G_up (oc_G_get h4 hJ) (by omega), oc_B_get h5 v, oc_L_cut h6, oc_U_get h7 hw, oc_X_cut h8 hq hx hA⟩
/-- a changed cell takes its circuit down -/
theorem oc_K_down (h : oc_K k N J G (A ++ x :: B) hc rh so sh uw gc gb ql xS xB xT rl jn gd lb) {q c : Nat} (hq : q < 12) (hx : oc_qi x = q) (hA : ∀ y ∈ A, oc_qi y ≠ q) (hc2 : x.1 / 3 = c) :
    oc_K (k + 5) (oc_u N c 0) (oc_z J 3 c) (oc_z G 6 c) (oc_D c (A ++ B)) (upd hc c 0) (oc_fl rh (c * 5) (c * 5 + 5) 0) (oc_fl so (c * 3) (c * 3 + 3) 0) sh (oc_fl uw (c * 6) (c * 6 + 6) 0) (oc_fl gc (c * 6) (c * 6 + 6) 0) gb
      (oc_fl (upd ql q (nI (oc_Q q (A ++ B)).length)) (c * 6) (c * 6 + 6) 0) (oc_sh xS (q * 9) (q * 9 + (oc_Q q (A ++ B)).length)) (oc_sh xB (q * 9) (q * 9 + (oc_Q q (A ++ B)).length)) (oc_sh xT (q * 9) (q * 9 + (oc_Q q (A ++ B)).length)) rl (oc_fl jn (c * 3) (c * 3 + 3) (-1)) gd lb := by
  have g := oc_K_des h c
  rw [oc_D_mid A B hc2] at g
  obtain ⟨h1, h2, h3, h4, h5, h6, h7, h8⟩ := h
  obtain ⟨g1, g2, g3, g4, g5, g6, g7, g8⟩ := g
  exact ⟨g1, g2, g3, g4, g5, g6, g7, oc_X_D (oc_X_cut h8 hq hx hA) (oc_L_ok (oc_L_cut h6))⟩
end
