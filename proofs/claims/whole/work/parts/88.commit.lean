/-! A commit, whole or torn. -/
theorem smb_w {P D : Nat → Int32} {w : Nat} (h : smb P D (w / 8)) : D w = P w := by
  have := h (w % 8) (by omega)
  rw [show 8 * (w / 8) + w % 8 = w by omega] at this
  exact this
theorem q_sm1 {t : Option Nat} (h : fok t 1) (hb : ∀ k, t = some k → k < 2 ^ 31) {m mk wr : Int32} (hm : m = 0 ∨ m = 1) : f_D_setMark m mk wr (fuI t) = some (1, m, wr + 1, fuI (fsb t 1)) := by
  unfold f_D_setMark f_D_setMark_0
  simp only [q_cw1 h hb, Option.bind_some, p10, if_false, if_pos hm]
theorem q_sm0 {m mk wr : Int32} : f_D_setMark m mk wr (fuI (some 0)) = some (0, mk, wr, fuI (some 0)) := rfl
theorem cmk_0 {P D : Nat → Int32} {x : Int32} (hx : cmk P D x) (h : ∀ b, 29 ≤ b → b < 32 → bt x b = false) : x = 0 ↔ cch P D 0 29 = 0 := by
  have key : ∀ d b, b + d = 29 → (cch P D b d = 0 ↔ ∀ k, b ≤ k → k < 29 → smb P D k) := by
    intro d
    induction d with
    | zero => intro b hb; exact ⟨fun _ k h1 h2 => by omega, fun _ => rfl⟩
    | succ d ih =>
      intro b hb
      have := ih (b + 1) (by omega)
      have ec : cch P D b (d + 1) = (if smb P D b then 0 else 1) + cch P D (b + 1) d := rfl
      rw [ec]
      by_cases hs : smb P D b
      · rw [if_pos hs, Nat.zero_add, this]
        exact ⟨fun h k h1 h2 => by
          by_cases hk : k = b
          · rw [hk]; exact hs
          · exact h k (by omega) h2, fun h k h1 h2 => h k (by omega) h2⟩
      · rw [if_neg hs]
        exact ⟨fun h => by omega, fun h => absurd (h b (Nat.le_refl _) (by omega)) hs⟩
  rw [key 29 0 rfl, pb_z]
  constructor
  · intro hz k _ hk
    have := hx k hk
    rw [hz k (by omega)] at this
    by_cases hs : smb P D k
    · exact hs
    · rw [decide_eq_false hs] at this; cases this
  · intro hz i hi
    by_cases h3 : i < 29
    · rw [hx i h3, decide_eq_true (hz i (Nat.zero_le _) h3)]; rfl
    · exact h i (by omega) hi
theorem q_cbm (P D : Nat → Int32) : ∃ x, f_D_changedBlocks P D = some x ∧ cmk P D x ∧ (x = 0 ↔ cch P D 0 29 = 0) := by
  obtain ⟨x, x1, x2⟩ := q_cb P D
  have hc : cmk P D x := fun b hb => by
    by_cases hs : smb P D b
    · rw [decide_eq_true hs]
      cases hx : bt x b with
      | false => rfl
      | true => exact absurd hs ((x2 b (by omega)).mp hx).2
    · rw [decide_eq_false hs]
      exact (x2 b (by omega)).mpr ⟨hb, hs⟩
  refine ⟨x, x1, hc, cmk_0 hc (fun b h1 h2 => ?_)⟩
  cases hx : bt x b with
  | false => rfl
  | true => exact absurd ((x2 b h2).mp hx).1 (by omega)
theorem q_cmA {P D J : Nat → Int32} {jn wr a : Int32} (h : cch P D 0 29 = 0) : f_D_commit D jn 0 wr P J a = some (1, jn, 0, wr, P, J, a) := by
  obtain ⟨x, x1, -, x2⟩ := q_cbm P D
  unfold f_D_commit f_D_commit_0
  rw [x1, Option.bind_some, if_pos (x2.mpr h)]
/-- the journal and the mark -/
theorem q_cmJ {P D J : Nat → Int32} {x jn wr : Int32} {t : Option Nat} (hx : cmk P D x) (ht : ∀ k, t = some k → k < 2 ^ 31) (hk : fok t (cch P D 0 29)) : ∃ jn' J', f_D_fillJournal D x jn wr J (fuI t) = some (1, jn', wr + nI (cch P D 0 29), J', fuI (fsb t (cch P D 0 29))) ∧ cmk P D jn' ∧ ∀ w, w < 232 → ¬ smb P D (w / 8) → J' w = D w := by
  obtain ⟨jn', J', g1, g2, g3⟩ := q_fj1 hx 29 0 rfl 300 (by omega) 0 wr J t ht hk
  refine ⟨jn', J', g1, fun b hb => ?_, fun w hw hs => ?_⟩
  · rw [g2 b hb, b_0, decide_eq_true (Nat.zero_le _), Bool.false_or, Bool.true_and]
  · rw [g3 w hw, if_pos ⟨Nat.zero_le _, hs⟩]
theorem fsb_s (k c : Nat) : fsb (some k) c = some (k - c) := rfl
theorem n_1a (c d : Nat) : nI c + ((1 : Int32) + nI d) = nI (c + (1 + d)) := by rw [show (1 : Int32) = nI 1 from rfl, nI_add, nI_add]
theorem n_1c (c : Nat) : nI c + ((1 : Int32) + (nI c + 1)) = nI (c + (1 + (c + 1))) := by rw [nI_1, n_1a]
theorem q_cmB {P D J : Nat → Int32} {jn wr : Int32} {t : Option Nat} (ht : ∀ k, t = some k → k < 2 ^ 31) (h0 : cch P D 0 29 ≠ 0) (hk : fok t (2 * cch P D 0 29 + 2)) : ∃ jn' J' P', f_D_commit D jn 0 wr P J (fuI t) = some (1, jn', 0, wr + nI (2 * cch P D 0 29 + 2), P', J', fuI (fsb t (2 * cch P D 0 29 + 2))) ∧ eqd P' D := by
  obtain ⟨x, x1, x2, x3⟩ := q_cbm P D
  obtain ⟨jn', J', j1, j2, j3⟩ := q_cmJ (jn := jn) (wr := wr) (J := J) x2 ht (fun k h => by have := hk k h; omega)
  generalize hc : cch P D 0 29 = c at *
  have f1 : fok (fsb t c) 1 := fun k h => by
    cases t with
    | none => cases h
    | some m => have := hk m rfl; have h2 : m - c = k := Option.some.inj h; omega
  have f2 : fok (fsb (fsb t c) 1) c := fun k h => by
    cases t with
    | none => cases h
    | some m => have := hk m rfl; have h2 : m - c - 1 = k := Option.some.inj h; omega
  have f3 : fok (fsb (fsb (fsb t c) 1) c) 1 := fun k h => by
    cases t with
    | none => cases h
    | some m => have := hk m rfl; have h2 : m - c - 1 - c = k := Option.some.inj h; omega
  obtain ⟨Q, q1, q2⟩ := q_fp1 (J := J') j2 29 0 rfl 300 (by omega) (wr + nI c + 1) P (fsb (fsb t c) 1) (fbd (fbd ht c) 1) (by rw [hc]; exact f2)
  rw [hc] at q1
  replace q1 : f_D_fillPlaces jn' J' (wr + nI c + 1) P (fuI (fsb (fsb t c) 1)) = some (1, wr + nI c + 1 + nI c, Q, fuI (fsb (fsb (fsb t c) 1) c)) := q1
  refine ⟨jn', J', Q, ?_, fun w hw => ?_⟩
  · unfold f_D_commit f_D_commit_0
    have hx0 : (x = 0) = False := eq_false (fun z => h0 (x3.mp z))
    simp only [x1, Option.bind_some, hx0, if_false, j1, p10, q_sm1 f1 (fbd ht c) (Or.inr rfl), q1, q_sm1 f3 (fbd (fbd (fbd ht c) 1) c) (Or.inl rfl)]
    rw [fsb_sb, fsb_sb, fsb_sb, show c + (1 + (c + 1)) = 2 * c + 2 by omega, Int32.add_assoc, Int32.add_assoc, Int32.add_assoc, n_1c c, show c + (1 + (c + 1)) = 2 * c + 2 by omega]
  · rw [q2 w hw]
    by_cases hs : smb P D (w / 8)
    · rw [if_neg (fun z => z.2 hs), smb_w hs]
    · rw [if_pos ⟨Nat.zero_le _, hs⟩, j3 w hw hs]
theorem q_rc0 {P E J : Nat → Int32} {jn : Int32} : ∃ Q E', f_D_recover jn J 0 P E = some (0, Q, E') ∧ eqd E' Q ∧ Q = P := by
  obtain ⟨E', e1, e2, -⟩ := q_drop P E
  refine ⟨P, E', ?_, e2, rfl⟩
  unfold f_D_recover f_D_recover_0
  rw [if_pos rfl, e1]
  rfl
theorem q_rc1 {P D E J Q : Nat → Int32} {jn : Int32} (hj : cmk P D jn) (h1 : ∀ w, w < 232 → ¬ smb P D (w / 8) → J w = D w) (h2 : ∀ w, w < 232 → smb P D (w / 8) → Q w = P w) : ∃ R E', f_D_recover jn J 1 Q E = some (0, R, E') ∧ eqd E' R ∧ eqd R D := by
  obtain ⟨R, E', r1, r2, r3⟩ := q_rcN (J := J) (y0 := 1) (E := E) hj 29 0 rfl 300 (by omega) Q
  refine ⟨R, E', r1, r3, fun w hw => ?_⟩
  rw [r2 w hw]
  by_cases hs : smb P D (w / 8)
  · rw [if_neg (fun z => z.2 hs), h2 w hw hs, smb_w hs]
  · rw [if_pos ⟨Nat.zero_le _, hs⟩, h1 w hw hs]
theorem q_cmC {P D J : Nat → Int32} {jn wr : Int32} {k : Nat} (hk : k < 2 ^ 31) (h0 : cch P D 0 29 ≠ 0) (hc : k < 2 * cch P D 0 29 + 2) : ∃ jn' mk' J' P' a', f_D_commit D jn 0 wr P J (nI k) = some (0, jn', mk', wr + nI k, P', J', a') ∧
    ∀ E, ∃ Q E', f_D_recover jn' J' mk' P' E = some (0, Q, E') ∧ eqd E' Q ∧ (k ≤ cch P D 0 29 → eqd Q P) ∧ (cch P D 0 29 < k → eqd Q D) := by
  obtain ⟨x, x1, x2, x3⟩ := q_cbm P D
  have hx0 : (x = 0) = False := eq_false (fun z => h0 (x3.mp z))
  have ht : ∀ j, some k = some j → j < 2 ^ 31 := fun j h => by have := Option.some.inj h; omega
  by_cases h1 : k < cch P D 0 29
  · obtain ⟨jn', J', j1⟩ := q_fj0 x2 29 0 rfl 300 (by omega) 0 wr J k hk h1
    replace j1 : f_D_fillJournal D x jn wr J (nI k) = some (0, jn', wr + nI k, J', fuI (some 0)) := j1
    refine ⟨jn', 0, J', P, fuI (some 0), ?_, fun E => ?_⟩
    · unfold f_D_commit f_D_commit_0
      simp only [x1, Option.bind_some, hx0, if_false, j1, if_true]
    · obtain ⟨Q, E', e1, e2, rfl⟩ := q_rc0 (P := P) (E := E) (J := J') (jn := jn')
      exact ⟨Q, E', e1, e2, fun _ _ _ => rfl, fun h => by omega⟩
  · obtain ⟨jn', J', j1, j2, j3⟩ := q_cmJ (t := some k) (jn := jn) (wr := wr) (J := J) x2 ht (fun j h => by have := Option.some.inj h; omega)
    generalize hcc : cch P D 0 29 = c at *
    rw [show fsb (some k) c = some (k - c) from rfl] at j1
    replace j1 : f_D_fillJournal D x jn wr J (nI k) = some (1, jn', wr + nI c, J', fuI (some (k - c))) := j1
    by_cases h2 : k = c
    · refine ⟨jn', 0, J', P, fuI (some 0), ?_, fun E => ?_⟩
      · unfold f_D_commit f_D_commit_0
        rw [show k - c = 0 by omega] at j1
        simp only [x1, Option.bind_some, hx0, if_false, j1, p10, q_sm0, if_true]
        rw [h2]
      · obtain ⟨Q, E', e1, e2, rfl⟩ := q_rc0 (P := P) (E := E) (J := J') (jn := jn')
        exact ⟨Q, E', e1, e2, fun _ _ _ => rfl, fun h => by omega⟩
    · have s1 := q_sm1 (t := some (k - c)) (fun j h => by have := Option.some.inj h; omega) (fun j h => by have := Option.some.inj h; omega) (m := 1) (mk := 0) (wr := wr + nI c) (Or.inr rfl)
      rw [show fsb (some (k - c)) 1 = some (k - c - 1) from rfl] at s1
      by_cases h3 : k - c - 1 < c
      · obtain ⟨Q, q1, q2⟩ := q_fp0 (J := J') j2 29 0 rfl 300 (by omega) (wr + nI c + 1) P (k - c - 1) (by omega) (by rw [hcc]; exact h3)
        replace q1 : f_D_fillPlaces jn' J' (wr + nI c + 1) P (fuI (some (k - c - 1))) = some (0, wr + nI c + 1 + nI (k - c - 1), Q, fuI (some 0)) := q1
        refine ⟨jn', 1, J', Q, fuI (some 0), ?_, fun E => ?_⟩
        · unfold f_D_commit f_D_commit_0
          simp only [x1, Option.bind_some, hx0, if_false, j1, p10, s1, q1, if_true]
          rw [Int32.add_assoc, Int32.add_assoc, n_1a c, show c + (1 + (k - c - 1)) = k by omega]
        · obtain ⟨R, E', e1, e2, e3⟩ := q_rc1 (E := E) j2 j3 q2
          exact ⟨R, E', e1, e2, fun h => by omega, fun _ => e3⟩
      · obtain ⟨Q, q1, q2⟩ := q_fp1 (J := J') j2 29 0 rfl 300 (by omega) (wr + nI c + 1) P (some (k - c - 1)) (fun j h => by have := Option.some.inj h; omega) (fun j h => by have := Option.some.inj h; rw [hcc]; omega)
        have hz : fsb (some (k - c - 1)) c = some 0 := by
          rw [fsb_s]
          exact congrArg some (by omega)
        rw [hcc, hz] at q1
        replace q1 : f_D_fillPlaces jn' J' (wr + nI c + 1) P (fuI (some (k - c - 1))) = some (1, wr + nI c + 1 + nI c, Q, fuI (some 0)) := q1
        refine ⟨jn', 1, J', Q, fuI (some 0), ?_, fun E => ?_⟩
        · unfold f_D_commit f_D_commit_0
          simp only [x1, Option.bind_some, hx0, if_false, j1, p10, s1, q1, q_sm0, if_true]
          rw [Int32.add_assoc, Int32.add_assoc, n_1a c, show c + (1 + c) = k by omega]
        · obtain ⟨R, E', e1, e2, e3⟩ := q_rc1 (E := E) (Q := Q) j2 j3 (fun w hw hs => by rw [q2 w hw, if_neg (fun z => z.2 hs)])
          exact ⟨R, E', e1, e2, fun h => by omega, fun _ => e3⟩
/-! breakDown, with areas that recover -/
def pBs (x x' : jv_ar) : Prop := x'.1 = x.1 ∧ (∀ j, j < 4 → x'.2.1 j = -1) ∧ f_D_recover x.2.2.2.2.2.1 x.2.2.2.2.1 x.2.2.2.2.2.2.1 x.2.2.1 x.2.2.2.1 = some (0, x'.2.2.1, x'.2.2.2.1) ∧ x'.2.2.2.2.2.2.1 = 0 ∧ x'.2.2.2.2.2.2.2 = x.2.2.2.2.2.2.2
def pRc (x : jv_ar) : Prop := ∃ P D, f_D_recover x.2.2.2.2.2.1 x.2.2.2.2.1 x.2.2.2.2.2.2.1 x.2.2.1 x.2.2.2.1 = some (0, P, D)
theorem q_brkN {n : Nat} (hn : n ≤ 6) {mUs : Nat → Int32} (hz : ∀ j, 4 * n ≤ j → j < 24 → mUs j = 0) (y : Int32) : ∀ d i, i + d = 6 → ∀ f, d < f → ∀ (c : Int32) (ars : Nat → jv_ar), (∀ a, a < n → i ≤ a → pRc (ars a)) → (∀ a, a < n → i ≤ a → ∀ j, j < 4 → ∃ u, u ≤ 4 ∧ mUs (4 * a + j) = nI u ∧ (ars a).2.1 j = nI u - 1) →
    ∃ ars', jv_fx (f_V_breakDown_4 n y) f (c, nI i, ars) = some (c + nI (pcnt mUs (4 * i) (4 * d)), (-1 : Int32), ars') ∧ (∀ a, a < n → i ≤ a → pBs (ars a) (ars' a)) ∧ ∀ a, a < i → ars' a = ars a := by
  intro d
  induction d with
  | zero =>
    intro i hi f hf c ars hmk hu
    obtain ⟨f, rfl⟩ : ∃ f', f = f' + 1 := ⟨f - 1, by omega⟩
    rw [jv_fx_s]
    unfold f_V_breakDown_4
    have h6 : ((6 : Int32) ≤ nI i) = (6 ≤ i) := q_le (a := 6) (by omega) (by omega)
    simp only [h6, if_pos (show 6 ≤ i by omega)]
    refine ⟨ars, ?_, fun a h1 h2 => by omega, fun _ _ => rfl⟩
    rw [show pcnt mUs (4 * i) (4 * 0) = 0 from rfl, show nI 0 = (0 : Int32) from rfl, Int32.add_zero]
  | succ d ih =>
    intro i hi f hf c ars hmk hu
    obtain ⟨f, rfl⟩ : ∃ f', f = f' + 1 := ⟨f - 1, by omega⟩
    have hp : pcnt mUs (4 * i) (4 * (d + 1)) = pcnt mUs (4 * i) 4 + pcnt mUs (4 * (i + 1)) (4 * d) := by
      rw [show 4 * (d + 1) = 4 + 4 * d by omega, pcnt_add, show 4 * i + 4 = 4 * (i + 1) by omega]
    have h6 : ((6 : Int32) ≤ nI i) = (6 ≤ i) := q_le (a := 6) (by omega) (by omega)
    rw [jv_fx_s]
    by_cases hin : i < n
    · obtain ⟨U', f1, f2⟩ := q_fill (-1) (ars i).2.1
      have hc := q_cnt (a := i) (hu i hin (Nat.le_refl _))
      have hd : f_A_dismissAll (ars i).2.1 = some U' := by
        unfold f_A_dismissAll f_A_dismissAll_0
        rw [f1]
        rfl
      obtain ⟨P', D', hr⟩ := hmk i hin (Nat.le_refl _)
      have key : ∃ A21 : Nat → jv_ar, f_V_breakDown_4 n y (jv_fx (f_V_breakDown_4 n y) f) (c, nI i, ars) = jv_fx (f_V_breakDown_4 n y) f (c + nI (pcnt mUs (4 * i) 4), nI (i + 1), A21) ∧ pBs (ars i) (A21 i) ∧ ∀ a, a ≠ i → A21 a = ars a := by
        refine ⟨va_up (va_up ars i ((ars i).1, U', (ars i).2.2)) i ((ars i).1, U', P', D', (ars i).2.2.2.2.1, (ars i).2.2.2.2.2.1, 0, (ars i).2.2.2.2.2.2.2), ?_, ?_, fun a ha => ?_⟩
        · generalize jv_fx (f_V_breakDown_4 n y) f = kk
          unfold f_V_breakDown_4
          simp only [h6, if_neg (show ¬ 6 ≤ i by omega), q_gi (n := 6) (k := i) (by omega) (by omega), Option.bind_some, if_pos hin, hc, hd, jv_lt, va_up_self, hr, nI_1]
        · rw [va_up_self]
          exact ⟨rfl, f2, hr, rfl, rfl⟩
        · rw [va_up_ne _ _ ha, va_up_ne _ _ ha]
      obtain ⟨A21, k1, k2, k3⟩ := key
      obtain ⟨ars', r1, r2, r3⟩ := ih (i + 1) (by omega) f (by omega) (c + nI (pcnt mUs (4 * i) 4)) A21 (fun a h1 h2 => by rw [k3 a (by omega)]; exact hmk a h1 (by omega)) (fun a h1 h2 => by rw [k3 a (by omega)]; exact hu a h1 (by omega))
      refine ⟨ars', ?_, fun a h1 h2 => ?_, fun a h => ?_⟩
      · rw [k1, r1, hp, Int32.add_assoc, nI_add]
      · by_cases h : a = i
        · subst h
          rw [r3 a (by omega)]
          exact k2
        · rw [← k3 a h]
          exact r2 a h1 (by omega)
      · rw [r3 a (by omega), k3 a (by omega)]
    · obtain ⟨ars', r1, r2, r3⟩ := ih (i + 1) (by omega) f (by omega) c ars (fun a h1 h2 => hmk a h1 (by omega)) (fun a h1 h2 => hu a h1 (by omega))
      refine ⟨ars', ?_, fun a h1 h2 => by omega, fun a h => r3 a (by omega)⟩
      have k1 : f_V_breakDown_4 n y (jv_fx (f_V_breakDown_4 n y) f) (c, nI i, ars) = jv_fx (f_V_breakDown_4 n y) f (c, nI (i + 1), ars) := by
        generalize jv_fx (f_V_breakDown_4 n y) f = kk
        unfold f_V_breakDown_4
        simp only [h6, if_neg (show ¬ 6 ≤ i by omega), q_gi (n := 6) (k := i) (by omega) (by omega), Option.bind_some, if_neg hin, nI_1]
      rw [k1, r1, hp, pcnt_0 mUs 4 (4 * i) (fun j h1 h2 => hz j (by omega) (by omega)), Nat.zero_add]
theorem q_brk {n : Nat} (hn : n ≤ 6) {mUs : Nat → Int32} {ars : Nat → jv_ar} (y : Int32) (hU : pU n ars mUs) (hmk : ∀ a, a < n → pRc (ars a)) : ∃ ars', f_V_breakDown n y ars = some (nI (pcnt mUs 0 24), (-1 : Int32), ars') ∧ ∀ a, a < n → pBs (ars a) (ars' a) := by
  obtain ⟨ars', h1, h2, -⟩ := q_brkN hn hU.2 y 6 0 rfl 300 (by omega) 0 ars (fun a h _ => hmk a h) (fun a h _ j hj => hU.1 a j h hj)
  refine ⟨ars', ?_, fun a h => h2 a h (Nat.zero_le _)⟩
  unfold f_V_breakDown f_V_breakDown_0
  rw [show nI 0 = (0 : Int32) from rfl, Int32.zero_add] at h1
  exact h1
