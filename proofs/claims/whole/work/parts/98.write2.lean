/-! write: both sides, the law's case -/
theorem kpT.upd {D D' : Nat → Int32} (h : kpT D D') {x : Nat} {v : Int32} (hx : ∀ j w, j < 8 → w < 3 → x ≠ 8 + 8 * j + w) : kpT D (upd D' x v) := fun j w hj hw => by
  rw [q_updN (fun z => hx j w hj hw z.symm)]; exact h j w hj hw
theorem kpT.tk {D D' : Nat → Int32} (h : kpT D D') (b : Nat) : kpT D (tkD D' b) := fun j w hj hw => by
  rw [tkD_n (by omega) (by omega)]; exact h j w hj hw
theorem isLoc.nt {D : Nat → Int32} {l : Nat} (h : isLoc D l) : ∀ j w, j < 8 → w < 3 → l ≠ 8 + 8 * j + w := fun j w hj hw z => by
  rcases h with ⟨i, w', g⟩ | ⟨i, q, w', g⟩ <;> omega
def zsz (A z : Nat) : Nat := if A + 1 ≤ z then z else A + 1
section
variable {mar fu t v : Int32} {mLb mUs mWr mDk : Nat → Int32} {a i A : Nat}
abbrev wFin (fu t : Int32) (mUs mWr mDk : Nat → Int32) (a : Nat) (ans : Int32) (C : Nat → Int32) : Option (Int32 × Int32 × Int32 × (Nat → Int32) × (Nat → Int32) × (Nat → Int32) × (Nat → Int32)) := (f_M_finish C (nI a) ans fu mUs mWr mDk).bind fun x37 => some (x37.1, t, x37.2.1, x37.2.2.1, x37.2.2.2.1, x37.2.2.2.2, C)
abbrev wEnd (D : Nat → Int32) (p A i z : Nat) (v : Int32) : Nat → Int32 := upd (upd D (64 + 8 * p + A % 8) v) (8 + 8 * i + 3) (nI (zsz A z))
theorem q_w200 {C : Nat → Int32} (hi : i < 8) (hA : A < 80) {l p z : Nat} (hl : l < 232) (hp : C l = nI p) (h1 : 1 ≤ p) (h2 : p ≤ 20) (hz : C (8 + 8 * i + 3) = nI z) (hz2 : z ≤ 80) : f_M_write_200 mar mLb (nI A) v (nI a) (nI i) (nI l) t fu mUs mWr mDk C = wFin fu t mUs mWr mDk a (nI (zsz A z)) (wEnd C p A i z v) := by
  have ed : nI A / (8 : Int32) = nI (A / 8) := q_div (b := 8) (by omega) (by omega) (by omega)
  have em : nI A - nI A / (8 : Int32) * (8 : Int32) = nI (A % 8) := q_mod (b := 8) (by omega) (by omega) (by omega)
  have g3 : jv_ga (upd C (64 + 8 * p + A % 8) v) 232 (nI (8 + 8 * i + 3)) = some (nI z) := by rw [q_ga (by omega) (by omega), q_updN (by omega), hz]
  have g272 : ∀ s : Nat, f_M_write_272 mar mLb (nI a) (nI i) (nI s) (nI (8 + 8 * i + 3)) t fu mUs mWr mDk (upd C (64 + 8 * p + A % 8) v) = wFin fu t mUs mWr mDk a (nI s) (upd (upd C (64 + 8 * p + A % 8) v) (8 + 8 * i + 3) (nI s)) := fun s => by
    unfold f_M_write_272
    rw [q_sa (by omega) (by omega), Option.bind_some, show (3 : Int32) = nI 3 from rfl, e_8i, q_ga (by omega) (by omega), q_updS, Option.bind_some]
  unfold f_M_write_200
  rw [q_ga hl (by omega), hp, Option.bind_some, em, e_64, q_sa (by omega) (by omega), Option.bind_some, show (3 : Int32) = nI 3 from rfl, e_8i, g3, Option.bind_some, nI_1]
  show _ = wFin fu t mUs mWr mDk a (nI (zsz A z)) (upd (upd C (64 + 8 * p + A % 8) v) (8 + 8 * i + 3) (nI (zsz A z)))
  by_cases h : A + 1 ≤ z
  · rw [if_pos (nI_le h (by omega)), show zsz A z = z from if_pos h, g272]
  · rw [if_neg (nI_ge (by omega) (by omega)), show zsz A z = A + 1 from if_neg h, g272]
theorem q_w175a {C : Nat → Int32} {l p : Nat} (hl : l < 232) (hp : C l = nI p) (h1 : 1 ≤ p) (h2 : p ≤ 20) : f_M_write_175 mar mLb (nI A) v (nI a) (nI i) (nI l) t fu mUs mWr mDk C = f_M_write_200 mar mLb (nI A) v (nI a) (nI i) (nI l) t fu mUs mWr mDk C := by
  unfold f_M_write_175
  rw [q_ga hl (by omega), hp, Option.bind_some, if_neg (nI_ne0 (by omega) (by omega))]
theorem q_w175b {C : Nat → Int32} {l b : Nat} (hl : l < 232) (hp : C l = 0) (hb : fstB (C 0) b) : f_M_write_175 mar mLb (nI A) v (nI a) (nI i) (nI l) t fu mUs mWr mDk C = f_M_write_200 mar mLb (nI A) v (nI a) (nI i) (nI l) t fu mUs mWr mDk (upd (tkD C b) l (nI (b + 1))) := by
  unfold f_M_write_175
  rw [q_ga hl (by omega), hp, Option.bind_some, if_pos rfl, q_mtb hb, Option.bind_some, q_sa hl (by omega), Option.bind_some]
/-- the class's store, once there is a block -/
theorem q_sto {D D1 : Nat → Int32} (hi : i < 8) (hA : A < 80) {p z : Nat} (h1 : 1 ≤ p) (h2 : p ≤ 20) (hz : D1 (8 + 8 * i + 3) = nI z) (hz2 : z ≤ 80) (ht : f_C_takenBlock (nI i) (nI (A / 8)) D = some (nI (8 + p), D1)) : f_C_store (nI i) (nI A) v D = some (1, wEnd D1 p A i z v) := by
  have ed : nI A / (8 : Int32) = nI (A / 8) := q_div (b := 8) (by omega) (by omega) (by omega)
  have em : nI A - nI A / (8 : Int32) * (8 : Int32) = nI (A % 8) := q_mod (b := 8) (by omega) (by omega) (by omega)
  rw [ed] at em
  have hp := q_put (D := D1) (b := 8 + p) (w := A % 8) (v := v) (by omega)
  rw [show (8 + p) * 8 + A % 8 = 64 + 8 * p + A % 8 by omega] at hp
  have hs : f_C_sizeOf (upd D1 (64 + 8 * p + A % 8) v) (nI i) = some (nI z) := by rw [q_sz hi, q_updN (by omega), hz]
  have hw := q_piw (D := upd D1 (64 + 8 * p + A % 8) v) (j := i) (w := 3) (v := nI (A + 1)) hi (by omega)
  rw [show nI 3 = (3 : Int32) from rfl] at hw
  unfold f_C_store f_C_store_0
  simp only [ed, em, ht, Option.bind_some, nI_m1 (show 8 + p < 2 ^ 31 by omega), if_false, hp, hs, nI_1, hw, q_lt (show A < 2 ^ 31 by omega) (show z < 2 ^ 31 by omega)]
  unfold wEnd zsz
  by_cases h : A < z
  · rw [if_pos h, if_pos (by omega), upd_id (l := 8 + 8 * i + 3) (v := nI z)]
    rw [q_updN (by omega), hz]
  · rw [if_neg h, if_neg (by omega)]
theorem q_sto0 {D D1 : Nat → Int32} (hA : A < 80) (ht : f_C_takenBlock (nI i) (nI (A / 8)) D = some (-1, D1)) : f_C_store (nI i) (nI A) v D = some (0, D1) := by
  have ed : nI A / (8 : Int32) = nI (A / 8) := q_div (b := 8) (by omega) (by omega) (by omega)
  unfold f_C_store f_C_store_0
  simp only [ed, ht, Option.bind_some, if_true]
theorem q_t15 {D D1 : Nat → Int32} {k h w : Nat} {x : Int32} (h29 : h < 29) (a2 : f_C_holderOf D (nI i) (nI k) = some (nI h)) (a3 : f_C_wordInHolder (nI k) = some (nI w)) (ht : f_C_takeBehind (nI h) (nI w) D = some (x, D1)) : f_C_takenBlock_15 (nI i) (nI k) D = some (x, D1) := by
  unfold f_C_takenBlock_15
  rw [a2, Option.bind_some, if_neg (fun z => by rw [nI_m1 (by omega)] at z; exact z), a3, Option.bind_some, ht]
  rfl
/-- what a write makes of the disk, in both -/
def wOut (fu t v : Int32) (mUs mWr mDk : Nat → Int32) (a i A : Nat) (D C : Nat → Int32) (R : Option (Int32 × Int32 × Int32 × (Nat → Int32) × (Nat → Int32) × (Nat → Int32) × (Nat → Int32))) : Prop :=
  (∃ D', f_C_store (nI i) (nI A) v D = some (0, D') ∧ R = some (-2, t, fu, mUs, mWr, mDk, C)) ∨
  (∃ D' C' s, f_C_store (nI i) (nI A) v D = some (1, D') ∧ D' (8 + 8 * i + 3) = nI s ∧ R = wFin fu t mUs mWr mDk a (nI s) C' ∧ eqd D' C' ∧ PI D' ∧ kpT D D')
theorem q_wen {D C : Nat → Int32} (e : eqd D C) (P : PI D) (hi : i < 8) (hA : A < 80) {l p z : Nat} (h1 : 1 ≤ p) (h2 : p ≤ 20) (hl : locOf D i (A / 8) l) (hp : D l = nI p) (hz2 : z ≤ 80) : eqd (wEnd D p A i z v) (wEnd C p A i z v) ∧ PI (wEnd D p A i z v) ∧ kpT D (wEnd D p A i z v) := by
  refine ⟨(e.upd _ _).upd _ _, PI.siz (P.data (by omega) (fun j hj => by omega) (P.nloc hi (by omega) hl hp h1 h2 (by omega))) hi ?_, ?_⟩
  · unfold zsz
    by_cases h : A + 1 ≤ z
    · rw [if_pos h]; exact hz2
    · rw [if_neg h]; omega
  · exact (kpT.upd (kpT.upd (fun _ _ _ _ => rfl) (fun j w hj hw => by omega)) (fun j w hj hw => by omega))
theorem q_wr {D C : Nat → Int32} (ha : a < 6) (e : eqd D C) (P : PI D) (hi : i < 8) (hA : A < 80) (hm : mDk (232 * a) = D 0) : wOut fu t v mUs mWr mDk a i A D C ((f_M_pointer C (nI i) (nI (A / 8))).bind fun x9 => if 0 ≤ x9 then ((jv_ga C 232 x9).bind fun x11 => if x11 = 0 then (f_M_write_124 mar mLb (nI A) v (nI a) (nI i) (nI (A / 8)) x9 (1 : Int32) t fu mUs mWr mDk C) else (f_M_write_124 mar mLb (nI A) v (nI a) (nI i) (nI (A / 8)) x9 (0 : Int32) t fu mUs mWr mDk C)) else (f_M_write_124 mar mLb (nI A) v (nI a) (nI i) (nI (A / 8)) x9 (2 : Int32) t fu mUs mWr mDk C)) := by
  have hfb := q_fb2 (a := a) ha hm
  have hfl := fcl_le (D 0) 20
  have hm0 : D 0 = C 0 := e 0 (by omega)
  have hk2 : (nI (A / 8) < (2 : Int32)) = (A / 8 < 2) := q_lt (b := 2) (by omega) (by omega)
  have e6 : f_C_takeBehind ((1 : Int32) + nI i) (6 : Int32) D = f_C_takeBehind (nI (1 + i)) (nI 6) D := by rw [show (1 : Int32) + nI i = nI (1 + i) from nI_add 1 i]; rfl
  obtain ⟨z, z1, z2⟩ := P.size i hi
  have tkn : ∀ E, (A / 8 < 2 ∨ f_C_takeBehind ((1 : Int32) + nI i) (6 : Int32) D = some E ∧ E.2 = D) → f_C_takenBlock (nI i) (nI (A / 8)) D = f_C_takenBlock_15 (nI i) (nI (A / 8)) D := fun E hE => by
    unfold f_C_takenBlock f_C_takenBlock_0
    by_cases h : A / 8 < 2
    · rw [if_pos (by rw [hk2]; exact h)]
    · rw [if_neg (by rw [hk2]; exact h)]
      rcases hE with hE | ⟨hE, hE2⟩
      · exact absurd hE h
      · rw [hE, Option.bind_some, hE2]
  rcases q_hp P.pb e hi (show A / 8 < 10 by omega) with ⟨a1, a2, a3, a4⟩ | ⟨l, h, w, a1, a2, a3, a4, a5, a6, a7⟩
  · -- no indirect block yet
    rw [a4, Option.bind_some, if_neg (by decide)]
    have hl6 : isLoc D (8 + 8 * i + 6) := Or.inl ⟨i, 6, hi, by omega, by omega, rfl⟩
    have tkn2 : ∀ x E, f_C_takeBehind ((1 : Int32) + nI i) (6 : Int32) D = some (x, E) → f_C_takenBlock (nI i) (nI (A / 8)) D = f_C_takenBlock_15 (nI i) (nI (A / 8)) E := fun x E hE => by
      unfold f_C_takenBlock f_C_takenBlock_0
      rw [if_neg (by rw [hk2]; omega), hE, Option.bind_some]
    rcases fst_ex (D 0) with hfull | ⟨b, hb⟩
    · have f0 : fcl (D 0) 20 = 0 := (fcl_0 _ 20).mpr hfull
      refine Or.inl ⟨D, q_sto0 hA ?_, ?_⟩
      · rw [tkn2 _ D (by rw [e6]; exact q_tb0 (by omega) (by rw [show (1 + i) * 8 + 6 = 8 + 8 * i + 6 by omega]; exact a2) hfull)]
        unfold f_C_takenBlock_15
        rw [a3]
        rfl
      · unfold f_M_write_124
        rw [hfb, f0]
        rfl
    · have b20 := hb.1
      have t1 := q_tb2 (D := D) (h := 1 + i) (w := 6) (b := b) (by omega) (by rw [show (1 + i) * 8 + 6 = 8 + 8 * i + 6 by omega]; exact a2) hb
      rw [show (1 + i) * 8 + 6 = 8 + 8 * i + 6 by omega] at t1
      have P1 := P.take hl6 a2 hb.1 hb.2.1
      have hbC : fstB (C 0) b := by rw [← hm0]; exact hb
      have e1 : eqd (upd (tkD D b) (8 + 8 * i + 6) (nI (b + 1))) (upd (tkD C b) (8 + 8 * i + 6) (nI (b + 1))) := (e.tk b).upd _ _
      have d0 : (upd (tkD D b) (8 + 8 * i + 6) (nI (b + 1))) 0 = D 0 ||| ((1 : Int32) <<< (nI b &&& 31)) := by rw [q_updN (by omega), tkD_0]
      have fs := fcl_set (m := D 0) (b := b) (by omega) hb.2.1 20 (by omega)
      rw [if_pos b20, ← d0] at fs
      have lo1 : locOf (upd (tkD D b) (8 + 8 * i + 6) (nI (b + 1))) i (A / 8) (64 + 8 * (b + 1) + (A / 8 - 2)) := Or.inr ⟨a1, b + 1, by omega, by omega, by rw [q_updS], rfl⟩
      have v0 : (upd (tkD D b) (8 + 8 * i + 6) (nI (b + 1))) (64 + 8 * (b + 1) + (A / 8 - 2)) = 0 := by
        rw [q_updN (by omega)]
        unfold tkD
        rw [if_pos (by omega)]
      have v0C : (upd (tkD C b) (8 + 8 * i + 6) (nI (b + 1))) (64 + 8 * (b + 1) + (A / 8 - 2)) = 0 := by
        rw [← e1 _ (by omega)]; exact v0
      rcases q_hp P1.pb e1 hi (show A / 8 < 10 by omega) with ⟨-, y2, -, -⟩ | ⟨l, h, w, c1, c2, c3, c4, c5, c6, c7⟩
      · rw [q_updS] at y2
        exact absurd y2 (nI_ne0 (by omega) (by omega))
      · have hle := c1.fn lo1
        generalize hD1 : upd (tkD D b) (8 + 8 * i + 6) (nI (b + 1)) = D1 at *
        generalize hC1 : upd (tkD C b) (8 + 8 * i + 6) (nI (b + 1)) = C1 at *
        rw [← hle] at v0 v0C lo1
        have s1 : D1 (8 + 8 * i + 3) = nI z := by rw [← hD1, q_updN (by omega), tkD_n (by omega) (by omega)]; exact z2
        have k1 : kpT D D1 := by rw [← hD1]; exact kpT.upd (kpT.tk (fun _ _ _ _ => rfl) b) (fun j w hj hw => by omega)
        have hR : ∀ x13 : Nat, 2 ≤ x13 → x13 < 2 ^ 31 → (if (2 : Int32) ≤ nI x13 then (if 0 ≤ (-1 : Int32) then (f_M_write_175 mar mLb (nI A) v (nI a) (nI i) (-1) t fu mUs mWr mDk C) else ((f_M_takeBlock C).bind fun x15 => (jv_sa x15.2 232 (((8 : Int32) + ((8 : Int32) * nI i)) + (6 : Int32)) x15.1).bind fun F17 => (f_M_pointer F17 (nI i) (nI (A / 8))).bind fun x19 => f_M_write_175 mar mLb (nI A) v (nI a) (nI i) x19 t fu mUs mWr mDk F17)) else (some ((-2 : Int32), t, fu, mUs, mWr, mDk, C))) = f_M_write_175 mar mLb (nI A) v (nI a) (nI i) (nI l) t fu mUs mWr mDk C1 := fun x13 g1 g2 => by
          rw [if_pos (show (2 : Int32) ≤ nI x13 from nI_le (a := 2) g1 g2), if_neg (by decide), q_mtb hbC, Option.bind_some, show (6 : Int32) = nI 6 from rfl, e_8i, q_sa (by omega) (by omega), Option.bind_some, hC1, c7, Option.bind_some]
        rcases fst_ex (D1 0) with hfull | ⟨b2, hb2⟩
        · have f0 : fcl (D1 0) 20 = 0 := (fcl_0 _ 20).mpr hfull
          refine Or.inl ⟨D1, q_sto0 hA ?_, ?_⟩
          · rw [tkn2 _ D1 (by rw [e6]; exact t1), q_t15 c6 c2 c3 (q_tb0 (by omega) (by rw [c4]; exact v0) hfull)]
          · unfold f_M_write_124
            rw [hfb, Option.bind_some, if_neg (show ¬ (2 : Int32) ≤ nI (fcl (D 0) 20) from nI_ge (b := 2) (by omega) (by omega))]
        · have b220 := hb2.1
          have hb2C : fstB (C1 0) b2 := by rw [← e1 0 (by omega)]; exact hb2
          have t2 := q_tb2 (D := D1) (h := h) (w := w) (b := b2) (by omega) (by rw [c4]; exact v0) hb2
          rw [c4] at t2
          have hlo := c1.isLoc hi (show A / 8 < 10 by omega)
          have P2 := P1.take hlo v0 hb2.1 hb2.2.1
          have l72 : 72 ≤ l := by omega
          have e2 : eqd (upd (tkD D1 b2) l (nI (b2 + 1))) (upd (tkD C1 b2) l (nI (b2 + 1))) := (e1.tk b2).upd _ _
          have s2 : (upd (tkD D1 b2) l (nI (b2 + 1))) (8 + 8 * i + 3) = nI z := by rw [q_updN (by omega), tkD_n (by omega) (by omega)]; exact s1
          have lo2 : locOf (upd (tkD D1 b2) l (nI (b2 + 1))) i (A / 8) l := by
            rcases c1 with ⟨g1, g2⟩ | ⟨g1, q, g2, g3, g4, g5⟩
            · exact Or.inl ⟨g1, g2⟩
            · exact Or.inr ⟨g1, q, g2, g3, by rw [q_updN (by omega), tkD_n (by omega) (by omega)]; exact g4, g5⟩
          obtain ⟨r1, r2, r3⟩ := q_wen (v := v) e2 P2 hi hA (l := l) (p := b2 + 1) (z := z) (by omega) (by omega) lo2 q_updS z1
          refine Or.inr ⟨_, _, zsz A z, q_sto hi hA (p := b2 + 1) (z := z) (D1 := upd (tkD D1 b2) l (nI (b2 + 1))) (by omega) (by omega) s2 z1 ?_, q_updS, ?_, r1, r2, fun j w' hj hw' => ?_⟩
          · rw [tkn2 _ D1 (by rw [e6]; exact t1), q_t15 c6 c2 c3 t2]
          · unfold f_M_write_124
            rw [hfb, Option.bind_some, hR _ (by have f1 : ¬ fcl (D1 0) 20 = 0 := fun z => by have := (fcl_0 _ 20).mp z b2 hb2.1; rw [hb2.2.1] at this; cases this
                                                omega) (by omega), q_w175b c5 v0C hb2C, q_w200 hi hA c5 (p := b2 + 1) (z := z) q_updS (by omega) (by omega) (by rw [← e2 _ (by omega)]; exact s2) z1]
          · rw [r3 j w' hj hw', q_updN (by omega), tkD_n (by omega) (by omega)]; exact k1 j w' hj hw'
  · -- there is a place for the pointer
    have hlo := a1.isLoc hi (show A / 8 < 10 by omega)
    obtain ⟨p, p1, p2, -⟩ := P.ptr l hlo
    have cp : C l = nI p := by rw [← e l a5]; exact p2
    have hq : A / 8 < 2 ∨ f_C_takeBehind ((1 : Int32) + nI i) (6 : Int32) D = some (f_C_takeBehind ((1 : Int32) + nI i) (6 : Int32) D |>.getD (0, D)) ∧ (f_C_takeBehind ((1 : Int32) + nI i) (6 : Int32) D |>.getD (0, D)).2 = D := by
      rcases a1 with ⟨g1, g2⟩ | ⟨g1, q, g2, g3, g4, g5⟩
      · exact Or.inl g1
      · right
        rw [e6, q_tb1 (h := 1 + i) (w := 6) (p := q) (by omega) (by rw [show (1 + i) * 8 + 6 = 8 + 8 * i + 6 by omega]; exact g4) g2 g3]
        exact ⟨rfl, rfl⟩
    have tk := tkn _ hq
    rw [a7, Option.bind_some, if_pos (nI_pos' (by omega)), q_ga a5 (by omega), cp, Option.bind_some]
    by_cases hp : p = 0
    · subst hp
      rw [if_pos (show nI 0 = 0 from rfl)]
      rcases fst_ex (D 0) with hfull | ⟨b, hb⟩
      · have f0 : fcl (D 0) 20 = 0 := (fcl_0 _ 20).mpr hfull
        refine Or.inl ⟨D, q_sto0 hA ?_, ?_⟩
        · rw [tk, q_t15 a6 a2 a3 (q_tb0 (by omega) (by rw [a4]; exact p2) hfull)]
        · unfold f_M_write_124
          rw [hfb, f0]
          rfl
      · have b20 := hb.1
        have f1 : ¬ fcl (D 0) 20 = 0 := fun z => by
          have := (fcl_0 _ 20).mp z b hb.1
          rw [hb.2.1] at this
          cases this
        have hbC : fstB (C 0) b := by rw [← hm0]; exact hb
        have t2 := q_tb2 (D := D) (h := h) (w := w) (b := b) (by omega) (by rw [a4]; exact p2) hb
        rw [a4] at t2
        have P2 := P.take hlo p2 hb.1 hb.2.1
        have hne3 : l ≠ 8 + 8 * i + 3 := fun z => by rcases hlo with ⟨i2, w2, g⟩ | ⟨i2, q2, w2, g⟩ <;> omega
        have hne6 : l ≠ 8 + 8 * i + 6 := fun z => by rcases a1 with ⟨g1, g2⟩ | ⟨g1, q, g2, g3, g4, g5⟩ <;> omega
        have e2 : eqd (upd (tkD D b) l (nI (b + 1))) (upd (tkD C b) l (nI (b + 1))) := (e.tk b).upd _ _
        have s2 : (upd (tkD D b) l (nI (b + 1))) (8 + 8 * i + 3) = nI z := by rw [q_updN (fun z => hne3 z.symm), tkD_n (by omega) (by omega)]; exact z2
        have lo2 : locOf (upd (tkD D b) l (nI (b + 1))) i (A / 8) l := by
          rcases a1 with ⟨g1, g2⟩ | ⟨g1, q, g2, g3, g4, g5⟩
          · exact Or.inl ⟨g1, g2⟩
          · exact Or.inr ⟨g1, q, g2, g3, by rw [q_updN (fun z => hne6 z.symm), tkD_n (by omega) (by omega)]; exact g4, g5⟩
        obtain ⟨r1, r2, r3⟩ := q_wen (v := v) e2 P2 hi hA (l := l) (p := b + 1) (z := z) (by omega) (by omega) lo2 q_updS z1
        refine Or.inr ⟨_, _, zsz A z, q_sto hi hA (p := b + 1) (z := z) (D1 := upd (tkD D b) l (nI (b + 1))) (by omega) (by omega) s2 z1 ?_, q_updS, ?_, r1, r2, fun j w' hj hw' => ?_⟩
        · rw [tk, q_t15 a6 a2 a3 t2]
        · unfold f_M_write_124
          rw [hfb, Option.bind_some, if_pos (show (1 : Int32) ≤ nI (fcl (D 0) 20) from nI_le (a := 1) (by omega) (by omega)), if_pos (nI_pos' (by omega)), q_w175b a5 cp hbC, q_w200 hi hA a5 (p := b + 1) (z := z) q_updS (by omega) (by omega) (by rw [← e2 _ (by omega)]; exact s2) z1]
        · rw [r3 j w' hj hw', q_updN (fun z => hlo.nt j w' hj hw' z.symm), tkD_n (by omega) (by omega)]
    · rw [if_neg (nI_ne0 (by omega) (by omega))]
      obtain ⟨r1, r2, r3⟩ := q_wen (v := v) e P hi hA (l := l) (p := p) (z := z) (by omega) p1 a1 p2 z1
      refine Or.inr ⟨_, _, zsz A z, q_sto hi hA (p := p) (z := z) (D1 := D) (by omega) p1 z2 z1 ?_, q_updS, ?_, r1, r2, r3⟩
      · rw [tk, q_t15 a6 a2 a3 (q_tb1 (p := p) (by omega) (by rw [a4]; exact p2) (by omega) p1)]
      · unfold f_M_write_124
        rw [hfb, Option.bind_some, if_pos (show (0 : Int32) ≤ nI (fcl (D 0) 20) from nI_pos' (by omega)), if_pos (nI_pos' (by omega)), q_w175a a5 cp (by omega) p1, q_w200 hi hA a5 cp (by omega) p1 (by rw [← e _ (by omega)]; exact z2) z1]
end
