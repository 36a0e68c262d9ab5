/-! contracts to any depth -/
section ZA
variable {l : Launch}
theorem zspc_inv {m d : Nat} {vs : List Value} {h : xS} {r : Option Value} {h' : xS} (hm : mtab[m]? = none) (e : zcall (d + 1) m vs h = some (r, h')) : 6 ≤ d ∧ ∃ c0 s0 A A1, h = yhs c0 s0 A ∧ yspc m vs A = some (r, A1) ∧ h' = yhs c0 s0 A1 := by
  simp only [zcall] at e
  rw [hm] at e
  dsimp only at e
  split at e
  · rename_i hle
    refine ⟨Nat.le_of_ble_eq_true hle, ?_⟩
    unfold zspc at e
    split at e
    · rename_i hex
      obtain ⟨c0, s0, A, z, rfl, hz⟩ := hex
      obtain ⟨r2, A1⟩ := z
      have := zans_ok (c0 := c0) (s0 := s0) hz
      rw [this] at e
      cases e
      exact ⟨c0, s0, A, A1, rfl, hz, rfl⟩
    · cases e
  · cases e
theorem y900_inv {vs : List Value} {A A1 : yM} {r : Option Value} (h : yspc 900 vs A = some (r, A1)) : ∃ a f ci, vs = [.ref a, .int f] ∧ ycl A a = some ci ∧ (ci < 10 ∧ ci ≠ 0 ∧ ci ≠ 7) ∧ 0 ≤ f ∧ 0 ≤ A 94 0 ∧ (A 94 0).toNatClampNeg < 100000 ∧ r = some (.int (yct ci f)) ∧ A1 = if yct ci f = -15 then A else yfg A := by
  replace h : (match (generalizing := false) vs with
    | [.ref a, .int f] => (match ycl A a with
      | some ci => if ci < 10 ∧ ci ≠ 0 ∧ ci ≠ 7 ∧ 0 ≤ f ∧ 0 ≤ A 94 0 ∧ (A 94 0).toNatClampNeg < 100000 then some (some (Value.int (yct ci f)), if yct ci f = -15 then A else yfg A) else none
      | none => none)
    | _ => none) = some (r, A1) := h
  split at h
  · rename_i a f
    split at h
    · rename_i ci hci
      split at h
      · rename_i hc
        cases h
        exact ⟨a, f, ci, rfl, hci, ⟨hc.1, hc.2.1, hc.2.2.1⟩, hc.2.2.2.1, hc.2.2.2.2.1, hc.2.2.2.2.2, rfl, rfl⟩
      · cases h
    · cases h
  · cases h
theorem dE : tableOf hhE = [⟨0, 9, 12, 13⟩, ⟨0, 9, 16, 15⟩] := by decide +kernel
theorem le_k1 : Cond.classLink RL 13 "java/lang/IllegalArgumentException" ∈ xT := xTm (by decide +kernel)
theorem le_k2 : Cond.classLink RL 15 "java/lang/IllegalStateException" ∈ xT := xTm (by decide +kernel)
theorem le_c1 : Cond.castable "java/lang/IllegalArgumentException" "java/lang/IllegalArgumentException" ∈ xNW := xNm (by decide +kernel)
theorem le_c2 : Cond.castable "java/lang/IllegalStateException" "java/lang/IllegalStateException" ∈ xNW := xNm (by decide +kernel)
theorem le_1 {d : Nat} {x y : Int32} {h : xS} {fs : List Value} (hc : h.1[1]? = some (.inr (10, fs))) (hT : FT l yX11_element cX11_element 3 (some .long) (d + 20) [.ref 1, .int x, .int y] h "java/lang/IllegalArgumentException") : xMetW l yL_element cL_element 5 (some .int) hhE (d + 1 + 20) [.ref 1, .int x, .int y, .ref 92] h (some (.int 1)) (zfg h) :=
  le_T hc hT [] [⟨0, 9, 16, 15⟩] ⟨0, 9, 12, 13⟩ dE (by decide +kernel) (by decide) (fun z hz => by cases hz) le_k1 le_c1 (by decide +kernel) rfl
theorem le_2 {d : Nat} {x y : Int32} {h : xS} {fs : List Value} (hc : h.1[1]? = some (.inr (10, fs))) (hT : FT l yX11_element cX11_element 3 (some .long) (d + 20) [.ref 1, .int x, .int y] h "java/lang/IllegalStateException") : xMetW l yL_element cL_element 5 (some .int) hhE (d + 1 + 20) [.ref 1, .int x, .int y, .ref 92] h (some (.int 2)) (zfg h) :=
  le_T hc hT [⟨0, 9, 12, 13⟩] [] ⟨0, 9, 16, 15⟩ dE (by decide +kernel) (by decide) (fun z hz => by
    cases List.mem_singleton.mp hz
    exact ⟨by decide, _, le_k1, by decide +kernel⟩) le_k2 le_c2 (by decide +kernel) rfl
theorem e901 (hl : l.stackTraces = false) {d : Nat} (ih : zOk l d) (hd : 3 ≤ d) {c0 s0 : Nat} {vs : List Value} {A A1 : yM} {r : Option Value} (h : yspc 901 vs A = some (r, A1)) : xMetW l yL_element cL_element 5 (some .int) hhE (d + 2 + 20) vs (yhs c0 s0 A) r (yhs c0 s0 A1) := by
  replace h : (match (generalizing := false) vs with
    | [.ref 1, .int d, .int i, .ref 92] => if 0 ≤ A 94 0 ∧ (A 94 0).toNatClampNeg < 100000 then
        (if d < 0 ∨ 8 ≤ d then some (some (Value.int 1), yfg A)
        else if A (60 + 2 * d.toNatClampNeg) 0 ≠ 2 ∨ i < 0 ∨ A (60 + 2 * d.toNatClampNeg) 4 ≤ i then some (some (Value.int 2), yfg A)
        else if i < 100 then some (some (Value.int 0), yup A 92 0 (A (61 + 2 * d.toNatClampNeg) i.toNatClampNeg)) else none) else none
    | _ => none) = some (r, A1) := h
  obtain ⟨fs, hfs⟩ := ycl_z (c0 := c0) (s0 := s0) (show ycl A 1 = some 10 from rfl)
  split at h
  · rename_i x y
    split at h
    · rename_i hg
      by_cases hx : x < 0 ∨ 8 ≤ x
      · rw [if_pos hx] at h
        cases h
        rw [yhs_fg hg.1 hg.2]
        refine le_1 hfs (el_1 hl ih hd ?_)
        unfold okI
        refine decide_eq_false (fun z => ?_)
        rcases hx with hx | hx
        · exact z.1 hx
        · exact absurd z.2 (Int32.not_lt.mpr hx)
      · rw [if_neg hx] at h
        simp only [not_or] at hx
        obtain ⟨k, hk, rfl⟩ := nI_of hx.1
        have hk8 : k < 8 := by
          have h1 : nI k < nI 8 := Int32.not_le.mp hx.2
          exact (nI_ltI hk (by omega)).mp h1
        rw [nI_clamp hk] at h
        by_cases h2 : A (60 + 2 * k) 0 = nI 2
        · by_cases h3 : y < 0 ∨ A (60 + 2 * k) 4 ≤ y
          · rw [if_pos (Or.inr h3)] at h
            cases h
            rw [yhs_fg hg.1 hg.2]
            exact le_2 hfs (el_3 hl ih hd hk8 h2 h3)
          · have h4 : ¬ (A (60 + 2 * k) 0 ≠ 2 ∨ y < 0 ∨ A (60 + 2 * k) 4 ≤ y) := fun z => z.elim (fun q => q h2) h3
            rw [if_neg h4] at h
            split at h
            · rename_i h100
              have hA1 : yspc 901 [.ref 1, .int (nI k), .int y, .ref 92] A = some (some (Value.int 0), yup A 92 0 (A (61 + 2 * k) y.toNatClampNeg)) := by
                show (if 0 ≤ A 94 0 ∧ (A 94 0).toNatClampNeg < 100000 then _ else _) = _
                rw [if_pos hg, if_neg (fun z => z.elim hx.1 hx.2), nI_clamp hk, if_neg h4, if_pos h100]
              cases h
              have hz := zans_ok (c0 := c0) (s0 := s0) hA1
              simp only [not_or] at h3
              obtain ⟨j, hj, rfl⟩ := nI_of h3.1
              have hj1 : j < 100 := (nI_ltI hj (by omega)).mp (show nI j < nI 100 from h100)
              have hM := el_4 (l := l) (c0 := c0) (s0 := s0) (A := A) ih hd hk8 hj1 h2 (fun z => z.elim h3.1 h3.2)
              have e3 : (yhs c0 s0 A).1[92]? = some (.inl (3, 1, .inr (.inl (fun k => (A 92 k).toInt64)))) := by
                rw [yhs_at]
                rfl
              have hN := le_N (d := d + 1) hfs hM e3
              have e1 : ∀ q, q < 5 → xgI (yhs c0 s0 A) (60 + 2 * k) 7 q = some (A (60 + 2 * k) q) := fun q hq => (ygI_x (K := fun v => (some (some (Value.int v), A) : Option yR)) (sh_I hk8 hq)).1
              have e2 := (yrd_x (c0 := c0) (s0 := s0) (K := fun v => (some (some (Value.int v), A) : Option yR)) (sh_rd (A := A) hk8 hj1)).1
              replace hz : zansE [.ref 1, .int (nI k), .int (nI j), .ref 92] (yhs c0 s0 A) = _ := hz
              unfold zansE at hz
              replace hz : (if nI k < 0 ∨ 8 ≤ nI k then (some (Value.int 1), zfg (yhs c0 s0 A)) else (match xgI (yhs c0 s0 A) (60 + 2 * (nI k).toNatClampNeg) 7 0, xgI (yhs c0 s0 A) (60 + 2 * (nI k).toNatClampNeg) 7 4 with
                | some hd, some ln => if hd ≠ 2 ∨ nI j < 0 ∨ ln ≤ nI j then (some (Value.int 2), zfg (yhs c0 s0 A))
                  else (match xrdI (yhs c0 s0 A) (61 + 2 * (nI k).toNatClampNeg) (nI j) with
                    | some v => zlw (yhs c0 s0 A).1[92]? v (yhs c0 s0 A)
                    | none => (none, yhs c0 s0 A))
                | _, _ => (none, yhs c0 s0 A))) = (some (Value.int 0), yhs c0 s0 (yup A 92 0 (A (61 + 2 * k) (nI j).toNatClampNeg))) := hz
              rw [if_neg (fun z => z.elim hx.1 hx.2), nI_clamp hk, e1 0 (by omega), e1 4 (by omega)] at hz
              dsimp only at hz
              rw [if_neg h4, e2, e3, nI_clamp hj] at hz
              replace hz : ((some (Value.int 0), ((yhs c0 s0 A).1.set 92 (.inl (3, 1, .inr (.inl (fun q => if q = 0 then (A (61 + 2 * k) j).toInt64 else (A 92 q).toInt64)))), (yhs c0 s0 A).2)) : Option Value × xS) = (some (Value.int 0), yhs c0 s0 (yup A 92 0 (A (61 + 2 * k) j))) := hz
              rw [nI_clamp hj, ← (Prod.mk.inj hz).2]
              exact hN
            · cases h
        · have h4 : (A (60 + 2 * k) 0 ≠ 2 ∨ y < 0 ∨ A (60 + 2 * k) 4 ≤ y) := Or.inl h2
          rw [if_pos h4] at h
          cases h
          rw [yhs_fg hg.1 hg.2]
          exact le_2 hfs (el_2 hl ih hd hk8 h2)
    · cases h
  · cases h
theorem zOk_all (hl : l.stackTraces = false) : ∀ d, ∀ k, k ≤ d → zOk l k := by
  have z0 : zOk l 0 := ⟨fun m X vs h r h' _ e => (by cases e), fun vs h r h' e => (by cases e), fun vs h r h' e => (by cases e)⟩
  intro d
  induction d with
  | zero => intro k hk; rw [show k = 0 by omega]; exact z0
  | succ d ih =>
    intro k hk
    by_cases hkd : k ≤ d
    · exact ih k hkd
    · rw [show k = d + 1 by omega]
      refine ⟨fun m => zM_step xcl_ok zmok (ih d (Nat.le_refl _)) m, fun vs h r h' e => ?_, fun vs h r h' e => ?_⟩
      · obtain ⟨h6, c0, s0, A, A1, rfl, hz, rfl⟩ := zspc_inv rfl e
        obtain ⟨a, f, ci, rfl, q1, q2, q3, q4, q5, rfl, rfl⟩ := y900_inv hz
        have := cf_ok hl (ih d (Nat.le_refl _)) h6 (c0 := c0) (s0 := s0) q1 q2 q3 q4 q5
        by_cases h15 : yct ci f = -15
        · rw [if_pos h15] at this ⊢
          exact this
        · rw [if_neg h15] at this ⊢
          rw [yhs_fg q4 q5]
          exact this
      · obtain ⟨h6, c0, s0, A, A1, rfl, hz, rfl⟩ := zspc_inv rfl e
        obtain ⟨d', rfl⟩ := Nat.exists_eq_add_of_le' (show 1 ≤ d by omega)
        exact e901 hl (ih d' (by omega)) (by omega) hz
end ZA
