/-! THE LAW, from its entry -/
theorem i_nw {w : Cond} (h : xnw w = true) {A : Array Value} {s : State} (hb : w.before A s = true) : va_Nw w s := by
  cases w with
  | fieldLinkNest a i b n d k => exact va_Nw.of rfl hb
  | methodLinkNest a i x k => exact va_Nw.of rfl hb
  | castable C T => exact va_Nw.of rfl hb
  | declares x => exact va_Nw.of rfl hb
  | arrayOver ty =>
    cases ty with
    | object C => exact va_AO.of hb
    | _ => cases h
  | _ => cases h
/-- the classes of rows -/
theorem i_tys {s : State} {args : Array Value} (hT : ∀ w ∈ xT, w.before args s = true) (hnw : ∀ w ∈ xNW, va_Nw w s) : ∃ tc : Nat → ClassId, ∀ (k : Nat) (q : ClassId × FieldType), (xty tc)[k]? = some q → ArrOfT s q.1 q.2 ∧ va_RA s q.1 q.2 := by
  obtain ⟨c0, k0, m0, a1, a2, a3⟩ := Cond.arrayClass_spec (hT _ xT_int)
  obtain ⟨c3, k3, m3, d1, d2, d3⟩ := Cond.arrayClass_spec (hT _ xT_long)
  obtain ⟨m1, c1, k1, b1, b2, b3, b4, b5⟩ := Cond.arrayOver_spec (hnw (.arrayOver (.object RX8)) (xNm (by decide +kernel)))
  obtain ⟨m2, c2, k2, e1, e2, e3, e4, e5⟩ := Cond.arrayOver_spec (hnw (.arrayOver (.object RX7)) (xNm (by decide +kernel)))
  refine ⟨fun k => match k with | 0 => c0 | 1 => c1 | 2 => c2 | _ => c3, fun k q hq => ?_⟩
  match k, hq with
  | 0, hq => cases hq; exact ⟨fun N z => ⟨(fun k h => by cases h), k0, a2, m0, a3⟩, a1⟩
  | 1, hq => cases hq; exact ⟨fun N z => ⟨(fun k h => by cases h), k1, b3, m1, b4⟩, k1, m1, b3, b4, b1, b5⟩
  | 2, hq => cases hq; exact ⟨fun N z => ⟨(fun k h => by cases h), k2, e3, m2, e4⟩, k2, m2, e3, e4, e1, e5⟩
  | 3, hq => cases hq; exact ⟨fun N z => ⟨(fun k h => by cases h), k3, d2, m3, d3⟩, d1⟩
  | k + 4, hq => cases hq
theorem i_str {s : State} {args : Array Value} {own tx : String} {k : Nat} (h : (Cond.stringRef own k tx).before args s = true) : ∃ a, vk_R own k tx a s := by
  have hcur : ∃ cur, s.vm.findClass own = some cur := by
    have h1 := h
    simp only [Cond.before, Cond.holds, Cond.value] at h1
    cases hc : s.vm.findClass own with
    | none => simp [hc] at h1
    | some cur => exact ⟨cur, rfl⟩
  obtain ⟨cur, hcur⟩ := hcur
  obtain ⟨k9, cf, j, a, -, -, -, -, -, hev⟩ := Cond.stringRef_spec hcur h
  exact ⟨a, vk_R.of h hev⟩
theorem i_sw : ∀ q ∈ xStr, Cond.stringRef q.1 q.2.1 q.2.2 ∈ tables_1 := by decide +kernel
theorem i_ex {s : State} {b : Nat} (hN : ∀ w ∈ tables_1, w.before #[Value.ref b] s = true) (hgv : (Jvm.Cond.and given_1 narrow_1).before #[Value.ref b] s = true) : xEx (lr_A s) s s.heap := by
  have hs := flat_of_before _ hgv
  have hA' : ∀ a : Nat, a < s.heap.size → ¬ lr_A s a := fun a h => Nat.not_le.mpr h
  refine ⟨vx_Zqof (hN _ (by decide +kernel)) (hN _ (by decide +kernel)) (hs _ (by decide +kernel)) hA', vx_Zqof (hN _ (by decide +kernel)) (hN _ (by decide +kernel)) (hs _ (by decide +kernel)) hA', fun q hq => i_str (hN _ (i_sw q hq)), fun q hq => ?_⟩
  simp only [xNcl, List.mem_cons, List.not_mem_nil, or_false] at hq
  rcases hq with rfl | rfl | rfl
  · exact va_Nc.of (hs _ (by decide +kernel))
  · exact va_Nc.of (hs _ (by decide +kernel))
  · exact va_Nc.of (hs _ (by decide +kernel))
theorem i_fl {l : Launch} (h : l.flags = flags0) : l.stackTraces = false := by
  unfold Launch.stackTraces
  rw [h]
  decide +kernel
/-- from the entry, for every script of at most 3072 ints, the law comes to its end with true -/
theorem whole_start {p : Program} {e : Env} {s : State} {m : MethodId} {below : List Frame} {meth : Method} {c : Code} (l : Launch) (hflags : l.flags = flags0) {b L : Nat} {xs : Nat → Int32} (hL : L ≤ 3072) (C0 : lw_At p s m meth c b L xs) : W p l e room_1 s m #[Value.ref b] below meth c s.heap [] 0 0 (lw_Z below #[Value.ref b] s) (entryFrame m ([Value.ref b] : List Value).toArray 8) := by
  obtain ⟨hx, hb, hr, hml, hown, hts, hX, hbl, hlocks, hgv⟩ := C0
  have hT : ∀ w ∈ xT, w.before #[Value.ref b] s = true := fun w hw => hts w (List.mem_filter.mp hw).1
  have hN : ∀ w ∈ tables_1, w.before #[Value.ref b] s = true := fun w hw => hts w (List.mem_append_right _ hw)
  have hnw : ∀ w ∈ xNW, va_Nw w s := fun w hw => i_nw (List.mem_filter.mp hw).2 (hN w (List.mem_filter.mp hw).1)
  obtain ⟨D, hD⟩ := i_kn hT
  obtain ⟨tc, hK⟩ := i_tys hT hnw
  have hC : ∀ n0, xCx p s m #[Value.ref b] meth c R_lawC cL_law 8 D tc (lr_A s) n0 false (some .boolean) := fun n0 => ⟨hx, hb, hml, hown, hT, hnw, hlocks, ⟨hD, hK⟩, fun _ h => h, i_ex hN hgv, fun h => (by cases h), hr⟩
  have h93 : i_A L xs 93 0 = nI L := by
    unfold i_A
    rw [if_neg (by omega), if_pos ⟨rfl, rfl⟩]
  have hz := lr_pro (hC 1) hL (ad0 := fun _ => b) (xs := xs) (lr_run (below := below) (e := e) (i_fl hflags) (hC 93) (cc := 92) (ss := 4056) (by omega) (by omega) (i_inv L xs) h93 hL)
  have hl := lv_entry ([.ref b]) (n := 8) (Nat.le_of_ble_eq_true rfl)
  rw [lg_entry_eq]
  generalize (lg_sl ([.ref b]) ++ List.replicate (8 - (lg_sl ([.ref b])).length) Slot.unset).toArray = ls at hl ⊢
  have hl : lv_has ls 8 [(0, .ref b)] := hl
  have no : ∀ (a : Nat) (o : xO), [i_sc L xs][a]? = some o → xsc o = true := fun a o h => by
    match a, h with
    | 0, h => cases h; rfl
    | a + 1, h => cases h
  have noF : ∀ {a : Nat} {o : xO}, [i_sc L xs][a]? = some o → xsc o = false → False := fun {a o} h hs => by
    rw [no a o h] at hs
    cases hs
  exact hz (fun _ => b) ls s.heap [] (fun _ _ => rfl) (fun _ => rfl) (Nat.le_refl _) rfl hl (xw_P.mpr fun a o h hs => (noF h hs).elim) ⟨xw_D.mpr ⟨fun a a' o o' h hs => (noF h hs).elim, fun a o h hs => (noF h hs).elim⟩, fun a n f h => by
    match a, h with
    | 0, h => cases h; exact ⟨Nat.not_le.mpr hbl, hX⟩
    | a + 1, h => cases h⟩ va_S.rf
