set_option maxHeartbeats 4000000 in
set_option maxRecDepth 100000 in
/-- the law's walk: all that is left is that the calls' pure function gives an answer -/
theorem z_whole {p : Program} {e : Env} {s : State} {m : MethodId} {below : List Frame} {meth : Method} {c : Code} (l : Launch) (hflags : l.flags = flags0) {b L : Nat} {xs : Nat → Int32} (hL : L ≤ 3584) (C0 : lw_At p s m meth c b L xs) {y : zS} (hf : g_script (fun j => (xs j).toInt) (L / 7) 0 zInit = some y) : W p l e room_1 s m #[Value.ref b] below meth c s.heap [] 0 0 (lw_Z below #[Value.ref b] s) (entryFrame m ([Value.ref b] : List Value).toArray 10) := by
  obtain ⟨hx, hb, hr, hml, hown, hts0, hX, hbl, hlocks, hgv⟩ := id C0
  have hts : ∀ w ∈ wsL_law, w.before #[Value.ref b] s = true := fun w h => hts0 w (zk_tbl w h)
  have hst : l.stackTraces = false := by
    unfold Launch.stackTraces
    rw [hflags]
    decide +kernel
  obtain ⟨D, cI, cZ, cF, cL, cD, hK, hao⟩ := z_env hts0
  obtain ⟨hXs, hNc⟩ := z_env3 hts0 hgv
  have hl := lv_entry ([.ref b]) (n := 10) (Nat.le_of_ble_eq_true rfl)
  rw [lg_entry_eq]
  generalize (lg_sl ([.ref b]) ++ List.replicate (10 - (lg_sl ([.ref b])).length) Slot.unset).toArray = ls at hl ⊢
  have hl : lv_has ls 10 [(0, .ref b)] := hl
  refine z_enter (A := fun q => s.heap.size ≤ q) hx hb hml hown hts hst hNc hX hbl (Nat.not_le.mpr hbl) (fun _ h => h) hK hXs hL hao (ad0 := fun _ => 0) (τ0 := fun _ => .inr (0, [])) z_empty hf hl (fun ad1 N1 σ1 H1 locs1 c1 s1 h1 h2 hH ls hsz => ?_)
  refine lv_iconst (v := 1) hx hb dL_law_1436 (by decide +kernel) ?_
  refine va_forget hH.2.2.2.2 ?_
  refine W.widen h1 h2 ?_
  exact lw_ret (d0 := s.drawn) (Drawn.sameBut.refl s.drawn lw_cs) hx hb hr hlocks dL_law_1437
