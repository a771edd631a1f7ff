/-! WHOLE_START out of the law's run -/
set_option maxHeartbeats 4000000 in
theorem whole_start (M : MNA) {p : Program} {e : Env} {s : State} {m : MethodId} {below : List Frame} {meth : Method} {c : Code} (l : Launch) (hflags : l.flags = flags0) {b L : Nat} {xs : Nat → Int32} (hL : L ≤ 3072) (C0 : lw_At p s m meth c b L xs) : W p l e room_1 s m #[Value.ref b] below meth c s.heap [] 0 0 (lw_Z below #[Value.ref b] s) (entryFrame m ([Value.ref b] : List Value).toArray 4) := by
  obtain ⟨hx, hb, hr, hml, hown, hts, hX, hbl, hlocks, hgv⟩ := C0
  obtain ⟨G, hC, hz, hGL, hGx, hGb⟩ := cx_start hL hts hX hbl hgv
  obtain ⟨n, S, h, he, hS1, hS2⟩ := law_runs (gL G) (fun j => (gx G j).toInt) (by rw [hGL]; exact hL) (fun j => okI_toInt _)
  have hg := exec_grow _ _ _ _ _ _ _ _ _ _ he
  have htg : ∀ w ∈ TG, w.before #[Value.ref b] s = true := fun w hw => hts w (List.mem_filter.mp hw).1
  have F : XFC G p s m #[Value.ref b] meth c 338 room_1 := ⟨hx, hb, hml, hown, htg, hC, fun z => absurd z (by decide), by decide, by decide⟩
  have k := sim_all M (G := G) (l := l) n 1000 338 0 (entF 338 [.inr (.inr (-2))]) [] [(99, 0)] (fun _ _ => 0) _ he (by decide) (by decide) p e s m #[Value.ref b] below meth c room_1 0 0 (0 + (S.length - 1)) (0 + (slt S - 0)) F (by decide) (by decide) (by show 0 + (S.length - 1) ≤ 600000; omega) (by show 0 + (slt S - 0) ≤ 7302250; omega) hr hlocks (by rw [hz]; rfl) rfl rfl
  have hR : Rel G [(99, 0)] (fun _ _ => 0) s.heap := by
    refine ⟨⟨rfl, fun k q hk hq => ?_⟩, ⟨fun k q hq j hj => ?_, fun _ _ _ => rfl⟩, fun k q hq => ?_⟩
    · match k, hk, hq with
      | k + 1, _, hq => cases hq
    · match k, hq with
      | 0, hq => cases hq; exact absurd hj (Nat.not_lt_zero _)
      | k + 1, hq => cases hq
    · have : (wsG G [(99, 0)] (fun _ _ => 0)) = [] := rfl
      rw [this] at hq
      cases hq
  have hvs : ∀ v ∈ ([.inr (.inr (-2))] : List AV), okV [(99, 0)] v := by
    intro v hv
    rcases List.mem_cons.mp hv with rfl | hv
    · exact ⟨by decide, fun _ => by decide⟩
    · cases hv
  have e1 : ([Value.ref b] : List Value) = ([.inr (.inr (-2))] : List AV).map (cv G) := by
    rw [List.map_cons, cv_ro (by decide), hGb]
    rfl
  have hLR := LR_entry (G := G) (S := [(99, 0)]) (y := 338) (vs := [.inr (.inr (-2))]) (CX_ro hC) hvs (by decide) (by decide)
  have e2 : entryFrame m ([Value.ref b] : List Value).toArray 4 = entryFrame m (([.inr (.inr (-2))] : List AV).map (cv G)).toArray 4 := by rw [e1]
  rw [e2, lg_entry_eq]
  intro T hT X
  obtain ⟨t, a1, o, b1, b2, ⟨hv, -, -, -⟩, Lc, ⟨f1, f2, f3⟩, hLc⟩ := k _ s.heap [] ⟨hR, va_S.rf, hLR, fun v hv => by cases hv⟩ T hT X
  refine ⟨t, a1, o, b1, b2, hv, f1, f2, ?_⟩
  refine f3.weaken (fun q hq hlt => ?_) (by show 0 + (S.length - 1) ≤ 600000; omega) (by show 0 + (slt S - 0) ≤ 7302250; omega)
  have := hLc q hq
  unfold gA at this
  rw [hz] at this
  exact (Nat.not_lt.mpr this hlt).elim
