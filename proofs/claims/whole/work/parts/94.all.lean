/-! the invariant with the bounds of the reference's table -/
theorem sl_rows : S_rows InvL := fun x b y t0 t1 h => s_rows x b y t0 t1 h.1
theorem sl_play : S_play InvL := by
  intro x b y t0 t1 h p1
  obtain ⟨ox, oy, a1, a2, a3, a4⟩ := s_play x b y t0 t1 h.1 p1
  exact ⟨ox, oy, a1, a2, a3, a4, h.2⟩
theorem sl_swap : S_swap InvL := by
  intro x b y t0 t1 h
  obtain ⟨ox, oy, a1, a2, a3, a4⟩ := s_swap x b y t0 t1 h.1
  exact ⟨ox, oy, a1, a2, a3, a4, h.2⟩
theorem sl_takeBack : S_takeBack InvL := by
  intro x b y t0 t1 h
  obtain ⟨ox, oy, a1, a2, a3, a4⟩ := s_takeBack x b y t0 t1 h.1
  exact ⟨ox, oy, a1, a2, a3, a4, h.2⟩
theorem sl_again : S_again InvL := by
  intro x b y t0 t1 h
  obtain ⟨ox, oy, a1, a2, a3, a4⟩ := s_again x b y t0 t1 h.1
  exact ⟨ox, oy, a1, a2, a3, a4, h.2⟩
theorem sl_moves : S_moves InvL := fun x b y t0 t1 h => s_moves x b y t0 t1 h.1
theorem sl_moveAt : S_moveAt InvL := fun x b y t0 t1 h => s_moveAt x b y t0 t1 h.1
theorem sl_turn : S_turn InvL := fun x b y t0 t1 h => s_turn x b y t0 t1 h.1
theorem sl_winner : S_winner InvL := fun x b y t0 t1 h => s_winner x b y t0 t1 h.1
theorem sl_stones : S_stones InvL := fun x b y t0 t1 h => s_stones x b y t0 t1 h.1
theorem sl_beside : S_beside InvL := fun x b y t0 t1 h => s_beside x b y t0 t1 h.1
theorem sl_chains : S_chains InvL := fun x b y t0 t1 h => s_chains x b y t0 t1 h.1
theorem sl_chainOf : S_chainOf InvL := fun x b y t0 t1 h => s_chainOf x b y t0 t1 h.1
theorem sl_chain : S_chain InvL := fun x b y t0 t1 h => s_chain x b y t0 t1 h.1
theorem sl_distance : S_distance InvL := by
  intro x b y t0 t1 h p1
  obtain ⟨ox, oy, a1, a2, a3, a4⟩ := s_distance x b y t0 t1 h.1 p1
  exact ⟨ox, oy, a1, a2, a3, a4, h.2⟩
theorem sl_shortest : S_shortest InvL := by
  intro x b y t0 t1 h p1
  obtain ⟨ox, oy, a1, a2, a3, a4⟩ := s_shortest x b y t0 t1 h.1 p1
  exact ⟨ox, oy, a1, a2, a3, a4, h.2⟩
theorem sl_cut : S_cut InvL := by
  intro x b y t0 t1 h p1
  obtain ⟨ox, oy, a1, a2, a3, a4⟩ := s_cut x b y t0 t1 h.1 p1
  exact ⟨ox, oy, a1, a2, a3, a4, h.2⟩
theorem sl_bridges : S_bridges InvL := by
  intro x b y t0 t1 h p1
  obtain ⟨ox, oy, a1, a2, a3, a4⟩ := s_bridges x b y t0 t1 h.1 p1
  exact ⟨ox, oy, a1, a2, a3, a4, h.2⟩
theorem sl_bridge : S_bridge InvL := by
  intro x b y t0 t1 h p1 p2 p3
  obtain ⟨ox, oy, a1, a2, a3, a4⟩ := s_bridge x b y t0 t1 h.1 p1 p2 p3
  exact ⟨ox, oy, a1, a2, a3, a4, h.2⟩
theorem sl_answers : S_answers InvL := by
  intro x b y t0 t1 h
  obtain ⟨ox, oy, a1, a2, a3, a4⟩ := s_answers x b y t0 t1 h.1
  exact ⟨ox, oy, a1, a2, a3, a4, h.2⟩
theorem sl_fillings : S_fillings InvL := by
  intro x b y t0 t1 h p1
  obtain ⟨ox, oy, a1, a2, a3, a4⟩ := s_fillings x b y t0 t1 h.1 p1
  exact ⟨ox, oy, a1, a2, a3, a4, h.2⟩
theorem sl_weight : S_weight InvL := by
  intro x b y t0 t1 h p1
  obtain ⟨ox, oy, a1, a2, a3, a4⟩ := s_weight x b y t0 t1 h.1 p1
  exact ⟨ox, oy, a1, a2, a3, a4, h.2⟩
theorem sl_dead : S_dead InvL := by
  intro x b y t0 t1 h
  obtain ⟨ox, oy, a1, a2, a3, a4⟩ := s_dead x b y t0 t1 h.1
  exact ⟨ox, oy, a1, a2, a3, a4, h.2⟩
theorem sl_clearThreats : S_clearThreats InvL := by
  intro x b y t0 t1 h
  obtain ⟨ox, oy, a1, a2, a3, a4⟩ := s_clearThreats x b y t0 t1 h.1
  exact ⟨ox, oy, a1, a2, a3, a4, h.2⟩
theorem sl_threats : S_threats InvL := fun x b y t0 t1 h => s_threats x b y t0 t1 h.1
theorem sl_needed : S_needed InvL := fun x b y t0 t1 h => s_needed x b y t0 t1 h.1
theorem sl_randomGames : S_randomGames InvL := fun x b y t0 t1 h => s_randomGames x b y t0 t1 h.1
theorem sl_append : S_append InvL := by
  intro x b y t0 t1 h p1
  obtain ⟨ox, oy, a1, a2, a3, a4⟩ := s_append x b y t0 t1 h.1 p1
  exact ⟨ox, oy, a1, a2, a3, a4, h.2⟩
theorem sl_clearText : S_clearText InvL := by
  intro x b y t0 t1 h
  obtain ⟨ox, oy, a1, a2, a3, a4⟩ := s_clearText x b y t0 t1 h.1
  exact ⟨ox, oy, a1, a2, a3, a4, h.2⟩
theorem sl_faultPosition : S_faultPosition InvL := by
  intro x b y t0 t1 h
  obtain ⟨ox, oy, a1, a2, a3, a4⟩ := s_faultPosition x b y t0 t1 h.1
  exact ⟨ox, oy, a1, a2, a3, a4, h.2⟩
theorem sl_read : S_read InvL := by
  intro x b y t0 t1 h
  obtain ⟨ox, oy, a1, a2, a3, a4⟩ := s_read x b y t0 t1 h.1
  exact ⟨ox, oy, a1, a2, a3, a4, h.2⟩
theorem sl_checksum : S_checksum InvL := by
  intro x b y t0 t1 h
  obtain ⟨ox, oy, a1, a2, a3, a4⟩ := s_checksum x b y t0 t1 h.1
  exact ⟨ox, oy, a1, a2, a3, a4, h.2⟩
theorem sl_begin : S_begin InvL := by
  intro x b y t0 t1 h p1
  obtain ⟨c1, c2, c3⟩ := s_begin x b y t0 t1 h.1 p1
  refine ⟨fun e => ?_, fun e1 e2 => ?_, fun e1 e2 => ?_⟩
  · obtain ⟨oy, a1, a2, a3⟩ := c1 e
    exact ⟨oy, a1, a2, a3, h.2⟩
  · obtain ⟨oy, a1, a2, a3⟩ := c2 e1 e2
    exact ⟨oy, a1, a2, a3, h.2⟩
  · obtain ⟨u1, oy, a1, a2, a3, a4⟩ := c3 e1 e2
    exact ⟨u1, oy, a1, a2, a3, fun q => ⟨a4 q, h.2⟩⟩
theorem sl_save : S_save InvL := by
  intro x b y t0 t1 h p1
  obtain ⟨c1, c2, c3, c4⟩ := s_save x b y t0 t1 h.1 p1
  refine ⟨fun e => ?_, fun e1 e2 => ?_, fun e => ?_, fun e => ?_⟩
  · obtain ⟨oy, a1, a2, a3⟩ := c1 e
    exact ⟨oy, a1, a2, a3, h.2⟩
  · obtain ⟨oy, a1, a2, a3⟩ := c2 e1 e2
    exact ⟨oy, a1, a2, a3, h.2⟩
  · obtain ⟨u, oy, a1, a2, a3, a4⟩ := c3 e
    exact ⟨u, oy, a1, a2, a3, fun g l9 sl => ⟨a4 g l9 sl, h.2⟩⟩
  · obtain ⟨u, oy, a1, a2, a3, a4⟩ := c4 e
    exact ⟨u, oy, a1, a2, a3, fun g l9 sl => ⟨a4 g l9 sl, h.2⟩⟩
theorem sl_restore : S_restore InvL := by
  intro x b y t0 t1 h p1
  obtain ⟨c1, c2, c3, c4⟩ := s_restore x b y t0 t1 h.1 p1
  refine ⟨fun e => ?_, fun e1 e2 => ?_, fun e => ⟨fun e2 => ?_, fun g l9 bd mm kk li s0 s1 bf e2 => ?_⟩, fun e => ⟨fun e2 => ?_, fun g l9 bd mm kk li s0 s1 bf e2 => ?_⟩⟩
  · obtain ⟨oy, a1, a2, a3⟩ := c1 e
    exact ⟨oy, a1, a2, a3, h.2⟩
  · obtain ⟨oy, a1, a2, a3⟩ := c2 e1 e2
    exact ⟨oy, a1, a2, a3, h.2⟩
  · obtain ⟨oy, a1, a2, a3⟩ := (c3 e).1 e2
    exact ⟨oy, a1, a2, a3, h.2⟩
  · obtain ⟨u1, oy, a1, a2, a3, a4⟩ := (c3 e).2 g l9 bd mm kk li s0 s1 bf e2
    exact ⟨u1, oy, a1, a2, a3, a4, h.2⟩
  · obtain ⟨oy, a1, a2, a3⟩ := (c4 e).1 e2
    exact ⟨oy, a1, a2, a3, h.2⟩
  · obtain ⟨u1, oy, a1, a2, a3, a4⟩ := (c4 e).2 g l9 bd mm kk li s0 s1 bf e2
    exact ⟨u1, oy, a1, a2, a3, a4, h.2⟩
theorem LI_z : LI (fun _ => 0) := fun c _ => ⟨0, rfl, by have := nzn_le 9 c; omega⟩
theorem sl_init : S_init InvL := by
  obtain ⟨u3, u1, a1, a2, a3⟩ := s_init
  exact ⟨u3, u1, a1, a2, fun q => ⟨a3 q, LI_z⟩⟩
theorem all_s : AllS InvL := ⟨sl_begin, sl_rows, sl_play, sl_swap, sl_takeBack, sl_again, sl_moves, sl_moveAt, sl_turn, sl_winner, sl_stones, sl_beside, sl_chains, sl_chainOf, sl_chain, sl_distance, sl_shortest, sl_cut, sl_bridges, sl_bridge, sl_answers, sl_fillings, sl_weight, sl_dead, s_solve, s_winningMoves, s_duration, s_winningOpenings, s_strength, s_smallestFull, s_addThreat, sl_clearThreats, sl_threats, sl_needed, sl_randomGames, sl_append, sl_clearText, sl_faultPosition, sl_read, sl_save, sl_restore, sl_checksum⟩
theorem whole_start {p : Program} {e : Env} {s : State} {m : MethodId} {below : List Frame} {meth : Method} {c : Code} (l : Launch) (hflags : l.flags = flags0) {b L : Nat} {xs : Nat → Int32} (hL : L ≤ 3072) (C0 : lw_At p s m meth c b L xs) : W p l e room_1 s m #[Value.ref b] below meth c s.heap [] 0 0 (lw_Z below #[Value.ref b] s) (entryFrame m ([Value.ref b] : List Value).toArray 4) :=
  whole_start0 l hL C0 all_s sl_init
