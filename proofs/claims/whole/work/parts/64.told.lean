/-! PURE: what is told, read off the state, on both sides -/
theorem bc_tab (u : St) : ∀ s, s < 256 → wp_J6_bitCount_0f7a4 (nI s) u (fun r _ => r = nI (popc s)) := by
  unfold wp_J6_bitCount_0f7a4
  show ∀ s, s < 256 → _ = nI (popc s)
  decide +kernel
theorem s_bitCount {s : Nat} {u : St} {Q : Int32 → St → Prop} (hs : s < 256) (h : Q (nI (popc s)) u) : wp_J6_bitCount_0f7a4 (nI s) u Q := by
  have e : _ = nI (popc s) := bc_tab u s hs
  unfold wp_J6_bitCount_0f7a4
  rw [e]
  exact h
def popk (s : Nat) : Nat → Nat
  | 0 => 0
  | k + 1 => popk s k + (s.testBit k).toNat
theorem s_bitsOf {s : Nat} {u : St} {Q : Int32 → St → Prop} (hs : s < 256) (h : Q (nI (popc s)) u) : wp_X5_bitsOf (nI s) u Q := by
  unfold wp_X5_bitsOf
  simp only [wp_X5_bitsOf_L4]
  refine lc2 8 (fun i a v => v = u ∧ a = nI (popk s i)) ⟨rfl, rfl⟩ ?_ ?_
  · rintro K i a v hi ⟨rfl, rfl⟩ hK
    unfold wp_X5_bitsOf_B4
    refine ⟨fun c => absurd c (nI_ge hi (by decide)), fun _ => ?_⟩
    rw [nI_bit (by omega) (by omega), nI_add, nI_1]
    exact hK _ _ ⟨rfl, rfl⟩
  · rintro K a v ⟨rfl, rfl⟩
    unfold wp_X5_bitsOf_B4
    refine ⟨fun _ => ?_, fun c => absurd (Int32.le_refl _) c⟩
    have : popk s 8 = popc s := by simp [popk, popc]
    rw [this]
    exact h
def SX (u v : St) : Prop := Same (fun k => ¬ ((15 ≤ k ∧ k ≤ 19) ∨ (22 ≤ k ∧ k ≤ 37))) u v
def SM (u v : St) : Prop := Same (fun k => ¬ (k = 45 ∨ (53 ≤ k ∧ k ≤ 60))) u v
theorem SX.frm {u v : St} (h : SX u v) : Frm u v := Frm.same h (fun k hk => by unfold pers at hk; omega) (by omega) (by omega)
theorem SM.frm {u v : St} (h : SM u v) : Frm u v := Frm.same h (fun k hk => by unfold pers at hk; omega) (by omega) (by omega)
theorem SX.trans {u v w : St} (h : SX u v) (h2 : SX v w) : SX u w := Same.trans h h2
theorem SM.trans {u v w : St} (h : SM u v) (h2 : SM v w) : SM u w := Same.trans h h2
theorem inv_q {u v : St} {A : Int32} (h : Inv u) (f : Frm u v) (e0 : gi v 0 12 = A) (e9 : gi v 39 2 = A) (l : ∀ k i, k = 0 ∨ k = 39 → gl v k i = gl u k i) : Inv v := ⟨h.1.frm f, e9.trans e0.symm, (l _ _ (Or.inr rfl)).trans (h.2.2.1.trans (l _ _ (Or.inl rfl)).symm), (l _ _ (Or.inr rfl)).trans (h.2.2.2.trans (l _ _ (Or.inl rfl)).symm)⟩
theorem Inv.sx {u v : St} (h : Inv u) (s : SX u v) : Inv v := inv_q (A := gi u 0 12) h s.frm (s.1 _ _ (by omega)) ((s.1 _ _ (by omega)).trans h.2.1) (fun k i hk => s.2 _ _ (by omega))
theorem Inv.sm {u v : St} (h : Inv u) (s : SM u v) : Inv v := inv_q (A := gi u 0 12) h s.frm (s.1 _ _ (by omega)) ((s.1 _ _ (by omega)).trans h.2.1) (fun k i hk => s.2 _ _ (by omega))
/-- the answers are told, by both -/
theorem Inv.ans {u v w : St} {A : Int32} (h : Inv u) (s : SX u v) (t : SM (si v 0 12 A) w) : Inv (si w 39 2 A) := by
  refine inv_q (A := A) h (((s.frm.wr (k := 0) (i := 12) (x := A) (by unfold pers; omega) (fun _ => by decide) (fun q => absurd q (by decide))).trans t.frm).wr (by unfold pers; omega) (fun q => absurd q (by decide)) (fun _ => by decide)) ?_ gi_same (fun k i hk => ?_)
  · rw [gi_nk (by decide), t.1 _ _ (by omega), gi_same]
  · rw [gl_si, t.2 _ _ (by omega), gl_si, s.2 _ _ (by omega)]
theorem s_toldAt {b : Bd} {m : Mt} {mb : Nat} {u : St} {Q : Int32 → St → Prop} (hmb : isMom mb) (hb : bdOk b) (hm : mtOk m) (hL : LX 10 b u) (hM : MX mb m u) (h : ∀ v, SX u v → Q (nI (toldF b m (mP m))) v) : wp_X4_toldAt mb u Q := by
  have hmb' : mb = 20 ∨ mb = 22 := hmb
  unfold wp_X4_toldAt
  refine s_X3_attach (Or.inl rfl) hmb hL hM hb hm (fun v hw hs => ?_)
  rw [(hM.same hs (mom_notW hmb)).2.1]
  refine s_X3_toldOf hb hm.2.2.1 hw (fun w ht => h w ?_)
  exact Same.trans (hs.weak (fun k hk => by unfold notW; omega)) (ht.weak (fun k hk => by unfold notT; omega))
/-- what the state says of board and moment -/
def Now (b : Bd) (m : Mt) (nd : Nat) (u : St) : Prop := bdOk b ∧ bdD b ∧ (bN b = 0 ∨ 2 ≤ bN b) ∧ mOk (bN b) 40 m ∧ LX 10 b u ∧ BM b u ∧ MX 20 m u ∧ NM m nd u
theorem Inv.now {u : St} (h : Inv u) : ∃ b m nd, Now b m nd u := by
  obtain ⟨⟨-, -, -, -, b, hB, ⟨ds, nd, hD⟩, -⟩, -⟩ := h
  have h1 := mtR_ok (n := bN b) (ds := ds) (k := nd) (fun i hi => (hD.2.2.2.1 i hi).1)
  exact ⟨b, mtR ds nd, nd, hB.1, hB.2.1, hB.2.2.1, ⟨Nat.le_trans h1.1 hD.1, h1.2⟩, hB.2.2.2.1, hB.2.2.2.2, hD.2.2.2.2.2, hD.1, hD.2.2.1, fun j hj => hD.2.2.2.2.1 nd (Nat.le_refl _) j hj⟩
theorem Now.frm {b : Bd} {m : Mt} {nd : Nat} {u v : St} (h : Now b m nd u) (f : Frm u v) : Now b m nd v := by
  obtain ⟨h1, h2, h3, h4, h5, h6, h7, h8⟩ := h
  have p : ∀ k, (1 ≤ k ∧ k ≤ 14) ∨ k = 20 ∨ k = 21 ∨ k = 38 ∨ (40 ≤ k ∧ k ≤ 44) ∨ (46 ≤ k ∧ k ≤ 52) → pers k := fun k h => h
  exact ⟨h1, h2, h3, h4, h5.same f.1 (fun j hj => p _ (by omega)), h6.same f.1 f.2.2.2.1 ⟨p _ (by omega), p _ (by omega), p _ (by omega), p _ (by omega)⟩, h7.same f.1 (fun j hj => p _ (by omega)), h8.1, f.2.2.2.2.trans h8.2.1, fun j hj => (f.1.1 _ _ (p _ (by omega))).trans (h8.2.2 j hj)⟩
theorem Now.mt {b : Bd} {m : Mt} {nd : Nat} {u : St} (h : Now b m nd u) : mtOk m := mOk_mt h.2.2.2.1 h.1.1 (by decide)
theorem Now.toldX {b : Bd} {m : Mt} {nd : Nat} {u : St} {Q : Int32 → St → Prop} (h : Now b m nd u) (hq : ∀ v, SX u v → Q (nI (toldF b m (mP m))) v) : wp_X4_toldNow u Q := by
  unfold wp_X4_toldNow
  exact s_toldAt (Or.inl rfl) h.1 h.mt h.2.2.2.2.1 h.2.2.2.2.2.2.1 hq
theorem Now.take {b : Bd} {m : Mt} {nd : Nat} {u : St} {Q : St → Prop} (h : Now b m nd u) (hq : ∀ v, SM u v → TM b m (mP m) v → Q v) : wp_X5_take u Q :=
  s_X5_take h.1 h.2.2.2.2.2.1 h.2.2.2.2.2.2.2 (fun v hT hs => hq v (hs.weak (fun k hk => by unfold notK; omega)) hT)
theorem Now.toldM {b : Bd} {m : Mt} {nd : Nat} {u : St} {Q : Int32 → St → Prop} (h : Now b m nd u) (hq : ∀ v, SM u v → TM b m (mP m) v → Q (nI (toldF b m (mP m))) v) : wp_X5_toldNow u Q := by
  unfold wp_X5_toldNow
  refine h.take (fun v hs hT => s_X5_toldBy h.1 h.mt h.mt.2.2.1 hT (fun w ht => hq w (hs.trans (ht.weak (fun k hk => by omega))) (hT.same ht (by decide))))
theorem s_toldOfM {b : Bd} {m : Mt} {s0 s : Nat} {u : St} {Q : Int32 → St → Prop} (hb : bdOk b) (hm : mtOk m) (hs : s < 128) (hT : TM b m s0 u) (h : ∀ v, SM u v → TM b m s v → Q (nI (toldF b m s)) v) : wp_X5_toldOf (nI s) u Q := by
  unfold wp_X5_toldOf
  simp only [nxt]
  rw [show Int32.toNatClampNeg 0 = 0 from rfl]
  have hT2 : TM b m s (si u 53 0 (nI s)) := by
    obtain ⟨t1, t2, t3, t4, t5, t6⟩ := hT
    refine ⟨by rw [gi_nk (by decide)]; exact t1, fun i hi => ?_, gi_same, by rw [gi_ni (by decide)]; exact t4, by rw [gi_ni (by decide)]; exact t5, fun i hi => by rw [gi_ni (by omega)]; exact t6 i hi⟩
    rw [gi_nk (by decide), gi_nk (by decide), gi_nk (by decide), gi_nk (by decide)]
    exact t2 i hi
  refine ⟨v0_10, s_X5_toldBy hb hm hs hT2 (fun w ht => h w ?_ (hT2.same ht (by decide)))⟩
  exact Same.trans (Same.si (Same.rfl' (u := u)) (by omega)) (ht.weak (fun k hk => by omega))
theorem Now.nowM {b : Bd} {m : Mt} {nd j : Nat} {u : St} {Q : Int32 → St → Prop} (h : Now b m nd u) (hj : j < 10) (hq : Q (nI (mtv m j)) u) : wp_X5_now (nI j) u Q := s_X5_now h.2.2.2.2.2.2.2 hj hq
theorem ndf_lt {s t : Nat} (h : s < 128) : ndf s t < 128 := lt_two_pow_of_bits (n := 7) (fun i hi => by rw [ndf_bit, bit_big (n := 7) h hi]; rfl)
theorem p_told {u : St} (h : Inv u) {K1 : Int32 → St → Prop} (hK : ∀ r u1, Nx (wp_X5_told u1) r → K1 r u1) : wp_X4_told u K1 := by
  obtain ⟨b, m, nd, hN⟩ := h.now
  have ht := toldF_lt7 hN.1 m (mP m)
  unfold wp_X4_told
  refine hN.toldX (fun v hs => ?_)
  have hNv := hN.frm hs.frm
  rw [hNv.2.2.2.2.2.2.1.2.1, nI_ndf]
  refine s_bitCount (Nat.lt_trans (ndf_lt ht) (by decide)) ?_
  simp only [nxt]
  refine hK _ _ (fun K2 h2 => ?_)
  have hNw := hNv.frm (Frm.rfl'.wr (k := 0) (i := 12) (x := nI (popc (ndf (toldF b m (mP m)) (mP m)))) (by unfold pers; omega) (fun _ => by decide) (fun q => absurd q (by decide)))
  unfold wp_X5_told wp_X5_tellAsked
  refine hNw.toldM (fun w hw _ => ?_)
  refine (hNw.frm hw.frm).nowM (j := 0) (by decide) ?_
  rw [show mtv m 0 = mP m from rfl, nI_ndf]
  refine s_bitsOf (Nat.lt_trans (ndf_lt ht) (by decide)) ?_
  simp only [nxt]
  exact h2 _ (h.ans hs hw)
theorem p_ghosts {u : St} (h : Inv u) {K1 : Int32 → St → Prop} (hK : ∀ r u1, Nx (wp_X5_ghosts u1) r → K1 r u1) : wp_X4_ghosts u K1 := by
  obtain ⟨b, m, nd, hN⟩ := h.now
  unfold wp_X4_ghosts
  refine hN.toldX (fun v hs => ?_)
  have hNv := hN.frm hs.frm
  simp only [nxt]
  rw [hNv.2.2.2.2.2.2.1.2.1, nI_ndf, gi_nk (show (20 : Nat) ≠ 0 by decide), hNv.2.2.2.2.2.2.1.2.1, nI_ndf]
  refine hK _ _ (fun K2 h2 => ?_)
  have hNw := hNv.frm (Frm.rfl'.wr (k := 0) (i := 12) (x := nI (ndf (mP m) (toldF b m (mP m)))) (by unfold pers; omega) (fun _ => by decide) (fun q => absurd q (by decide)))
  unfold wp_X5_ghosts wp_X5_tellAsked
  refine hNw.toldM (fun w hw _ => ?_)
  refine (hNw.frm hw.frm).nowM (j := 0) (by decide) ?_
  simp only [nxt]
  rw [show mtv m 0 = mP m from rfl, nI_ndf]
  refine Now.nowM (j := 0) ((hNw.frm hw.frm).frm (Frm.rfl'.wr (k := 39) (i := 2) (by unfold pers; omega) (fun q => absurd q (by decide)) (fun _ => by decide))) (by decide) ?_
  rw [show mtv m 0 = mP m from rfl, nI_ndf]
  exact h2 _ (h.ans hs hw)
theorem p_reads {a : Int32} {u : St} (h : Inv u) {K1 : Int32 → St → Prop} (hK : ∀ r u1, Nx (wp_X5_reads a u1) r → K1 r u1) : wp_X4_reads a u K1 := by
  obtain ⟨b, m, nd, hN⟩ := h.now
  unfold wp_X4_reads
  have bad : (a < 0 ∨ nI 4 ≤ a) → Nx (wp_X5_reads a u) (-1) := fun c K2 h2 => by
    unfold wp_X5_reads
    exact line_bad c ⟨fun q => absurd rfl q, fun _ => h2 u h⟩
  rcases pk_ix a (n := 4) (by decide) with c | c | ⟨l, hl, rfl⟩
  · exact w_bad (Or.inl c) ⟨fun q => absurd rfl q, fun _ => hK _ _ (bad (Or.inl c))⟩
  · exact w_bad (Or.inr c) ⟨fun q => absurd rfl q, fun _ => hK _ _ (bad (Or.inr c))⟩
  · refine w_ok (P := 4) hl (by decide) ⟨fun _ => ?_, fun q => absurd q (by decide)⟩
    refine s_X3_attach (Or.inl rfl) (Or.inl rfl) hN.2.2.2.2.1 hN.2.2.2.2.2.2.1 hN.1 hN.mt (fun v hw hs => ?_)
    rw [(hN.2.2.2.2.2.2.1.same hs (mom_notW (Or.inl rfl))).2.1]
    refine s_X3_columnsReadBy hN.1 hN.mt.2.2.1 hl hw (fun w ht => hK _ _ (fun K2 h2 => ?_))
    have hsx : SX u w := Same.trans (hs.weak (fun k hk => by unfold notW; omega)) (ht.weak (fun k hk => by unfold notC; omega))
    unfold wp_X5_reads
    refine line_ok hl ⟨fun _ => (hN.frm hsx.frm).take (fun x hx hT => s_X5_readBy hN.1 hN.mt hN.mt.2.2.1 hl hT (h2 _ ((h.sx hsx).sm hx))), fun q => absurd q (by decide)⟩
theorem p_asked {u : St} (h : Inv u) {K1 : Int32 → St → Prop} (hK : ∀ r u1, Nx (wp_X5_asked u1) r → K1 r u1) : wp_X4_asked u K1 := hK _ _ (fun K2 h2 => by unfold wp_X5_asked; rw [h.2.1]; exact h2 u h)
theorem p_upper {u : St} (h : Inv u) {K1 : Int64 → St → Prop} (hK : ∀ r u1, NxL (wp_X5_upper u1) r → K1 r u1) : wp_X4_upper u K1 := hK _ _ (fun K2 h2 => by unfold wp_X5_upper; rw [h.2.2.1]; exact h2 u h)
theorem p_lower {u : St} (h : Inv u) {K1 : Int64 → St → Prop} (hK : ∀ r u1, NxL (wp_X5_lower u1) r → K1 r u1) : wp_X4_lower u K1 := hK _ _ (fun K2 h2 => by unfold wp_X5_lower; rw [h.2.2.2]; exact h2 u h)
theorem p_finding {u : St} (h : Inv u) {K1 : Int32 → St → Prop} (hK : ∀ r u1, Nx (wp_X5_finding u1) r → K1 r u1) : wp_X4_finding u K1 := hK _ _ (fun K2 h2 => by unfold wp_X5_finding; rw [h.1.2.2.2.1.1]; exact h2 u h)
theorem p_findings {a : Int32} {u : St} (h : Inv u) {K1 : Int32 → St → Prop} (hK : ∀ r u1, Nx (wp_X5_findings a u1) r → K1 r u1) : wp_X4_findings a u K1 := by
  unfold wp_X4_findings
  have bad : (a < 1 ∨ 5 < a) → Nx (wp_X5_findings a u) (-1) := fun c K2 h2 => by
    unfold wp_X5_findings wp_X5_in
    exact ⟨fun _ => ⟨fun _ => h2 u h, fun q => absurd rfl q⟩, fun c1 => ⟨fun _ => ⟨fun _ => h2 u h, fun q => absurd rfl q⟩, fun c2 => absurd c (fun q => q.elim c1 c2)⟩⟩
  refine ⟨fun c => hK _ _ (bad (Or.inl c)), fun c1 => ⟨fun c2 => ?_, fun c2 => hK _ _ (bad (Or.inr (Int32.not_le.mp c2)))⟩⟩
  have h0 : ¬ a < 0 := fun q => c1 (Int32.lt_trans q (by decide))
  obtain ⟨f, hf, rfl⟩ := nI_of2 (M := 5) (n := 5) (by decide) h0 c2
  refine ⟨vp_in_nI (by omega) (by decide), ?_⟩
  rw [tNn (by omega)]
  refine hK _ _ (fun K2 h2 => ?_)
  unfold wp_X5_findings wp_X5_in
  refine ⟨fun q => absurd q c1, fun _ => ⟨fun q => absurd c2 (Int32.not_le.mpr q), fun _ => ⟨fun q => absurd q (by decide), fun _ => ⟨vp_in_nI (by omega) (by decide), ?_⟩⟩⟩⟩
  rw [tNn (by omega), h.1.2.2.2.1.2 f (by omega)]
  exact h2 u h
