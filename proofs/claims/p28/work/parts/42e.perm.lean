/-! ===== counting over a renaming; the stone turned ===== -/
theorem cntB_at {f g : Nat → Bool} {j : Nat} : ∀ {n : Nat}, j < n → (∀ i, i < n → i ≠ j → f i = g i) → cntB f n + (if g j then 1 else 0) = cntB g n + (if f j then 1 else 0) := by
  intro n
  induction n with
  | zero => intro h; omega
  | succ n ih =>
    intro hj h
    show cntB f n + (if f n then 1 else 0) + _ = cntB g n + (if g n then 1 else 0) + _
    by_cases e : j = n
    · subst e
      rw [cntB_congr (p := f) (q := g) (fun i hi => h i (by omega) (by omega))]
      omega
    · have := ih (by omega) (fun i hi => h i (by omega))
      rw [h n (by omega) (fun q => e q.symm)]
      omega
theorem cntB_perm : ∀ (n : Nat) (s : Nat → Nat) (p : Nat → Bool), (∀ i, i < n → s i < n) → (∀ i, i < n → ∀ j, j < n → s i = s j → i = j) → cntB (fun i => p (s i)) n = cntB p n := by
  intro n
  induction n with
  | zero => intro s p _ _; rfl
  | succ n ih =>
    intro s p h1 h2
    show cntB (fun i => p (s i)) n + (if p (s n) then 1 else 0) = cntB p n + (if p n then 1 else 0)
    by_cases e : s n = n
    · rw [e, ih s p (fun i hi => ?_) (fun i hi j hj q => h2 i (by omega) j (by omega) q)]
      have := h1 i (by omega)
      have : s i ≠ n := fun q => by have := h2 i (by omega) n (by omega) (q.trans e.symm); omega
      omega
    · have hn := h1 n (by omega)
      obtain ⟨j, hj, hjn⟩ : ∃ j, j < n ∧ s j = n := by
        apply Classical.byContradiction
        intro hno
        have := php n (n + 1) s (fun i hi => ?_) h2
        · omega
        · have := h1 i hi
          have : s i ≠ n := fun q => by
            by_cases z : i = n
            · subst z; exact e q
            · exact hno ⟨i, by omega, q⟩
          omega
      have k := cntB_at (f := fun i => p (s i)) (g := fun i => p (if s i = n then s n else s i)) (j := j) (n := n) hj (fun i hi hij => by
        have : s i ≠ n := fun q => hij (h2 i (by omega) j (by omega) (q.trans hjn.symm))
        show p (s i) = p (if s i = n then s n else s i)
        rw [if_neg this])
      have e1 : (fun i => p (if s i = n then s n else s i)) j = p (s n) := by show p (if s j = n then s n else s j) = _; rw [if_pos hjn]
      have e2 : (fun i => p (s i)) j = p n := by show p (s j) = _; rw [hjn]
      replace k : cntB (fun i => p (s i)) n + (if p (s n) then 1 else 0) = cntB (fun i => p (if s i = n then s n else s i)) n + (if p n then 1 else 0) := by
        rw [← e1, ← e2]; exact k
      rw [k, ih (fun i => if s i = n then s n else s i) p (fun i hi => ?_) (fun i hi i2 hi2 q => ?_)]
      · show (if s i = n then s n else s i) < n
        have := h1 i (by omega)
        split <;> omega
      · replace q : (if s i = n then s n else s i) = (if s i2 = n then s n else s i2) := q
        by_cases a : s i = n
        · by_cases b : s i2 = n
          · exact h2 i (by omega) i2 (by omega) (a.trans b.symm)
          · rw [if_pos a, if_neg b] at q
            have := h2 n (by omega) i2 (by omega) q
            omega
        · by_cases b : s i2 = n
          · rw [if_neg a, if_pos b] at q
            have := h2 i (by omega) n (by omega) q
            omega
          · rw [if_neg a, if_neg b] at q
            exact h2 i (by omega) i2 (by omega) q
/-- a turn to the right: of a place, of a cell, of a gate -/
def rtS (H : Nat) (s : Pos) : Pos := (s.2.1, H - 1 - s.1, (s.2.2 + 1) % 4)
def rtC (W H k : Nat) : Nat := (k % W) * H + (H - 1 - k / W)
def rtG (W H g : Nat) : Nat := if g < W then H + g else if g < W + H then 2 * H + 2 * W - 1 - g else if g < 2 * W + H then H + g else 2 * W + 2 * H - 1 - g
theorem tcB_35 {v : Int32} : tcB v = 35 ↔ v = 35 := by
  unfold tcB
  by_cases a : v = 47
  · subst a; decide
  · rw [if_neg a]
    by_cases b : v = 92
    · subst b; decide
    · rw [if_neg b]
theorem tcB_tcB (v : Int32) : tcB (tcB v) = v := by
  unfold tcB
  by_cases a : v = 47
  · subst a; decide
  · by_cases b : v = 92
    · subst b; decide
    · simp [a, b]
theorem trn_rt (v : Int32) {d : Nat} (h : d < 4) : trn (tcB v) ((d + 1) % 4) = (trn v d + 1) % 4 := by
  unfold trn tcB
  rcases lt4 h with rfl | rfl | rfl | rfl <;> by_cases a : v = 47 <;> by_cases b : v = 92 <;> simp_all
section ROT
variable {W H : Nat} {C : Cel}
theorem mv_rt (hW : 0 < W) (hH : 0 < H) {r c d : Nat} (hr : r < H) (hc : c < W) (hd : d < 4) : mv H W c (H - 1 - r) ((d + 1) % 4) = match mv W H r c d with
    | .inl t => .inl (rtS H t)
    | .inr q => .inr (rtG W H q) := by
  rcases lt4 hd with rfl | rfl | rfl | rfl
  · show mv H W c (H - 1 - r) 1 = _
    by_cases e : r = 0
    · have h1 : mv W H r c 0 = .inr c := by unfold mv; rw [if_pos rfl, if_pos e]
      have h2 : mv H W c (H - 1 - r) 1 = .inr (H + c) := by unfold mv; rw [if_neg (by decide), if_pos rfl, if_pos (by omega)]
      rw [h1, h2]
      show Sum.inr _ = Sum.inr (rtG W H c)
      unfold rtG
      rw [if_pos hc]
    · have h1 : mv W H r c 0 = .inl (r - 1, c, 0) := by unfold mv; rw [if_pos rfl, if_neg e]
      have h2 : mv H W c (H - 1 - r) 1 = .inl (c, H - 1 - r + 1, 1) := by unfold mv; rw [if_neg (by decide), if_pos rfl, if_neg (by omega)]
      rw [h1, h2]
      show Sum.inl (c, H - 1 - r + 1, 1) = Sum.inl (c, H - 1 - (r - 1), 1)
      rw [show H - 1 - (r - 1) = H - 1 - r + 1 by omega]
  · show mv H W c (H - 1 - r) 2 = _
    by_cases e : c + 1 = W
    · have h1 : mv W H r c 1 = .inr (W + r) := by unfold mv; rw [if_neg (by decide), if_pos rfl, if_pos e]
      have h2 : mv H W c (H - 1 - r) 2 = .inr (H + W + (H - 1 - r)) := by unfold mv; rw [if_neg (by decide), if_neg (by decide), if_pos rfl, if_pos e]
      rw [h1, h2]
      show Sum.inr _ = Sum.inr (rtG W H (W + r))
      unfold rtG
      rw [if_neg (by omega), if_pos (by omega)]
      congr 1
      omega
    · have h1 : mv W H r c 1 = .inl (r, c + 1, 1) := by unfold mv; rw [if_neg (by decide), if_pos rfl, if_neg e]
      have h2 : mv H W c (H - 1 - r) 2 = .inl (c + 1, H - 1 - r, 2) := by unfold mv; rw [if_neg (by decide), if_neg (by decide), if_pos rfl, if_neg e]
      rw [h1, h2]
      rfl
  · show mv H W c (H - 1 - r) 3 = _
    by_cases e : r + 1 = H
    · have h1 : mv W H r c 2 = .inr (W + H + c) := by unfold mv; rw [if_neg (by decide), if_neg (by decide), if_pos rfl, if_pos e]
      have h2 : mv H W c (H - 1 - r) 3 = .inr (2 * H + W + c) := by unfold mv; rw [if_neg (by decide), if_neg (by decide), if_neg (by decide), if_pos (by omega)]
      rw [h1, h2]
      show Sum.inr _ = Sum.inr (rtG W H (W + H + c))
      unfold rtG
      rw [if_neg (by omega), if_neg (by omega), if_pos (by omega)]
      congr 1
      omega
    · have h1 : mv W H r c 2 = .inl (r + 1, c, 2) := by unfold mv; rw [if_neg (by decide), if_neg (by decide), if_pos rfl, if_neg e]
      have h2 : mv H W c (H - 1 - r) 3 = .inl (c, H - 1 - r - 1, 3) := by unfold mv; rw [if_neg (by decide), if_neg (by decide), if_neg (by decide), if_neg (by omega)]
      rw [h1, h2]
      show Sum.inl (c, H - 1 - r - 1, 3) = Sum.inl (c, H - 1 - (r + 1), 3)
      rw [show H - 1 - (r + 1) = H - 1 - r - 1 by omega]
  · show mv H W c (H - 1 - r) 0 = _
    by_cases e : c = 0
    · have h1 : mv W H r c 3 = .inr (2 * W + H + r) := by unfold mv; rw [if_neg (by decide), if_neg (by decide), if_neg (by decide), if_pos e]
      have h2 : mv H W c (H - 1 - r) 0 = .inr (H - 1 - r) := by unfold mv; rw [if_pos rfl, if_pos e]
      rw [h1, h2]
      show Sum.inr _ = Sum.inr (rtG W H (2 * W + H + r))
      unfold rtG
      rw [if_neg (by omega), if_neg (by omega), if_neg (by omega)]
      congr 1
      omega
    · have h1 : mv W H r c 3 = .inl (r, c - 1, 3) := by unfold mv; rw [if_neg (by decide), if_neg (by decide), if_neg (by decide), if_neg e]
      have h2 : mv H W c (H - 1 - r) 0 = .inl (c - 1, H - 1 - r, 0) := by unfold mv; rw [if_pos rfl, if_neg e]
      rw [h1, h2]
      show Sum.inl (c - 1, H - 1 - r, 0) = Sum.inl (c - 1, H - 1 - r, (3 + 1) % 4)
      rw [show (3 + 1) % 4 = 0 by decide]
theorem ent_rt (hW : 0 < W) (hH : 0 < H) {g : Nat} (hg : g < 2 * (W + H)) : ent H W (rtG W H g) = rtS H (ent W H g) := by
  unfold ent rtG rtS
  by_cases h1 : g < W
  · rw [if_pos h1, if_pos h1, if_neg (by omega), if_pos (by omega)]
    simp
  · rw [if_neg h1, if_neg h1]
    by_cases h2 : g < W + H
    · rw [if_pos h2, if_pos h2, if_neg (by omega), if_neg (by omega), if_pos (by omega)]
      simp
      omega
    · rw [if_neg h2, if_neg h2]
      by_cases h3 : g < 2 * W + H
      · rw [if_pos h3, if_pos h3, if_neg (by omega), if_neg (by omega), if_neg (by omega)]
        simp
        omega
      · rw [if_neg h3, if_neg h3, if_pos (by omega)]
        simp
        omega
theorem byt_rt {s : Pos} (hs : inS W H s) : byt H (trC W H C) (rtS H s) = tcB (byt W C s) := by
  show trC W H C (s.2.1 * H + (H - 1 - s.1)) = _
  exact trC_at hs.1 hs.2.1
theorem nxt_rt (hW : 0 < W) (hH : 0 < H) {s : Pos} (hs : inS W H s) : nxt H W (trC W H C) (rtS H s) = match nxt W H C s with
    | .inl t => .inl (rtS H t)
    | .inr q => .inr (rtG W H q) := by
  have h1 := mv_rt hW hH hs.1 hs.2.1 (trn_lt (byt W C s) hs.2.2)
  unfold nxt
  rw [byt_rt hs]
  show mv H W s.2.1 (H - 1 - s.1) (trn (tcB (byt W C s)) ((s.2.2 + 1) % 4)) = _
  rw [trn_rt _ hs.2.2, h1]
theorem itp_rt (hW : 0 < W) (hH : 0 < H) {g : Nat} (hg : g < 2 * (W + H)) : ∀ i, itp H W (trC W H C) (rtG W H g) i = (itp W H C g i).map (rtS H) := by
  intro i
  induction i with
  | zero => show some _ = some _; rw [ent_rt hW hH hg]
  | succ i ih =>
    simp only [itp]
    rw [ih]
    cases e : itp W H C g i with
    | none => rfl
    | some s =>
      have hs := it_in hW hH hg e
      dsimp only [Option.map_some]
      rw [byt_rt hs, nxt_rt hW hH hs]
      by_cases q : byt W C s = 35
      · rw [if_pos q, if_pos (tcB_35.mpr q)]; rfl
      · rw [if_neg q, if_neg (fun z => q (tcB_35.mp z))]
        cases nxt W H C s <;> rfl
theorem rtG_lt {g : Nat} (hW : 0 < W) (hH : 0 < H) (hg : g < 2 * (W + H)) : rtG W H g < 2 * (H + W) := by
  unfold rtG
  split
  · omega
  · split
    · omega
    · split <;> omega
theorem rtG_inj {g g' : Nat} (hW : 0 < W) (hH : 0 < H) (hg : g < 2 * (W + H)) (hg' : g' < 2 * (W + H)) (h : rtG W H g = rtG W H g') : g = g' := by
  unfold rtG at h
  split at h
  · split at h
    · omega
    · split at h
      · omega
      · split at h <;> omega
  · split at h
    · split at h
      · omega
      · split at h
        · omega
        · split at h <;> omega
    · split at h
      · split at h
        · omega
        · split at h
          · omega
          · split at h <;> omega
      · split at h
        · omega
        · split at h
          · omega
          · split at h <;> omega
/-- the end, by the turned gate -/
noncomputable def eG (W H : Nat) (C : Cel) (g : Nat) : Nat := if bE W H C g = -1 then g else (bE W H C g).toNatClampNeg
theorem eG_c (hW : 0 < W) (hH : 0 < H) (hb : 2 * (W + H) ≤ 28) {g : Nat} (hg : g < 2 * (W + H)) : (bE W H C g = -1 ∧ eG W H C g = g) ∨ ∃ q, bE W H C g = Int32.ofNat q ∧ q < 2 * (W + H) ∧ eG W H C g = q := by
  unfold eG
  rcases bE_cases (C := C) hW hH hg with ⟨h1, -⟩ | ⟨q, h1, -, h3, -⟩
  · left; rw [if_pos h1]; exact ⟨h1, rfl⟩
  · right
    rw [h1, if_neg (g_ne (by omega)), oN_clamp (by omega)]
    exact ⟨q, rfl, h3, rfl⟩
theorem bd_rt (hW : 0 < W) (hH : 0 < H) (hb : 2 * (W + H) ≤ 28) {g : Nat} (hg : g < 2 * (W + H)) : bN H W (trC W H C) (rtG W H g) = bN W H C g ∧ bE H W (trC W H C) (rtG W H g) = (if bE W H C g = -1 then -1 else Int32.ofNat (rtG W H (eG W H C g))) := by
  have hr := rtG_lt hW hH hg
  obtain ⟨s, h1, h2⟩ := b_spec (C := C) hW hH hg
  have hs := it_in hW hH hg h1
  have h1' := itp_rt (C := C) hW hH hg (bL W H C g)
  rw [h1] at h1'
  rcases h2 with ⟨h2, h3⟩ | ⟨h2, q, h3, h4⟩
  · obtain ⟨e1, e2⟩ := b_eq hH hW hr (show Bd H W (trC W H C) (rtG W H g) (bL W H C g) (-1) from ⟨_, h1', Or.inl ⟨by rw [byt_rt hs]; exact tcB_35.mpr h2, rfl⟩⟩)
    rw [if_pos h3]
    exact ⟨by rw [e1]; rfl, e2⟩
  · have hx := nxt_rt (C := C) hW hH hs
    rw [h3] at hx
    obtain ⟨e1, e2⟩ := b_eq hH hW hr (show Bd H W (trC W H C) (rtG W H g) (bL W H C g) (Int32.ofNat (rtG W H q)) from ⟨_, h1', Or.inr ⟨by rw [byt_rt hs]; exact fun z => h2 (tcB_35.mp z), _, hx, rfl⟩⟩)
    have hq := (nxt_out hs h3).2
    have hne : bE W H C g ≠ -1 := by rw [h4]; exact g_ne (by omega)
    have heq : eG W H C g = q := by unfold eG; rw [if_neg hne, h4, oN_clamp (by omega)]
    rw [if_neg hne, heq]
    exact ⟨by rw [e1]; rfl, e2⟩
theorem pC_rt (hW : 0 < W) (hH : 0 < H) {g i : Nat} (hg : g < 2 * (W + H)) (hi : i < bN W H C g) : pC H W (trC W H C) (rtG W H g) i = rtC W H (pC W H C g i) := by
  have hs := pS_in (C := C) hW hH hg hi
  have h1 := itp_rt (C := C) hW hH hg i
  rw [it_some hW hH hg hi] at h1
  unfold pC
  rw [pS_of h1]
  generalize pS W H C g i = s at *
  show s.2.1 * H + (H - 1 - s.1) = ((s.1 * W + s.2.1) % W) * H + (H - 1 - (s.1 * W + s.2.1) / W)
  have e1 : (s.1 * W + s.2.1) % W = s.2.1 := by rw [Nat.add_comm, Nat.add_mul_mod_self_right, Nat.mod_eq_of_lt hs.2.1]
  have e2 : (s.1 * W + s.2.1) / W = s.1 := by rw [Nat.add_comm, Nat.add_mul_div_right _ _ hW, Nat.div_eq_of_lt hs.2.1, Nat.zero_add]
  rw [e1, e2]
theorem rc_of (hW : 0 < W) {k : Nat} (hk : k < W * H) : k % W < W ∧ k / W < H ∧ k = (k / W) * W + k % W := by
  refine ⟨Nat.mod_lt _ hW, Nat.div_lt_of_lt_mul hk, ?_⟩
  have := Nat.div_add_mod k W
  rw [Nat.mul_comm] at this
  omega
theorem rtC_lt (hW : 0 < W) {k : Nat} (hk : k < W * H) : rtC W H k < W * H := by
  obtain ⟨h1, h2, -⟩ := rc_of hW hk
  unfold rtC
  have n0 : 0 ≤ k / W := Nat.zero_le _
  generalize k / W = r at *
  have : (k % W + 1) * H ≤ W * H := Nat.mul_le_mul_right H h1
  rw [Nat.add_mul] at this
  omega
theorem rtC_inj (hW : 0 < W) {k k' : Nat} (hk : k < W * H) (hk' : k' < W * H) (h : rtC W H k = rtC W H k') : k = k' := by
  obtain ⟨h1, h2, h3⟩ := rc_of hW hk
  obtain ⟨g1, g2, g3⟩ := rc_of hW hk'
  unfold rtC at h
  have z1 : H - 1 - k / W < H := by generalize k / W = r at *; omega
  have z2 : H - 1 - k' / W < H := by generalize k' / W = r at *; omega
  obtain ⟨e1, e2⟩ := cell_inj z1 z2 h
  have e3 : k / W = k' / W := by
    clear h h3 g3 z1 z2
    generalize k / W = r at *
    generalize k' / W = r' at *
    omega
  rw [h3, g3, e1, e3]
theorem trC_rt (hW : 0 < W) {k : Nat} (hk : k < W * H) : trC W H C (rtC W H k) = tcB (C k) := by
  obtain ⟨h1, h2, h3⟩ := rc_of hW hk
  unfold rtC
  rw [trC_at h2 h1, ← h3]
/-- counted over the cells, over the gates -/
theorem cnt_cells (hW : 0 < W) {p q : Nat → Bool} (h : ∀ k, k < W * H → q (rtC W H k) = p k) : cntB q (H * W) = cntB p (W * H) := by
  rw [Nat.mul_comm H W, ← cntB_perm (W * H) (rtC W H) q (fun i hi => rtC_lt hW hi) (fun i hi j hj e => rtC_inj hW hi hj e)]
  exact cntB_congr h
theorem cnt_gates (hW : 0 < W) (hH : 0 < H) {p q : Nat → Bool} (h : ∀ g, g < 2 * (W + H) → q (rtG W H g) = p g) : cntB q (2 * (H + W)) = cntB p (2 * (W + H)) := by
  rw [Nat.add_comm H W, ← cntB_perm (2 * (W + H)) (rtG W H) q (fun i hi => by have := rtG_lt hW hH hi; omega) (fun i hi j hj e => rtG_inj hW hH hi hj e)]
  exact cntB_congr h
/-- twice the bands with a mark are the gates with it, and those that are their own end -/
theorem eG_fst (hW : 0 < W) (hH : 0 < H) (hb : 2 * (W + H) ≤ 28) {g : Nat} (hg : g < 2 * (W + H)) : fstB W H C g = decide (g ≤ eG W H C g) := by
  unfold fstB
  rcases eG_c (C := C) hW hH hb hg with ⟨h1, h2⟩ | ⟨q, h1, h2, h3⟩
  · rw [h1, h2]; simp
  · rw [h1, h3, decide_eq_false (g_ne (by omega)), Bool.false_or]
    by_cases e : g ≤ q
    · rw [decide_eq_true e, decide_eq_true (le_y e (by omega))]
    · rw [decide_eq_false e, decide_eq_false (le_n (by omega) (by omega))]
theorem eG_eG (hW : 0 < W) (hH : 0 < H) (hb : 2 * (W + H) ≤ 28) {g : Nat} (hg : g < 2 * (W + H)) : eG W H C g < 2 * (W + H) ∧ eG W H C (eG W H C g) = g := by
  rcases eG_c (C := C) hW hH hb hg with ⟨h1, h2⟩ | ⟨q, h1, h2, h3⟩
  · rw [h2]; exact ⟨hg, h2⟩
  · rw [h3]
    refine ⟨h2, ?_⟩
    obtain ⟨-, k2, -⟩ := rev_all hW hH hb hg h1 (by omega)
    unfold eG
    rw [k2, if_neg (g_ne (by omega)), oN_clamp (by omega)]
theorem cntB_split (p q : Nat → Bool) (n : Nat) : cntB p n = cntB (fun i => q i && p i) n + cntB (fun i => !q i && p i) n := by
  induction n with
  | zero => rfl
  | succ n ih =>
    unfold cntB
    rw [ih]
    cases q n <;> cases p n <;> simp <;> omega
theorem cnt_fst (hW : 0 < W) (hH : 0 < H) (hb : 2 * (W + H) ≤ 28) {P : Nat → Bool} (hP : ∀ g, g < 2 * (W + H) → P (eG W H C g) = P g) : 2 * cntB (fun g => fstB W H C g && P g) (2 * (W + H)) = cntB P (2 * (W + H)) + cntB (fun g => decide (eG W H C g = g) && P g) (2 * (W + H)) := by
  have a1 : cntB (fun g => fstB W H C g && P g) (2 * (W + H)) = cntB (fun g => decide (g < eG W H C g) && P g) (2 * (W + H)) + cntB (fun g => decide (eG W H C g = g) && P g) (2 * (W + H)) := by
    rw [cntB_split (fun g => fstB W H C g && P g) (fun g => decide (g < eG W H C g))]
    congr 1
    · apply cntB_congr
      intro g hg
      rw [eG_fst hW hH hb hg]
      by_cases e : g < eG W H C g
      · rw [decide_eq_true e, decide_eq_true (by omega)]; rfl
      · rw [decide_eq_false e]; rfl
    · apply cntB_congr
      intro g hg
      rw [eG_fst hW hH hb hg]
      by_cases e : eG W H C g = g
      · rw [decide_eq_true e, decide_eq_false (by omega), decide_eq_true (by omega)]; rfl
      · rw [decide_eq_false e]
        by_cases e2 : g < eG W H C g
        · rw [decide_eq_true e2]; rfl
        · rw [decide_eq_false e2, decide_eq_false (show ¬ g ≤ eG W H C g by omega)]; rfl
  have a2 : cntB (fun g => decide (g < eG W H C g) && P g) (2 * (W + H)) = cntB (fun g => decide (eG W H C g < g) && P g) (2 * (W + H)) := by
    rw [← cntB_perm (2 * (W + H)) (eG W H C) (fun g => decide (g < eG W H C g) && P g) (fun i hi => (eG_eG hW hH hb hi).1) (fun i hi j hj e => by rw [← (eG_eG (C := C) hW hH hb hi).2, e, (eG_eG hW hH hb hj).2])]
    apply cntB_congr
    intro g hg
    rw [(eG_eG hW hH hb hg).2, hP g hg]
  have a3 : cntB P (2 * (W + H)) = cntB (fun g => decide (g < eG W H C g) && P g) (2 * (W + H)) + (cntB (fun g => decide (eG W H C g = g) && P g) (2 * (W + H)) + cntB (fun g => decide (eG W H C g < g) && P g) (2 * (W + H))) := by
    rw [cntB_split P (fun g => decide (g < eG W H C g)), cntB_split (fun g => !decide (g < eG W H C g) && P g) (fun g => decide (eG W H C g = g))]
    congr 2
    · apply cntB_congr
      intro g hg
      by_cases e : eG W H C g = g
      · rw [decide_eq_true e, decide_eq_false (by omega)]; rfl
      · rw [decide_eq_false e]; rfl
    · apply cntB_congr
      intro g hg
      by_cases e : eG W H C g = g
      · rw [decide_eq_true e, decide_eq_false (show ¬ eG W H C g < g by omega)]; rfl
      · rw [decide_eq_false e]
        by_cases e2 : g < eG W H C g
        · rw [decide_eq_true e2, decide_eq_false (show ¬ eG W H C g < g by omega)]; rfl
        · rw [decide_eq_false e2, decide_eq_true (show eG W H C g < g by omega)]; rfl
  omega
theorem eG_rt (hW : 0 < W) (hH : 0 < H) (hb : 2 * (W + H) ≤ 28) {g : Nat} (hg : g < 2 * (W + H)) : eG H W (trC W H C) (rtG W H g) = rtG W H (eG W H C g) := by
  obtain ⟨-, h2⟩ := bd_rt (C := C) hW hH hb hg
  have hlt := rtG_lt hW hH (eG_eG (C := C) hW hH hb hg).1
  show (if bE H W (trC W H C) (rtG W H g) = -1 then _ else _) = _
  rw [h2]
  by_cases e : bE W H C g = -1
  · rw [if_pos e, if_pos rfl]
    have : eG W H C g = g := by unfold eG; rw [if_pos e]
    rw [this]
  · rw [if_neg e, if_neg (g_ne (by omega)), oN_clamp (by omega)]
theorem cnt_fst_rt (hW : 0 < W) (hH : 0 < H) (hb : 2 * (W + H) ≤ 28) {P Q : Nat → Bool} (hP : ∀ g, g < 2 * (W + H) → P (eG W H C g) = P g) (hQ : ∀ g, g < 2 * (H + W) → Q (eG H W (trC W H C) g) = Q g) (h : ∀ g, g < 2 * (W + H) → Q (rtG W H g) = P g) :
    cntB (fun g => fstB H W (trC W H C) g && Q g) (2 * (H + W)) = cntB (fun g => fstB W H C g && P g) (2 * (W + H)) := by
  have a := cnt_fst (C := C) hW hH hb hP
  have b := cnt_fst (C := trC W H C) hH hW (by omega) hQ
  have c := cnt_gates hW hH h
  have d : cntB (fun g => decide (eG H W (trC W H C) g = g) && Q g) (2 * (H + W)) = cntB (fun g => decide (eG W H C g = g) && P g) (2 * (W + H)) := cnt_gates hW hH fun g hg => by
    rw [eG_rt hW hH hb hg, h g hg]
    by_cases e : eG W H C g = g
    · rw [decide_eq_true e, e, decide_eq_true rfl]
    · rw [decide_eq_false e, decide_eq_false (fun q => e (rtG_inj hW hH (eG_eG hW hH hb hg).1 hg q))]
  omega
theorem nFst_rt (hW : 0 < W) (hH : 0 < H) (hb : 2 * (W + H) ≤ 28) : nFst H W (trC W H C) (2 * (H + W)) = nFst W H C (2 * (W + H)) := by
  have := cnt_fst_rt (C := C) hW hH hb (P := fun _ => true) (Q := fun _ => true) (fun _ _ => rfl) (fun _ _ => rfl) (fun _ _ => rfl)
  simp only [Bool.and_true] at this
  exact this
theorem crB_eG (hW : 0 < W) (hH : 0 < H) (hb : 2 * (W + H) ≤ 28) {g : Nat} (hg : g < 2 * (W + H)) : crB (pC W H C (eG W H C g)) (bN W H C (eG W H C g)) = crB (pC W H C g) (bN W H C g) := by
  rcases eG_c (C := C) hW hH hb hg with ⟨h1, h2⟩ | ⟨q, h1, h2, h3⟩
  · rw [h2]
  · rw [h3]; exact rev_crB hW hH hb hg h1 (by omega)
theorem crB_rt (hW : 0 < W) (hH : 0 < H) (hb : 2 * (W + H) ≤ 28) {g : Nat} (hg : g < 2 * (W + H)) : crB (pC H W (trC W H C) (rtG W H g)) (bN H W (trC W H C) (rtG W H g)) = crB (pC W H C g) (bN W H C g) := by
  rw [(bd_rt hW hH hb hg).1]
  have key : crB (pC H W (trC W H C) (rtG W H g)) (bN W H C g) = true ↔ crB (pC W H C g) (bN W H C g) = true := by
    rw [crB_iff, crB_iff]
    constructor
    · rintro ⟨i, j, h1, h2, h3⟩
      rw [pC_rt hW hH hg (by omega), pC_rt hW hH hg h2] at h3
      exact ⟨i, j, h1, h2, rtC_inj hW (pC_lt hW hH hg (by omega)) (pC_lt hW hH hg h2) h3⟩
    · rintro ⟨i, j, h1, h2, h3⟩
      refine ⟨i, j, h1, h2, ?_⟩
      rw [pC_rt hW hH hg (by omega), pC_rt hW hH hg h2, h3]
  cases e : crB (pC W H C g) (bN W H C g) with
  | true => exact key.mpr e
  | false =>
    cases e2 : crB (pC H W (trC W H C) (rtG W H g)) (bN W H C g) with
    | false => rfl
    | true => rw [key.mp e2] at e; cases e
theorem nCrs_rt (hW : 0 < W) (hH : 0 < H) (hb : 2 * (W + H) ≤ 28) : nCrs H W (trC W H C) (2 * (H + W)) = nCrs W H C (2 * (W + H)) :=
  cnt_fst_rt (C := C) hW hH hb (fun g hg => crB_eG hW hH hb hg) (fun g hg => crB_eG hH hW (by omega) hg) (fun g hg => crB_rt hW hH hb hg)
theorem isRB_tc (v : Int32) : isRB (tcB v) = isRB v := by
  unfold tcB
  by_cases a : v = 47
  · subst a; decide
  · rw [if_neg a]
    by_cases b : v = 92
    · subst b; decide
    · rw [if_neg b]
theorem runes_rt (hW : 0 < W) : cntB (fun c => isRB (trC W H C c)) (H * W) = cntB (fun c => isRB (C c)) (W * H) :=
  cnt_cells hW fun k hk => by rw [trC_rt hW hk, isRB_tc]
theorem takeC_tc (st : List Int32 × Bool) (v : Int32) : takeC st (tcB v) = takeC st v := by
  unfold tcB
  by_cases a : v = 47
  · subst a; rfl
  · rw [if_neg a]
    by_cases b : v = 92
    · subst b; rfl
    · rw [if_neg b]
theorem rdW_congr {f f' : Nat → Int32} : ∀ {n : Nat}, (∀ i st, i < n → takeC st (f i) = takeC st (f' i)) → rdW f n = rdW f' n := by
  intro n
  induction n with
  | zero => intro _; rfl
  | succ n ih =>
    intro h
    show takeC _ _ = takeC _ _
    rw [ih (fun i st hi => h i st (by omega)), h n _ (by omega)]
theorem rdg_rt (hW : 0 < W) (hH : 0 < H) (hb : 2 * (W + H) ≤ 28) {g : Nat} (hg : g < 2 * (W + H)) : rdg H W (trC W H C) (rtG W H g) = rdg W H C g := by
  unfold rdg
  rw [(bd_rt hW hH hb hg).1]
  congr 1
  apply rdW_congr
  intro i st hi
  show takeC st (trC W H C (pC H W (trC W H C) (rtG W H g) i)) = _
  rw [pC_rt hW hH hg hi, trC_rt hW (pC_lt hW hH hg hi), takeC_tc]
/-- the good cells -/
theorem goodM_bt {w : Wds} (hW : 0 < W) (hH : 0 < H) (h49 : W * H ≤ 49) {c : Nat} : ∀ G, G ≤ 2 * (W + H) → (bt (goodM W H C w G) c = true ↔ ∃ g i, g < G ∧ ¬ score w (rdg W H C g) < 0 ∧ i < bN W H C g ∧ pC W H C g i = c) := by
  intro G
  induction G with
  | zero => exact fun _ => ⟨fun h => (by unfold goodM at h; rw [bt_zero] at h; cases h), fun ⟨g, i, h, _⟩ => absurd h (Nat.not_lt_zero g)⟩
  | succ G ih =>
    intro hG
    have ih := ih (by omega)
    unfold goodM
    by_cases e : score w (rdg W H C G) < 0
    · rw [if_pos e, ih]
      constructor
      · rintro ⟨g, i, h1, h2⟩; exact ⟨g, i, by omega, h2⟩
      · rintro ⟨g, i, h1, h2, h3⟩
        by_cases z : g = G
        · subst z; exact absurd e h2
        · exact ⟨g, i, by omega, h2, h3⟩
    · rw [if_neg e, bt_or, Bool.or_eq_true, ih, bt_orB (fun i hi => by have := pC_lt (C := C) hW hH (g := G) (by omega) hi; omega)]
      constructor
      · rintro (⟨g, i, h1, h2⟩ | ⟨i, h1, h2⟩)
        · exact ⟨g, i, by omega, h2⟩
        · exact ⟨G, i, by omega, e, h1, h2⟩
      · rintro ⟨g, i, h1, h2, h3, h4⟩
        by_cases z : g = G
        · subst z; exact Or.inr ⟨i, h3, h4⟩
        · exact Or.inl ⟨g, i, by omega, h2, h3, h4⟩
noncomputable def goodN (W H : Nat) (C : Cel) (w : Wds) : Nat := cntB (bt (goodM W H C w (2 * (W + H)) &&& rmask C (W * H))) 64
theorem goodN_eq {w : Wds} (h49 : W * H ≤ 49) : goodN W H C w = cntB (fun c => bt (goodM W H C w (2 * (W + H))) c && isRB (C c)) (W * H) := by
  unfold goodN
  rw [← cntB_cut (n := W * H) (m := 64) (by omega)]
  apply cntB_congr
  intro i _
  rw [bt_and, bt_rmask (by omega)]
  cases decide (i < W * H) <;> cases bt (goodM W H C w (2 * (W + H))) i <;> rfl
theorem goodN_rt {w : Wds} (hW : 0 < W) (hH : 0 < H) (hb : 2 * (W + H) ≤ 28) (h49 : W * H ≤ 49) : goodN H W (trC W H C) w = goodN W H C w := by
  have h49' : H * W ≤ 49 := by rw [Nat.mul_comm]; exact h49
  rw [goodN_eq h49, goodN_eq h49']
  refine cnt_cells hW fun k hk => ?_
  rw [trC_rt hW hk, isRB_tc]
  congr 1
  have key : bt (goodM H W (trC W H C) w (2 * (H + W))) (rtC W H k) = true ↔ bt (goodM W H C w (2 * (W + H))) k = true := by
    rw [goodM_bt hW hH h49 _ (Nat.le_refl _), goodM_bt hH hW h49' _ (Nat.le_refl _)]
    constructor
    · rintro ⟨g', i, h1, h2, h3, h4⟩
      -- the gate comes from one
      obtain ⟨g, hg, rfl⟩ : ∃ g, g < 2 * (W + H) ∧ rtG W H g = g' := by
        apply Classical.byContradiction
        intro hno
        have hc := cntB_perm (2 * (W + H)) (rtG W H) (fun q => decide (q = g')) (fun i hi => by have := rtG_lt hW hH hi; omega) (fun i hi j hj e => rtG_inj hW hH hi hj e)
        have z0 : cntB (fun i => decide (rtG W H i = g')) (2 * (W + H)) = 0 := cntB_zero fun i hi => decide_eq_false fun e => hno ⟨i, hi, e⟩
        have z1 := cntB_pos (p := fun q => decide (q = g')) (n := 2 * (W + H)) |>.mpr ⟨g', by omega, decide_eq_true rfl⟩
        omega
      rw [rdg_rt hW hH hb hg] at h2
      rw [(bd_rt hW hH hb hg).1] at h3
      rw [pC_rt hW hH hg h3] at h4
      exact ⟨g, i, hg, h2, h3, rtC_inj hW (pC_lt hW hH hg h3) hk h4⟩
    · rintro ⟨g, i, hg, h2, h3, h4⟩
      refine ⟨rtG W H g, i, by have := rtG_lt hW hH hg; omega, by rw [rdg_rt hW hH hb hg]; exact h2, by rw [(bd_rt hW hH hb hg).1]; exact h3, ?_⟩
      rw [pC_rt hW hH hg h3, h4]
  cases e : bt (goodM W H C w (2 * (W + H))) k with
  | true => exact key.mpr e
  | false =>
    cases e2 : bt (goodM H W (trC W H C) w (2 * (H + W))) (rtC W H k) with
    | false => rfl
    | true => rw [key.mp e2] at e; cases e
theorem toldV_eq {w : Wds} (h49 : W * H ≤ 49) : toldV W H C w = if cntB (fun c => isRB (C c)) (W * H) = 0 then FP.dconst1 else FP.ddiv (FP.i2d (Int32.ofNat (goodN W H C w))) (FP.i2d (Int32.ofNat (cntB (fun c => isRB (C c)) (W * H)))) := by
  unfold toldV
  by_cases e : rmask C (W * H) = 0
  · rw [if_pos e, if_pos ((runes0 h49).mp e)]
  · rw [if_neg e, if_neg (fun q => e ((runes0 h49).mpr q))]
    rfl
theorem toldV_rt {w : Wds} (hW : 0 < W) (hH : 0 < H) (hb : 2 * (W + H) ≤ 28) (h49 : W * H ≤ 49) : toldV H W (trC W H C) w = toldV W H C w := by
  rw [toldV_eq h49, toldV_eq (by rw [Nat.mul_comm]; exact h49), runes_rt hW, goodN_rt hW hH hb h49]
theorem goodN_le {w : Wds} (h49 : W * H ≤ 49) : goodN W H C w ≤ cntB (fun c => isRB (C c)) (W * H) := by
  rw [goodN_eq h49, cntB_split (fun c => isRB (C c)) (fun c => bt (goodM W H C w (2 * (W + H))) c)]
  omega
/-- the corner that comes first becomes the row's last -/
theorem trC_0 (hH : 0 < H) : trC W H C (H - 1) = tcB (C 0) := by
  unfold trC
  rw [Nat.mod_eq_of_lt (by omega), Nat.div_eq_of_lt (by omega), Nat.sub_self]
  simp
/-- four quarters -/
theorem trC_2 (hW : 0 < W) (hH : 0 < H) {r c : Nat} (hr : r < H) (hc : c < W) : trC H W (trC W H C) ((H - 1 - r) * W + (W - 1 - c)) = C (r * W + c) := by
  rw [trC_at (W := H) (H := W) (C := trC W H C) (r := c) (c := H - 1 - r) hc (by omega), trC_at hr hc, tcB_tcB]
theorem sub2 {a H : Nat} (h : a < H) : H - 1 - a < H ∧ H - 1 - (H - 1 - a) = a := by omega
theorem trC_4 (hW : 0 < W) (hH : 0 < H) {k : Nat} (hk : k < W * H) : trC H W (trC W H (trC H W (trC W H C))) k = C k := by
  obtain ⟨h1, h2, h3⟩ := rc_of hW hk
  have a := trC_2 (C := trC H W (trC W H C)) hW hH (r := H - 1 - k / W) (c := W - 1 - k % W) (sub2 h2).1 (sub2 h1).1
  rw [(sub2 h2).2, (sub2 h1).2, ← h3] at a
  rw [a, trC_2 hW hH h2 h1, ← h3]
end ROT
