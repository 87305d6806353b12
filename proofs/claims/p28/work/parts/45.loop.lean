/-! ===== the law's loop (by program, wip/p28/mk49.py) ===== -/
section LLP
variable {d Ln : Nat} {Q : Post} {I : HI} {J : HJ} {k m : Nat}
/-- what stands before each round -/
def LI (I : HI) (J : HJ) : Prop := ∃ W H C w hs t T, CSt I J W H C w hs t T ∧ GoodS ((W, H, C), w) ∧ ∀ v, v ∈ hs → GoodS v
theorem hn59 : 59 ≤ 59 := Nat.le_refl _
theorem t4_mem {v x : Sav} {hs : List Sav} (hv : GoodS x) (h : ∀ v, v ∈ hs → GoodS v) (hm : v ∈ (x :: hs).take 4) : GoodS v := by
  rcases List.mem_cons.mp (List.mem_of_mem_take hm) with e | e
  · rw [e]; exact hv
  · exact h v e

theorem l302 (hm : 400 ≤ m) (hl : LI I J) (h : ∀ m' I' J', m ≤ m' + 362 → LI I' J' → EX (cal (d + 46)) 202 Q 323 [some (.ref 0), some (.ref 1), none, some (.int (Int32.ofNat k)), none, none, none, none, none, none] [.int 1] (58, 4830) (hp (m') 59 (lay Ln) I' J')) : EX (cal (d + 46)) 202 Q 302 [some (.ref 0), some (.ref 1), none, some (.int (Int32.ofNat k)), none, none, none, none, none, none] [] (58, 4830) (hp (m) 59 (lay Ln) I J) := by
  obtain ⟨W, H, C, w, hs, t, T, hc, hg, hv⟩ := hl
  refine q_202_302 (d := d + 45) hn59 (if_c (fun _ => ?_) (fun _ => q_202_318 (d := d + 45) hn59 (h m I J (by omega) ⟨W, H, C, w, hs, t, T, hc, hg, hv⟩)))
  obtain ⟨f, rfl⟩ : ∃ f, m = f + 363 := ⟨m - 363, by omega⟩
  exact lm_refused (d := d + 4) hn59 hc fun I1 T1 _ c1 => q_202_315 (d := d + 45) hn59 (if_n (by decide) (q_202_318 (d := d + 45) hn59 (h _ I1 J (by omega) ⟨W, H, C, w, hs, 0, T1, c1, hg, hv⟩)))
theorem l286 (hm : 1200 ≤ m) (hl : LI I J) (h : ∀ m' I' J', m ≤ m' + 1077 → LI I' J' → EX (cal (d + 46)) 202 Q 323 [some (.ref 0), some (.ref 1), none, some (.int (Int32.ofNat k)), none, none, none, none, none, none] [.int 1] (58, 4830) (hp (m') 59 (lay Ln) I' J')) : EX (cal (d + 46)) 202 Q 286 [some (.ref 0), some (.ref 1), none, some (.int (Int32.ofNat k)), none, none, none, none, none, none] [] (58, 4830) (hp (m) 59 (lay Ln) I J) := by
  obtain ⟨W, H, C, w, hs, t, T, hc, hg, hv⟩ := hl
  refine q_202_286 (d := d + 45) hn59 (if_c (fun _ => ?_) (fun _ => l302 (by omega) ⟨W, H, C, w, hs, t, T, hc, hg, hv⟩ fun m' I' J' h1 h2 => h m' I' J' (by omega) h2))
  obtain ⟨f, rfl⟩ : ∃ f, m = f + 716 := ⟨m - 716, by omega⟩
  exact lm_turned (d := d + 1) hc hg.2 fun I1 J1 _ c1 => q_202_299 (d := d + 45) hn59 (if_n (by decide) (l302 (by omega) ⟨W, H, C, w, [], t, T, c1, hg, fun v hv => absurd hv List.not_mem_nil⟩ fun m' I' J' h1 h2 => h m' I' J' (by omega) h2))
theorem l271 (hm : 1800 ≤ m) (hl : LI I J) (h : ∀ m' I' J', m ≤ m' + 1584 → LI I' J' → EX (cal (d + 46)) 202 Q 323 [some (.ref 0), some (.ref 1), none, some (.int (Int32.ofNat k)), none, none, none, none, none, none] [.int 1] (58, 4830) (hp (m') 59 (lay Ln) I' J')) : EX (cal (d + 46)) 202 Q 271 [some (.ref 0), some (.ref 1), none, some (.int (Int32.ofNat k)), none, none, none, none, none, none] [] (58, 4830) (hp (m) 59 (lay Ln) I J) := by
  obtain ⟨W, H, C, w, hs, t, T, hc, hg, hv⟩ := hl
  refine q_202_271 (d := d + 45) hn59 (if_c (fun _ => ?_) (fun _ => l286 (by omega) ⟨W, H, C, w, hs, t, T, hc, hg, hv⟩ fun m' I' J' h1 h2 => h m' I' J' (by omega) h2))
  obtain ⟨f, rfl⟩ : ∃ f, m = f + 508 := ⟨m - 508, by omega⟩
  refine lm_choicesOk (d := d + 4) hn59 hc fun I1 J1 hs1 _ e1 c1 => q_202_283 (d := d + 45) hn59 (if_n (by decide) (l286 (by omega) ⟨W, H, C, w, hs1, t, T, c1, hg, fun v hm => ?_⟩ fun m' I' J' h1 h2 => h m' I' J' (by omega) h2))
  rcases e1 with e1 | e1
  · rw [e1] at hm; exact hv v hm
  · rw [e1] at hm; exact hv v (List.mem_of_mem_take hm)
theorem l253 (hm : 1900 ≤ m) (hl : LI I J) (h : ∀ m' I' J', m ≤ m' + 1623 → LI I' J' → EX (cal (d + 46)) 202 Q 323 [some (.ref 0), some (.ref 1), none, some (.int (Int32.ofNat k)), none, none, none, none, none, none] [.int 1] (58, 4830) (hp (m') 59 (lay Ln) I' J')) : EX (cal (d + 46)) 202 Q 253 [some (.ref 0), some (.ref 1), some (.int 1), some (.int (Int32.ofNat k)), none, none, none, none, none, none] [] (58, 4830) (hp (m) 59 (lay Ln) I J) := by
  obtain ⟨W, H, C, w, hs, t, T, hc, hg, hv⟩ := hl
  refine q_202_253 (d := d + 45) hn59 (if_n (by decide) (if_c (fun _ => ?_) (fun _ => l271 (by omega) ⟨W, H, C, w, hs, t, T, hc, hg, hv⟩ fun m' I' J' h1 h2 => h m' I' J' (by omega) h2)))
  obtain ⟨f, rfl⟩ : ∃ f, m = f + 40 := ⟨m - 40, by omega⟩
  exact lm_bands (d := d + 2) hc hg.2 fun I1 q1 => q_202_268 (d := d + 45) hn59 (if_n (by decide) (l271 (by omega) ⟨W, H, C, w, hs, t, T, hc.q q1, hg, hv⟩ fun m' I' J' h1 h2 => h m' I' J' (by omega) h2))
theorem l46 (hL : Ln < 2 ^ 31) (hk : k < 64) (hm : 3000 ≤ m) (hl : LI I J) (h : ∀ m' I' J', m ≤ m' + 2200 → LI I' J' → EX (cal (d + 46)) 202 Q 46 [some (.ref 0), some (.ref 1), some (.int 1), some (.int (Int32.ofNat (k + 1))), none, none, none, none, none, none] [] (58, 4830) (hp (m') 59 (lay Ln) I' J')) : EX (cal (d + 46)) 202 Q 46 [some (.ref 0), some (.ref 1), some (.int 1), some (.int (Int32.ofNat k)), none, none, none, none, none, none] [] (58, 4830) (hp (m) 59 (lay Ln) I J) := by
  obtain ⟨W, H, C, w, hs, t, T, hc, hg, hv⟩ := hl
  refine q_202_46 (d := d + 45) hn59 (if_n (fun z => ?_) (if_n (by decide) ?_))
  · have := (oN_le (a := 64) (b := k) (by decide) (by omega)).mp z
    omega
  rw [show (2 : Int32) * Int32.ofNat k = Int32.ofNat (2 * k) from oN_mul 2 k]
  refine ⟨0, Or.inl rfl, sp_celV (d := d + 45) hn59 hL (by omega) (kc_v rfl rfl (q_202_63 (d := d + 45) hn59 ?_))⟩
  rw [show (2 : Int32) * Int32.ofNat k = Int32.ofNat (2 * k) from oN_mul 2 k, oN_succ]
  refine ⟨0, Or.inl rfl, sp_celV (d := d + 45) hn59 hL (by omega) (kc_v rfl rfl (q_202_74 (d := d + 45) hn59 ?_))⟩
  generalize celV Ln (I 0) (Int32.ofNat (2 * k)) = x4
  obtain ⟨y, hy, ey⟩ := lowV_val (celV Ln (I 0) (Int32.ofNat (2 * k + 1))) (k := 1000000) (by decide) (by decide)
  rw [show lowV (celV Ln (I 0) (Int32.ofNat (2 * k + 1))) 1000000 = Int32.ofNat y from ey]
  obtain ⟨f, rfl⟩ : ∃ f, m = f + 800 + 170 := ⟨m - 970, by omega⟩
  refine lm_print (d := d + 5) hn59 hc fun I1 q1 => ?_
  have c1 := hc.q q1
  have nx : ∀ m' I' J', f + 450 ≤ m' → LI I' J' → EX (cal (d + 46)) 202 Q 253 [some (.ref 0), some (.ref 1), some (.int 1), some (.int (Int32.ofNat k)), none, none, none, none, none, none] [] (58, 4830) (hp (m') 59 (lay Ln) I' J') := fun m' I' J' h1 h2 =>
    l253 (by omega) h2 fun m2 I2 J2 h3 h4 => q_202_323 (d := d + 45) hn59 (by rw [oN_succ]; exact h m2 I2 J2 (by omega) h4)
  have a209 : ∀ v : Int32, ∀ m' I' J' W' H' C' w' hs' t' T', f + 620 ≤ m' → CSt I' J' W' H' C' w' hs' t' T' → GoodS ((W', H', C'), w') → (∀ v, v ∈ hs' → GoodS v) → (¬ v < 0 → hs' = ((W, H, C), w) :: hs.take 3) → EX (cal (d + 46)) 202 Q 209 [some (.ref 0), some (.ref 1), none, some (.int (Int32.ofNat k)), some (.int x4), none, some (.long (prV W H C w)), none, none, some (.int v)] [.int 1] (58, 4830) (hp (m') 59 (lay Ln) I' J') := by
    intro v m' I' J' W' H' C' w' hs' t' T' a1 a2 a3 a4 a5
    refine q_202_209 (d := d + 45) hn59 (if_n (by decide) (if_c (fun _ => nx m' I' J' (by omega) ⟨_, _, _, _, _, _, _, a2, a3, a4⟩) (fun z => if_c (fun _ => ?_) (fun _ => nx m' I' J' (by omega) ⟨_, _, _, _, _, _, _, a2, a3, a4⟩))))
    have a5 := a5 z
    subst a5
    obtain ⟨e, rfl⟩ : ∃ e, m' = e + 170 := ⟨m' - 170, by omega⟩
    refine lk_undo (d := d + 6) (fz := e + 168) (v := ((W, H, C), w)) (hs := hs.take 3) hn59 a2 fun I2 J2 _ c2 => q_202_234 (d := d + 45) hn59 (if_n (oN_nneg (by have := c2.hi.2.1; omega)) ?_)
    refine lm_print (d := d + 5) (fz := e) hn59 c2 fun I3 q3 => q_202_241 (d := d + 45) hn59 (if_y (lg_self _) (q_202_252 (d := d + 45) hn59 ?_))
    exact nx _ I3 J2 (by omega) ⟨W, H, C, w, hs.take 3, t', T', c2.q q3, hg, fun v hm => hv v (List.mem_of_mem_take hm)⟩
  have a143 : ∀ v : Int32, EX (cal (d + 46)) 202 Q 143 [some (.ref 0), some (.ref 1), none, some (.int (Int32.ofNat k)), some (.int x4), some (.int (Int32.ofNat y)), some (.long (prV W H C w)), none, none, none] [.int v] (58, 4830) (hp (f + 800 + 1) 59 (lay Ln) I1 J) := by
    intro v
    refine q_202_143 (d := d + 45) hn59 (lm_acts (d := d + 4) (fz := f + 796) hn59 c1 hg (by omega) (fun v I2 J2 W2 H2 C2 w2 t2 T2 v0 c2 g2 => ?_) (fun v I2 J2 t2 T2 v0 c2 => ?_))
    · refine q_202_166 (d := d + 45) hn59 (if_y v0 (q_202_204 (d := d + 45) hn59 (a209 v _ I2 J2 _ _ _ _ _ _ _ (by omega) c2 g2 (fun v hm => t4_mem hg hv hm) fun _ => rfl)))
    · have a194 : EX (cal (d + 46)) 202 Q 194 [some (.ref 0), some (.ref 1), none, some (.int (Int32.ofNat k)), some (.int x4), none, some (.long (prV W H C w)), none, none, some (.int v)] [] (58, 4830) (hp (f + 797) 59 (lay Ln) I2 J2) := by
        refine q_202_194 (d := d + 45) hn59 (lm_print (d := d + 5) (fz := f + 627) hn59 c2 fun I3 q3 => q_202_198 (d := d + 45) hn59 (if_y (lg_self _) (q_202_204 (d := d + 45) hn59 (a209 v _ I3 J2 _ _ _ _ _ _ _ (by omega) (c2.q q3) hg hv fun z => ?_))))
        exact absurd (by rcases v0 with rfl | rfl | rfl <;> decide) z
      have v1 : ¬ 0 ≤ v := by rcases v0 with rfl | rfl | rfl <;> decide
      refine q_202_166 (d := d + 45) hn59 (if_n v1 (if_c (fun _ => a194) (fun z1 => if_c (fun _ => a194) (fun z2 => if_y ?_ a194))))
      rcases v0 with e | e | e
      · exact absurd e z2
      · exact absurd e z1
      · exact e
  refine q_202_85 (d := d + 45) hn59 (if_c (fun _ => q_202_97 (d := d + 45) hn59 (a143 _)) (fun _ => if_c (fun _ => q_202_97 (d := d + 45) hn59 (a143 _)) (fun _ => if_c (fun _ => if_c (fun _ => if_c (fun _ => a143 _) (fun _ => a143 _)) (fun _ => a143 _)) (fun _ => a143 _))))
theorem l_end (hm : 500 ≤ m) (hl : LI I J) (hq : ∀ g, Q (.inl (some (.int 1))) g) : EX (cal (d + 46)) 202 Q 330 [none, some (.ref 1), some (.int 1), none, none, none, none, none, none, none] [] (58, 4830) (hp (m) 59 (lay Ln) I J) := by
  obtain ⟨W, H, C, w, hs, t, T, hc, hg, hv⟩ := hl
  obtain ⟨f, rfl⟩ : ∃ f, m = f + 39 + 363 := ⟨m - 402, by omega⟩
  refine q_202_330 (d := d + 45) hn59 (if_n (by decide) (lm_refused (d := d + 4) hn59 hc fun I1 T1 _ c1 => q_202_338 (d := d + 45) hn59 (if_n (by decide) ?_)))
  exact lm_bands (d := d + 2) (fz := f) c1 hg.2 fun I2 q2 => q_202_345 (d := d + 45) hn59 (if_n (by decide) (q_202_353 (d := d + 45) hn59 ⟨Or.inr rfl, hq _⟩))
theorem l_loop (hL : Ln < 2 ^ 31) (hq : ∀ g, Q (.inl (some (.int 1))) g) : ∀ n k m I J, k + n = 64 → 3000 + n * 2200 ≤ m → LI I J → EX (cal (d + 46)) 202 Q 46 [some (.ref 0), some (.ref 1), some (.int 1), some (.int (Int32.ofNat k)), none, none, none, none, none, none] [] (58, 4830) (hp (m) 59 (lay Ln) I J) := by
  intro n
  induction n with
  | zero =>
    intro k m I J hk hm hl
    have hk : k = 64 := hk
    subst hk
    exact q_202_46 (d := d + 45) hn59 (if_y (by decide) (l_end (by omega) hl hq))
  | succ n ih =>
    intro k m I J hk hm hl
    have hk1 : k < 64 := by omega
    have hk2 : k + 1 + n = 64 := by omega
    rw [Nat.succ_mul] at hm
    generalize hq2 : n * 2200 = q at hm ih
    clear hq2 hk
    have hm2 : 3000 ≤ m := Nat.le_trans (Nat.le_add_right _ _) hm
    refine l46 hL hk1 hm2 hl fun m' I' J' h1 h2 => ih (k + 1) m' I' J' hk2 ?_ h2
    exact Nat.le_of_add_le_add_right (b := 2200) (Nat.le_trans (by rw [Nat.add_assoc]; exact hm) h1)
theorem l_9 (hL : Ln < 2 ^ 31) (hq : ∀ g, Q (.inl (some (.int 1))) g) {W H : Nat} {C : Cel} {w : Wds} {t : Nat} {T : Nat → Int32} (hc : CSt I J W H C w [] t T) (hg : GoodS ((W, H, C), w)) : EX (cal (d + 46)) 202 Q 9 [some (.ref 0), some (.ref 1), none, none, none, none, none, none, none, none] [.ref 1] (58, 4830) (hp (700001) 59 (lay Ln) I J) := by
  refine q_202_9 (d := d + 45) hn59 (lf_undo (d := d + 6) (fz := 699999) hn59 hc (q_202_12 (d := d + 45) hn59 (if_y rfl ?_)))
  refine lm_refused (d := d + 4) (fz := 699637) hn59 hc fun I1 T1 _ c1 => q_202_21 (d := d + 45) hn59 (if_n (by decide) ?_)
  refine lm_bands (d := d + 2) (fz := 699598) c1 hg.2 fun I2 q2 => q_202_28 (d := d + 45) hn59 (if_n (by decide) ?_)
  refine lm_choicesOk (d := d + 4) (fz := 699091) hn59 (c1.q q2) fun I3 J3 hs3 _ e3 c3 => q_202_35 (d := d + 45) hn59 (if_n (by decide) (q_202_43 (d := d + 45) hn59 ?_))
  have e3 : hs3 = [] := by rcases e3 with e | e <;> exact e
  subst e3
  exact l_loop (d := d) hL hq 64 0 _ I3 J3 rfl (by omega) ⟨W, H, C, w, [], 0, T1, c3, hg, fun v hv => absurd hv List.not_mem_nil⟩
end LLP
