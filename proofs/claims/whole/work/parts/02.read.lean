/-- the lines between two places, as both sides count them -/
theorem mr_dist (a b : Int32) : ∃ r : Int32, (∀ post : Int32 → Prop, post r → wpX_linesBetween post a b) ∧ (∀ (post : Int32 → Prop) (u : SY), mr_pl a → mr_pl b → post r → wpY_distance post u a b) := by
  by_cases h1 : 0 ≤ (a - a / 4 * 4) - (b - b / 4 * 4)
  · by_cases h2 : 0 ≤ (a / 4) - (b / 4)
    · refine ⟨((a - a / 4 * 4) - (b - b / 4 * 4)) + ((a / 4) - (b / 4)), fun post hp => ⟨mr_n4, mr_n4, nm_e ⟨mr_n4, mr_n4, nm_e (br_t h1 (br_t h2 hp))⟩⟩, fun post u ha hb hp => ?_⟩
      obtain ⟨d, c, x, dw, so, go, le, wo, th⟩ := u
      unfold wpY_distance; dsimp only
      exact mr_pY ha (br_f mr_n1 (mr_pY hb (br_f mr_n1 ⟨mr_n4, mr_n4, br_t h1 ⟨mr_n4, mr_n4, br_t h2 hp⟩⟩)))
    · refine ⟨((a - a / 4 * 4) - (b - b / 4 * 4)) + (-((a / 4) - (b / 4))), fun post hp => ⟨mr_n4, mr_n4, nm_e ⟨mr_n4, mr_n4, nm_e (br_t h1 (br_f h2 hp))⟩⟩, fun post u ha hb hp => ?_⟩
      obtain ⟨d, c, x, dw, so, go, le, wo, th⟩ := u
      unfold wpY_distance; dsimp only
      exact mr_pY ha (br_f mr_n1 (mr_pY hb (br_f mr_n1 ⟨mr_n4, mr_n4, br_t h1 ⟨mr_n4, mr_n4, br_f h2 hp⟩⟩)))
  · by_cases h2 : 0 ≤ (a / 4) - (b / 4)
    · refine ⟨(-((a - a / 4 * 4) - (b - b / 4 * 4))) + ((a / 4) - (b / 4)), fun post hp => ⟨mr_n4, mr_n4, nm_e ⟨mr_n4, mr_n4, nm_e (br_f h1 (br_t h2 hp))⟩⟩, fun post u ha hb hp => ?_⟩
      obtain ⟨d, c, x, dw, so, go, le, wo, th⟩ := u
      unfold wpY_distance; dsimp only
      exact mr_pY ha (br_f mr_n1 (mr_pY hb (br_f mr_n1 ⟨mr_n4, mr_n4, br_f h1 ⟨mr_n4, mr_n4, br_t h2 hp⟩⟩)))
    · refine ⟨(-((a - a / 4 * 4) - (b - b / 4 * 4))) + (-((a / 4) - (b / 4))), fun post hp => ⟨mr_n4, mr_n4, nm_e ⟨mr_n4, mr_n4, nm_e (br_f h1 (br_f h2 hp))⟩⟩, fun post u ha hb hp => ?_⟩
      obtain ⟨d, c, x, dw, so, go, le, wo, th⟩ := u
      unfold wpY_distance; dsimp only
      exact mr_pY ha (br_f mr_n1 (mr_pY hb (br_f mr_n1 ⟨mr_n4, mr_n4, br_f h1 ⟨mr_n4, mr_n4, br_f h2 hp⟩⟩)))
theorem mr_distN {a b : Int32} (h : ¬ (mr_pl a ∧ mr_pl b)) (post : Int32 → Prop) (u : SY) (hp : post (-1)) : wpY_distance post u a b := by
  obtain ⟨d, c, x, dw, so, go, le, wo, th⟩ := u
  unfold wpY_distance; dsimp only
  by_cases ha : mr_pl a
  · exact mr_pY ha (br_f mr_n1 (mr_pYn (fun hb => h ⟨ha, hb⟩) (br_t rfl hp)))
  · exact mr_pYn ha (br_t rfl hp)
theorem i_vc_distance {k : Nat} {u : SX} {v : SY} (I : i_Rel k u v) (hk : k + 4 ≤ 2048) (v1 : Int32) (v2 : Int32) : wpX_distance (fun r => wpY_distance (fun r' => r' = r ∧ i_Rel (k + 4) u v) v v1 v2) u v1 v2 := by
  have J : i_Rel (k + 4) u v := i_up I
  obtain ⟨d, c, x, dw, so, go, le, th, wo, rfl, rfl, hd, hc, hm⟩ := I
  unfold wpX_distance; dsimp only
  by_cases h1 : mr_pl v1
  · refine mr_pX h1 (br_f mr_n1 ?_)
    by_cases h2 : mr_pl v2
    · obtain ⟨r, hX, hY⟩ := mr_dist v1 v2
      exact mr_pX h2 (br_f mr_n1 (hX _ (hY _ _ h1 h2 ⟨rfl, J⟩)))
    · exact mr_pXn h2 (br_t rfl (mr_distN (fun z => h2 z.2) _ _ ⟨rfl, J⟩))
  · exact mr_pXn h1 (br_t rfl (mr_distN (fun z => h1 z.1) _ _ ⟨rfl, J⟩))
/-- whether a line leads out of p0 in direction p1, as the class reckons -/
def mr_hl (p0 p1 : Int32) : Int32 :=
  if p1 < 0 then 0 else if 3 < p1 then 0 else if p1 = 0 then (if p0 / 4 ≤ 0 then 0 else 1) else if p1 = 1 then (if 3 ≤ p0 - p0 / 4 * 4 then 0 else 1) else if p1 = 2 then (if 3 ≤ p0 / 4 then 0 else 1) else if p1 = 3 then (if p0 - p0 / 4 * 4 ≤ 0 then 0 else 1) else 0
theorem mr_hlX {p0 p1 : Int32} {post : Int32 → Prop} (hp : post (mr_hl p0 p1)) : wpX_hasLine post p0 p1 :=
  ⟨mr_n4, nm_e ⟨mr_n4, nm_e (mr_if id (mr_if id (mr_if (mr_if id id) (mr_if (mr_if id id) (mr_if (mr_if id id) (mr_if (mr_if id id) (fun _ => trivial)))))) hp)⟩⟩
/-- the same, as the reference reckons -/
def mr_sq (a b : Int32) : Int32 := if a < 0 then 0 else if 3 < a then 0 else if b < 0 then 0 else if 3 < b then 0 else 1
def mr_hc (p0 p1 row : Int32) : Int32 :=
  if p1 = 1 then mr_sq row (p0 - p0 / 4 * 4 + 1) else if p1 = 3 then mr_sq row (p0 - p0 / 4 * 4 + (-1)) else mr_sq row (p0 - p0 / 4 * 4 + 0)
def mr_hy (p0 p1 : Int32) : Int32 :=
  if p1 = 0 then mr_hc p0 p1 (p0 / 4 + (-1)) else if p1 = 2 then mr_hc p0 p1 (p0 / 4 + 1) else mr_hc p0 p1 (p0 / 4 + 0)
section
variable (d c x : Int32) (dw so go le wo th : Nat → Int32)
theorem mr_sqY {a z0 z1 : Int32} {post : Int32 → Prop} (hp : post (mr_sq a (z1 + z0))) : wY_hold_75 post a z0 z1 d c x dw so go le wo th :=
  nm_e (mr_if id (mr_if id (mr_if id (mr_if id id))) hp)
theorem mr_hcY {p0 p1 z0 z1 : Int32} {post : Int32 → Prop} (hp : post (mr_hc p0 p1 (z1 + z0))) : wY_hold_50 post p0 p1 z0 z1 d c x dw so go le wo th :=
  nm_e ⟨mr_n4, mr_if (mr_sqY d c x dw so go le wo th) (mr_if (mr_sqY d c x dw so go le wo th) (mr_sqY d c x dw so go le wo th)) hp⟩
end
theorem mr_holdT : ∀ j : Fin 16, ∀ q : Fin 4, mr_hl (nI j.val) (nI q.val) = mr_hy (nI j.val) (nI q.val) := by decide +kernel
theorem mr_hold01 : ∀ j : Fin 16, ∀ q : Fin 4, mr_hl (nI j.val) (nI q.val) = 0 ∨ mr_hl (nI j.val) (nI q.val) = 1 := by decide +kernel
theorem mr_pl_of {p : Int32} (h : mr_pl p) : ∃ j : Nat, j < 16 ∧ p = nI j := by
  obtain ⟨j, hj, rfl⟩ := nI_of h.1
  refine ⟨j, ?_, rfl⟩
  have h2 := h.2
  rw [show (16 : Int32) = nI 16 from rfl, nI_leI (by decide) hj] at h2
  omega
theorem i_vc_hold {k : Nat} {u : SX} {v : SY} (I : i_Rel k u v) (hk : k + 4 ≤ 2048) (v1 : Int32) (v2 : Int32) (v3 : Int32) : wpX_hold (fun r => wpY_hold (fun r' => r' = r ∧ i_Rel (k + 4) u v) v v1 v2 v3) u v1 v2 v3 := by
  have J : i_Rel (k + 4) u v := i_up I
  obtain ⟨d, c, x, dw, so, go, le, th, wo, rfl, rfl, hd, hc, hm⟩ := I
  unfold wpX_hold wpY_hold; dsimp only
  by_cases h1 : mr_pl v1
  · refine mr_pX h1 (br_f mr_n1 (br_c (fun a => ?_) (fun a => br_c (fun b => ?_) (fun b => mr_hlX ?_))))
    · exact mr_pY h1 (br_f mr_n1 (br_c (fun _ => ⟨rfl, J⟩) (fun _ => br_c (fun _ => ⟨rfl, J⟩) (fun _ => br_t a ⟨rfl, J⟩))))
    · exact mr_pY h1 (br_f mr_n1 (br_c (fun _ => ⟨rfl, J⟩) (fun _ => br_c (fun _ => ⟨rfl, J⟩) (fun _ => br_f a (br_f (fun z => (mr_50 v3).mp z b) ⟨rfl, J⟩)))))
    · by_cases e1 : v2 < 0
      · have e : mr_hl v1 v2 = 0 := if_pos e1
        rw [e]
        exact br_t rfl (mr_pY h1 (br_f mr_n1 (br_t e1 ⟨rfl, J⟩)))
      · by_cases e2 : 3 < v2
        · have e : mr_hl v1 v2 = 0 := (if_neg e1).trans (if_pos e2)
          rw [e]
          exact br_t rfl (mr_pY h1 (br_f mr_n1 (br_f e1 (br_t e2 ⟨rfl, J⟩))))
        · obtain ⟨j, hj, rfl⟩ := mr_pl_of h1
          obtain ⟨q, hq, rfl⟩ := nI_of e1
          have hq4 : q < 4 := by
            rw [show (3 : Int32) = nI 3 from rfl, nI_ltI (by decide) hq] at e2
            omega
          have T := mr_holdT ⟨j, hj⟩ ⟨q, hq4⟩
          have T2 := mr_hold01 ⟨j, hj⟩ ⟨q, hq4⟩
          dsimp only at T T2
          have HY : ∀ post : Int32 → Prop, post (mr_hy (nI j) (nI q)) → wpY_place (fun r_1 => (((r_1 = 0 → (post 0)) ∧ (¬ r_1 = 0 → (((nI q < 0 → (post 0)) ∧ (¬ nI q < 0 → (((3 < nI q → (post 0)) ∧ (¬ 3 < nI q → (((v3 < 0 → (post 0)) ∧ (¬ v3 < 0 → (((v3 ≤ 50 → (¬ (4 : Int32) = 0 ∧ (((nI q = 0 → (wY_hold_50 post (nI j) (nI q) (-1) (nI j / 4) (nI d) (nI c) x dw so go le wo th)) ∧ (¬ nI q = 0 → (((nI q = 2 → (wY_hold_50 post (nI j) (nI q) 1 (nI j / 4) (nI d) (nI c) x dw so go le wo th)) ∧ (¬ nI q = 2 → (wY_hold_50 post (nI j) (nI q) 0 (nI j / 4) (nI d) (nI c) x dw so go le wo th))))))))) ∧ (¬ v3 ≤ 50 → (post 0))))))))))))))))) (nI d, nI c, x, dw, so, go, le, wo, th) (nI j) := by
            intro post hp
            refine mr_pY h1 (br_f mr_n1 (br_f e1 (br_f e2 (br_f a (br_t ((mr_50 v3).mpr b) ⟨mr_n4, ?_⟩)))))
            exact mr_if (mr_hcY _ _ _ _ _ _ _ _ _) (mr_if (mr_hcY _ _ _ _ _ _ _ _ _) (mr_hcY _ _ _ _ _ _ _ _ _)) hp
          rcases T2 with T2 | T2
          · rw [T2]
            refine br_t rfl (HY (fun r' => r' = 0 ∧ i_Rel (k + 4) _ _) ⟨T.symm.trans T2, J⟩)
          · rw [T2]
            refine br_f mr_n1 (HY (fun r' => r' = 1 ∧ i_Rel (k + 4) _ _) ⟨T.symm.trans T2, J⟩)
  · exact mr_pXn h1 (br_t rfl (mr_pYn h1 (br_t rfl ⟨rfl, J⟩)))
section
variable (d x : Int32) (dw so go le th wo : Nat → Int32)
theorem mr_waiting {c : Nat} (hc : c ≤ 20) (s : Int32) : ∀ n m : Nat, m + n = c → ∀ f : Int32, ∃ r : Int32, (∀ post : Int32 → Prop, post r → wX_waiting_13 post s d (nI c) x dw so go le th wo (n + 1) f (nI m)) ∧ (∀ post : Int32 → Prop, wpY_place (fun p => (p = 0 → post (-1)) ∧ (¬ p = 0 → post r)) (d, nI c, x, dw, so, go, le, wo, th) s → wY_waiting_4 post s d (nI c) x dw so go le wo th (n + 1) f (nI m)) := by
  intro n
  induction n with
  | zero =>
    intro m hm f
    have h : nI c ≤ nI m := nI_le (by omega) (by omega)
    exact ⟨f, fun _ hp => br_t h hp, fun _ hp => br_t h hp⟩
  | succ n ih =>
    intro m hm f
    have h : ¬ nI c ≤ nI m := nI_ge (by omega) (by omega)
    have hi : vp_in (nI m) 20 := vp_in_nI (by omega) (by decide)
    by_cases t : th (nI m).toNatClampNeg = 0
    · by_cases g : so (nI m).toNatClampNeg = s
      · obtain ⟨r, hX, hY⟩ := ih (m + 1) (by omega) (f + 1)
        exact ⟨r, fun post hp => br_f h ⟨hi, br_t t ⟨hi, br_t g (nm_e (nm_r (nI_1 m) (hX post hp)))⟩⟩, fun post hp => br_f h ⟨hi, br_t g ⟨hi, br_t t (nm_e (nm_r (nI_1 m) (hY post hp)))⟩⟩⟩
      · obtain ⟨r, hX, hY⟩ := ih (m + 1) (by omega) f
        exact ⟨r, fun post hp => br_f h ⟨hi, br_t t ⟨hi, br_f g (nm_r (nI_1 m) (hX post hp))⟩⟩, fun post hp => br_f h ⟨hi, br_f g (nm_r (nI_1 m) (hY post hp))⟩⟩
    · obtain ⟨r, hX, hY⟩ := ih (m + 1) (by omega) f
      refine ⟨r, fun post hp => br_f h ⟨hi, br_f t (nm_r (nI_1 m) (hX post hp))⟩, fun post hp => br_f h ⟨hi, br_c (fun _ => ⟨hi, br_f t (nm_r (nI_1 m) (hY post hp))⟩) (fun _ => nm_r (nI_1 m) (hY post hp))⟩⟩
theorem mr_held {c : Nat} (hc : c ≤ 20) (s : Int32) : ∀ n m : Nat, m + n = c → ∀ f : Int32, ∃ r : Int32, (∀ post : Int32 → Prop, post r → wX_held_13 post s d (nI c) x dw so go le th wo (n + 1) f (nI m)) ∧ (∀ post : Int32 → Prop, wpY_place (fun p => (p = 0 → post (-1)) ∧ (¬ p = 0 → post r)) (d, nI c, x, dw, so, go, le, wo, th) s → wY_held_4 post s d (nI c) x dw so go le wo th (n + 1) f (nI m)) := by
  intro n
  induction n with
  | zero =>
    intro m hm f
    have h : nI c ≤ nI m := nI_le (by omega) (by omega)
    exact ⟨f, fun _ hp => br_t h hp, fun _ hp => br_t h hp⟩
  | succ n ih =>
    intro m hm f
    have h : ¬ nI c ≤ nI m := nI_ge (by omega) (by omega)
    have hi : vp_in (nI m) 20 := vp_in_nI (by omega) (by decide)
    by_cases t : th (nI m).toNatClampNeg = 0
    · obtain ⟨r, hX, hY⟩ := ih (m + 1) (by omega) f
      exact ⟨r, fun post hp => br_f h ⟨hi, br_t t (nm_r (nI_1 m) (hX post hp))⟩, fun post hp => br_f h ⟨hi, br_t t (nm_r (nI_1 m) (hY post hp))⟩⟩
    · by_cases g : go (nI m).toNatClampNeg = s
      · obtain ⟨r, hX, hY⟩ := ih (m + 1) (by omega) (f + 1)
        exact ⟨r, fun post hp => br_f h ⟨hi, br_f t ⟨hi, br_t g (nm_e (nm_r (nI_1 m) (hX post hp)))⟩⟩, fun post hp => br_f h ⟨hi, br_f t ⟨hi, br_t g (nm_e (nm_r (nI_1 m) (hY post hp)))⟩⟩⟩
      · obtain ⟨r, hX, hY⟩ := ih (m + 1) (by omega) f
        exact ⟨r, fun post hp => br_f h ⟨hi, br_f t ⟨hi, br_f g (nm_r (nI_1 m) (hX post hp))⟩⟩, fun post hp => br_f h ⟨hi, br_f t ⟨hi, br_f g (nm_r (nI_1 m) (hY post hp))⟩⟩⟩
/-- whether the message at m is one of those from s that lie at g -/
def mr_is (m : Int32) (g s : Int32) : Prop := ¬ th m.toNatClampNeg = 0 ∧ go m.toNatClampNeg = g ∧ so m.toNatClampNeg = s
theorem mr_isX {c m g s : Int32} {post : Int32 → Prop} (hi : vp_in m 20) (h : mr_is so go th m g s) (hp : post 1) : wpX_hasArrived post (d, c, x, dw, so, go, le, th, wo) m g s :=
  ⟨hi, br_f h.1 ⟨hi, br_t h.2.1 ⟨hi, br_t h.2.2 hp⟩⟩⟩
theorem mr_isXn {c m g s : Int32} {post : Int32 → Prop} (hi : vp_in m 20) (h : ¬ mr_is so go th m g s) (hp : post 0) : wpX_hasArrived post (d, c, x, dw, so, go, le, th, wo) m g s :=
  ⟨hi, br_c (fun _ => hp) (fun a => ⟨hi, br_c (fun b => ⟨hi, br_c (fun e => absurd ⟨a, b, e⟩ h) (fun _ => hp)⟩) (fun _ => hp)⟩)⟩
theorem mr_isY {c m g s : Int32} {post : Int32 → Prop} (hi : vp_in m 20) (h : mr_is so go th m g s) (hp : post 1) : wpY_is post (d, c, x, dw, so, go, le, wo, th) m g s :=
  ⟨hi, br_f h.1 ⟨hi, br_t h.2.1 ⟨hi, br_t h.2.2 hp⟩⟩⟩
theorem mr_isYn {c m g s : Int32} {post : Int32 → Prop} (hi : vp_in m 20) (h : ¬ mr_is so go th m g s) (hp : post 0) : wpY_is post (d, c, x, dw, so, go, le, wo, th) m g s :=
  ⟨hi, br_c (fun _ => hp) (fun a => ⟨hi, br_c (fun b => ⟨hi, br_c (fun e => absurd ⟨a, b, e⟩ h) (fun _ => hp)⟩) (fun _ => hp)⟩)⟩
theorem mr_arrived {c : Nat} (hc : c ≤ 20) (g s : Int32) : ∀ n m : Nat, m + n = c → ∀ f : Int32, ∃ r : Int32, (∀ post : Int32 → Prop, post r → wX_arrived_21 post g s d (nI c) x dw so go le th wo (n + 1) f (nI m)) ∧ (∀ post : Int32 → Prop, wpY_place (fun p => (p = 0 → post (-1)) ∧ (¬ p = 0 → wpY_place (fun p => (p = 0 → post (-1)) ∧ (¬ p = 0 → post r)) (d, nI c, x, dw, so, go, le, wo, th) s)) (d, nI c, x, dw, so, go, le, wo, th) g → wY_arrived_5 post g s d (nI c) x dw so go le wo th (n + 1) f (nI m)) := by
  intro n
  induction n with
  | zero =>
    intro m hm f
    have h : nI c ≤ nI m := nI_le (by omega) (by omega)
    exact ⟨f, fun _ hp => br_t h hp, fun _ hp => br_t h hp⟩
  | succ n ih =>
    intro m hm f
    have h : ¬ nI c ≤ nI m := nI_ge (by omega) (by omega)
    have hi : vp_in (nI m) 20 := vp_in_nI (by omega) (by decide)
    by_cases t : mr_is so go th (nI m) g s
    · obtain ⟨r, hX, hY⟩ := ih (m + 1) (by omega) (f + 1)
      exact ⟨r, fun post hp => br_f h (mr_isX _ _ _ _ _ _ _ _ hi t (br_f mr_n1 (nm_e (nm_r (nI_1 m) (hX post hp))))), fun post hp => br_f h (mr_isY _ _ _ _ _ _ _ _ hi t (br_f mr_n1 (nm_e (nm_r (nI_1 m) (hY post hp)))))⟩
    · obtain ⟨r, hX, hY⟩ := ih (m + 1) (by omega) f
      exact ⟨r, fun post hp => br_f h (mr_isXn _ _ _ _ _ _ _ _ hi t (br_t rfl (nm_r (nI_1 m) (hX post hp)))), fun post hp => br_f h (mr_isYn _ _ _ _ _ _ _ _ hi t (br_t rfl (nm_r (nI_1 m) (hY post hp))))⟩
theorem mr_find {c : Nat} (hc : c ≤ 20) (g s i : Int32) : ∀ n m : Nat, m + n = c → ∀ f : Int32, ∃ r : Int32, (r = -1 ∨ ∃ j : Nat, j < c ∧ r = nI j) ∧ (∀ post : Int32 → Prop, post r → wX_find_6 post g s i d (nI c) x dw so go le th wo (n + 1) f (nI m)) ∧ (∀ post : Int32 → Prop, post r → wY_find_6 post g s i d (nI c) x dw so go le wo th (n + 1) f (nI m)) := by
  intro n
  induction n with
  | zero =>
    intro m hm f
    have h : nI c ≤ nI m := nI_le (by omega) (by omega)
    exact ⟨-1, .inl rfl, fun _ hp => br_t h hp, fun _ hp => br_t h hp⟩
  | succ n ih =>
    intro m hm f
    have h : ¬ nI c ≤ nI m := nI_ge (by omega) (by omega)
    have hi : vp_in (nI m) 20 := vp_in_nI (by omega) (by decide)
    by_cases t : mr_is so go th (nI m) g s
    · by_cases e : f = i
      · exact ⟨nI m, .inr ⟨m, by omega, rfl⟩, fun post hp => br_f h (mr_isX _ _ _ _ _ _ _ _ hi t (br_f mr_n1 (br_t e hp))), fun post hp => br_f h (mr_isY _ _ _ _ _ _ _ _ hi t (br_f mr_n1 (br_t e hp)))⟩
      · obtain ⟨r, hr, hX, hY⟩ := ih (m + 1) (by omega) (f + 1)
        exact ⟨r, hr, fun post hp => br_f h (mr_isX _ _ _ _ _ _ _ _ hi t (br_f mr_n1 (br_f e (nm_e (nm_r (nI_1 m) (hX post hp)))))), fun post hp => br_f h (mr_isY _ _ _ _ _ _ _ _ hi t (br_f mr_n1 (br_f e (nm_e (nm_r (nI_1 m) (hY post hp))))))⟩
    · obtain ⟨r, hr, hX, hY⟩ := ih (m + 1) (by omega) f
      exact ⟨r, hr, fun post hp => br_f h (mr_isXn _ _ _ _ _ _ _ _ hi t (br_t rfl (nm_r (nI_1 m) (hX post hp)))), fun post hp => br_f h (mr_isYn _ _ _ _ _ _ _ _ hi t (br_t rfl (nm_r (nI_1 m) (hY post hp))))⟩
theorem mr_fnd {c : Nat} (hc : c ≤ 20) (g s i : Int32) : ∃ r : Int32, (r = -1 ∨ ∃ j : Nat, j < c ∧ r = nI j) ∧ (∀ post : Int32 → Prop, post r → wpX_find post (d, nI c, x, dw, so, go, le, th, wo) g s i) ∧ (∀ post : Int32 → Prop, post r → wpY_find post (d, nI c, x, dw, so, go, le, wo, th) g s i) := by
  obtain ⟨r, hr, hX, hY⟩ := mr_find d x dw so go le th wo hc g s i c 0 (Nat.zero_add c) 0
  exact ⟨r, hr, fun post hp => ⟨_, hX post hp⟩, fun post hp => ⟨_, hY post hp⟩⟩
end
