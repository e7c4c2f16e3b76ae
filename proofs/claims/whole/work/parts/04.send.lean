theorem mr_okU {c : Nat} {so go le : Nat → Int32} (h : mr_ok c so go le) {m : Nat} {a b e : Int32} (ha : mr_pl a) (hb : mr_pl b) (he : ∃ l, l ≤ 5 ∧ e = nI l) : mr_ok c (upd so m a) (upd go m b) (upd le m e) := by
  intro i hi
  by_cases z : i = m
  · subst z
    rw [pk_us, pk_us, pk_us]
    exact ⟨ha, hb, he⟩
  · rw [pk_un z, pk_un z, pk_un z]
    exact h i hi
theorem mr_okS {c : Nat} {so go le : Nat → Int32} (h : mr_ok c so go le) {a b e : Int32} (ha : mr_pl a) (hb : mr_pl b) (he : ∃ l, l ≤ 5 ∧ e = nI l) : mr_ok (c + 1) (upd so c a) (upd go c b) (upd le c e) := by
  intro i hi
  by_cases z : i = c
  · subst z
    rw [pk_us, pk_us, pk_us]
    exact ⟨ha, hb, he⟩
  · rw [pk_un z, pk_un z, pk_un z]
    exact h i (by omega)
section
variable (x : Int32) (dw so go le th : Nat → Int32)
theorem mr_send {d c : Nat} (hd : d ≤ 5) (hc : c < 20) : ∀ n k : Nat, k + n = d → ∀ wo : Nat → Int32, ∃ wo' : Nat → Int32, (∀ post : Int32 → SX → Prop, post (nI (c + 1)) (0, nI (c + 1), x, dw, so, go, le, th, wo') → wX_send_90 post (nI d) (nI c) x (n + 1) (nI k) dw so go le th wo) ∧ (∀ post : Int32 → SY → Prop, post (nI (c + 1)) (0, nI (c + 1), x, dw, so, go, le, wo', th) → wY_send_92 post (nI d) (nI c) x (n + 1) (nI k) dw so go le wo th) := by
  intro n
  induction n with
  | zero =>
    intro k hk wo
    have h : nI d ≤ nI k := nI_le (by omega) (by omega)
    exact ⟨wo, fun _ hp => br_t h (nm_r (nI_1 c) hp), fun _ hp => br_t h (nm_r (nI_1 c) hp)⟩
  | succ n ih =>
    intro k hk wo
    have h : ¬ nI d ≤ nI k := nI_ge (by omega) (by omega)
    have hi : vp_in (nI k) 5 := vp_in_nI (by omega) (by decide)
    have hw : vp_in (nI (5 * c + k)) 100 := vp_in_nI (by omega) (by decide)
    obtain ⟨wo', hX, hY⟩ := ih (k + 1) (by omega) (upd wo (nI (5 * c + k)).toNatClampNeg (dw (nI k).toNatClampNeg))
    refine ⟨wo', fun post hp => br_f h ⟨hi, ?_⟩, fun post hp => br_f h ⟨hi, ?_⟩⟩
    · rw [mr_ix]
      exact ⟨hw, nm_e (nm_r (nI_1 k) (hX post hp))⟩
    · rw [mr_iy]
      exact ⟨hw, nm_e (nm_r (nI_1 k) (hY post hp))⟩
end
theorem i_vc_send {k : Nat} {u : SX} {v : SY} (I : i_Rel k u v) (hk : k + 4 ≤ 2048) (v1 : Int32) (v2 : Int32) (v3 : Int32) : wpX_send (fun r u' => wpY_send (fun r' v' => r' = r ∧ i_Rel (k + 4) u' v') v v1 v2 v3) u v1 v2 v3 := by
  have J : i_Rel (k + 4) u v := i_up I
  obtain ⟨d, c, x, dw, so, go, le, th, wo, rfl, rfl, hd, hc, hm⟩ := I
  unfold wpX_send wpY_send; dsimp only
  by_cases h1 : mr_pl v1
  · by_cases h2 : mr_pl v2
    · refine mr_pX h1 (br_f mr_n1 (mr_pX h2 (br_f mr_n1 (br_c (fun a => ?_) (fun a => br_c (fun b => ?_) (fun b => br_c (fun e => ?_) (fun e => br_c (fun g => ?_) (fun g => ?_))))))))
      · exact mr_pY h1 (br_f mr_n1 (mr_pY h2 (br_f mr_n1 (br_t a ⟨rfl, J⟩))))
      · exact mr_pY h1 (br_f mr_n1 (mr_pY h2 (br_f mr_n1 (br_f a (br_t ((mr_2 v3).mpr b) ⟨rfl, J⟩)))))
      · exact mr_pY h1 (br_f mr_n1 (mr_pY h2 (br_f mr_n1 (br_f a (br_f (fun z => b ((mr_2 v3).mp z)) (br_t e ⟨rfl, J⟩))))))
      · have hc' : c < 20 := by
          have g' := g
          rw [show (20 : Int32) = nI 20 from rfl, nI_ltI (by omega) (by decide)] at g'
          exact g'
        have hi : vp_in (nI c) 20 := vp_in_nI hc' (by decide)
        have cl : (nI c).toNatClampNeg = c := nI_clamp (by omega)
        obtain ⟨wo', hX, hY⟩ := mr_send x dw (upd so (nI c).toNatClampNeg v1) (upd go (nI c).toNatClampNeg v2) (upd le (nI c).toNatClampNeg (nI d)) (upd th (nI c).toNatClampNeg (vp_nar .boolean 0)) hd hc' d 0 (Nat.zero_add d) wo
        refine ⟨hi, nm_e ⟨hi, nm_e ⟨hi, nm_e ⟨hi, nm_e ⟨_, hX _ ?_⟩⟩⟩⟩⟩
        refine mr_pY h1 (br_f mr_n1 (mr_pY h2 (br_f mr_n1 (br_f a (br_f (fun z => b ((mr_2 v3).mp z)) (br_f e (br_t g ?_)))))))
        refine ⟨hi, nm_e ⟨hi, nm_e ⟨hi, nm_e ⟨hi, nm_e ⟨_, hY _ ⟨rfl, ?_⟩⟩⟩⟩⟩⟩
        rw [cl]
        exact mr_mk (d := 0) (Nat.zero_le _) hc' (mr_okS hm h1 h2 ⟨d, hd, rfl⟩)
      · exact mr_pY h1 (br_f mr_n1 (mr_pY h2 (br_f mr_n1 (br_f a (br_f (fun z => b ((mr_2 v3).mp z)) (br_f e (br_f g ⟨rfl, J⟩)))))))
    · exact mr_pX h1 (br_f mr_n1 (mr_pXn h2 (br_t rfl (mr_pY h1 (br_f mr_n1 (mr_pYn h2 (br_t rfl ⟨rfl, J⟩)))))))
  · exact mr_pXn h1 (br_t rfl (mr_pYn h1 (br_t rfl ⟨rfl, J⟩)))
section
variable (d : Int32) (dw so go le wo : Nat → Int32)
theorem mr_settle {c : Nat} (hc : c ≤ 20) (hok : mr_ok c so go le) : ∀ n m : Nat, m + n = c → ∀ (f x : Int32) (th : Nat → Int32), ∃ (r x' : Int32) (th' : Nat → Int32), (∀ post : Int32 → SX → Prop, post r (d, nI c, x', dw, so, go, le, th', wo) → wX_settle_4 post d (nI c) (n + 1) f (nI m) x dw so go le th wo) ∧ (∀ post : Int32 → SY → Prop, post r (d, nI c, x', dw, so, go, le, wo, th') → wY_settle_4 post d (nI c) (n + 1) f (nI m) x dw so go le wo th) := by
  intro n
  induction n with
  | zero =>
    intro m hm f x th
    have h : nI c ≤ nI m := nI_le (by omega) (by omega)
    exact ⟨f, x, th, fun _ hp => br_t h hp, fun _ hp => br_t h hp⟩
  | succ n ih =>
    intro m hm f x th
    have h : ¬ nI c ≤ nI m := nI_ge (by omega) (by omega)
    have hi : vp_in (nI m) 20 := vp_in_nI (by omega) (by decide)
    by_cases t : th (nI m).toNatClampNeg = 0
    · obtain ⟨q, qX, qY⟩ := mr_dist (so (nI m).toNatClampNeg) (go (nI m).toNatClampNeg)
      obtain ⟨p1, p2, -⟩ : mr_pl (so (nI m).toNatClampNeg) ∧ mr_pl (go (nI m).toNatClampNeg) ∧ True := by
        rw [nI_clamp (by omega)]
        exact ⟨(hok m (by omega)).1, (hok m (by omega)).2.1, trivial⟩
      obtain ⟨r, x', th', hX, hY⟩ := ih (m + 1) (by omega) (f + 1) (x + (q * (le (nI m).toNatClampNeg + 1))) (upd th (nI m).toNatClampNeg (vp_nar .boolean 1))
      exact ⟨r, x', th', fun post hp => br_f h ⟨hi, br_t t ⟨hi, nm_e ⟨hi, hi, hi, qX _ (nm_r (congrArg (x + ·) (Int32.mul_comm _ _)) (nm_e (nm_r (nI_1 m) (hX post hp))))⟩⟩⟩,
        fun post hp => br_f h ⟨hi, br_t t ⟨hi, nm_e (nm_e ⟨hi, hi, qY _ _ p1 p2 ⟨hi, nm_e (nm_r (nI_1 m) (hY post hp))⟩⟩)⟩⟩⟩
    · obtain ⟨r, x', th', hX, hY⟩ := ih (m + 1) (by omega) f x th
      exact ⟨r, x', th', fun post hp => br_f h ⟨hi, br_f t (nm_r (nI_1 m) (hX post hp))⟩, fun post hp => br_f h ⟨hi, br_f t (nm_r (nI_1 m) (hY post hp))⟩⟩
end
theorem i_vc_settle {k : Nat} {u : SX} {v : SY} (I : i_Rel k u v) (hk : k + 4 ≤ 2048) : wpX_settle (fun r u' => wpY_settle (fun r' v' => r' = r ∧ i_Rel (k + 4) u' v') v) u := by
  obtain ⟨d, c, x, dw, so, go, le, th, wo, rfl, rfl, hd, hc, hm⟩ := I
  obtain ⟨r, x', th', hX, hY⟩ := mr_settle (nI d) dw so go le wo hc hm c 0 (Nat.zero_add c) 0 x th
  exact ⟨_, hX _ ⟨_, hY _ ⟨rfl, mr_mk hd hc hm⟩⟩⟩
