/-! the law: which way a map is made -/
section
variable {G : ZG} {M : ZM} {Z : Option ZV → ZM → Prop} {S : ZS}
theorem h_one {x y : Int32} {kinds : Nat} (hk : kinds = 4 ∨ kinds = 13) (hC : CS M S) (hL : LH M S) (hZ : ∀ S' M', CS M' S' → LH M' S' → Z (some (zi (nI 1))) M') : Ctr 0 G mi_LW_one [zr 5 0, zr 20 0, zi x, zi y, zi (nI kinds)] M Z := by
  obtain ⟨to, hto, eto⟩ := n_and3 (x >>> (nI 4 &&& 31))
  obtain ⟨a, ha, ea⟩ := n_and3 (x >>> (nI 6 &&& 31))
  obtain ⟨b, hb, eb⟩ := n_and3 (x >>> (nI 8 &&& 31))
  have hn := (hL.2 a ha).1.1
  refine z_start (cuts := [(23, [0, 1, 2, 3, 4, 5, 6, 7])]) ok_LW_one_0 rfl rfl (fun Kz hKz => ?_)
  show zex G mi_LW_one Z _ cd_LW_one_0 300 0 [(0, zr 5 0), (1, zr 20 0), (2, zi x), (3, zi y), (4, zi (nI kinds))] [] M Kz
  conv => whnf
  refine h_low (by omega) (by omega) (fun what hw => ?_)
  conv => whnf
  refine hKz _ _ _ _ ?_
  rw [eto, ea]
  refine z_run (cuts := [(44, [0, 1, 2, 3, 4, 5, 6, 7, 8, 9])]) ok_LW_one_0 (fun Kz hKz => ?_)
  conv => whnf
  refine h_low (by decide) (by decide) (fun r hr => ?_)
  conv => whnf
  refine hKz _ _ _ _ ?_
  rw [eb, nI_add]
  refine z_run (cuts := [(64, [0, 1, 2, 3, 4, 5, 6, 7, 8, 9, 10])]) ok_LW_one_0 (fun Kz hKz => ?_)
  conv => whnf
  refine h_points (by omega) (hL.2 a ha) ?_
  conv => whnf
  refine ⟨vp_in_nI (by decide) (by decide), ?_⟩
  conv => whnf
  refine hKz _ _ _ _ ?_
  rw [nI_clamp (by decide)]
  have hC0 := CS_hfr hC (hz4_fr M 0)
  have hL0 := hz4_LS (n := 0) hL
  have h320 := hz4_at M 0
  have hm : zsetL 20 0 32 (lN 0) M = hz4 0 M := rfl
  rw [hm]
  generalize hz4 0 M = M0 at *
  clear hm
  refine z_run (cuts := [(70, [0, 1, 2, 3, 5, 6, 9]), (224, [0, 1, 3, 4, 5, 6, 7, 8, 9, 10])]) ok_LW_one_1 (fun Kz hKz => ?_)
  conv => whnf
  rw [nI_leI (by decide) (by omega)]
  refine ⟨fun q => ?_, fun q => ?_⟩
  · conv => whnf
    refine hKz _ _ _ _ ?_
    refine z_run (cuts := [(230, [0, 1, 3, 4, 5, 6, 9]), (388, [0, 1, 3, 5, 6, 7, 8, 10])]) ok_LW_one_2 (fun Kz hKz => ?_)
    conv => whnf
    rw [nI_leI (by decide) (by omega)]
    refine ⟨fun q2 => ?_, fun q2 => ?_⟩
    · conv => whnf
      refine hKz _ _ _ _ ?_
      refine z_run (cuts := [(395, [0, 1, 5, 6, 7, 8, 10]), (525, [0, 1, 3, 5, 6, 7, 10])]) ok_LW_one_3 (fun Kz hKz => ?_)
      conv => whnf
      rw [nI_leI (by decide) (by omega)]
      refine ⟨fun q3 => ?_, fun q3 => ?_⟩
      · conv => whnf
        refine hKz _ _ _ _ ?_
        refine z_run (cuts := [(532, [0, 1, 3, 5, 6, 7, 10]), (670, [0, 1, 3, 5, 6, 7, 10])]) ok_LW_one_4 (fun Kz hKz => ?_)
        conv => whnf
        rw [nI_leI (by decide) (by omega)]
        refine ⟨fun q4 => ?_, fun q4 => ?_⟩
        · conv => whnf
          refine hKz _ _ _ _ ?_
          refine z_run (cuts := [(677, [0, 1, 6, 7, 10]), (718, [0, 1, 3, 5, 6, 7, 10])]) ok_LW_one_5 (fun Kz hKz => ?_)
          conv => whnf
          rw [n_ne (by omega) (by decide)]
          refine ⟨fun q5 => ?_, fun q5 => ?_⟩
          · conv => whnf
            refine hKz _ _ _ _ ?_
            refine z_run (cuts := [(725, [0, 1, 6, 7, 10]), (758, [0, 1, 3, 6, 7, 10])]) ok_LW_one_6 (fun Kz hKz => ?_)
            conv => whnf
            rw [n_ne (by omega) (by decide)]
            refine ⟨fun q6 => ?_, fun q6 => ?_⟩
            · conv => whnf
              refine hKz _ _ _ _ ?_
              exact o_put ha hC0 hL0 h320 hZ
            · conv => whnf
              refine hKz _ _ _ _ ?_
              exact o_drop ha hC0 hL0 h320 hZ
          · conv => whnf
            refine hKz _ _ _ _ ?_
            exact o_retr hto ha hC0 hL0 h320 hZ
        · conv => whnf
          refine hKz _ _ _ _ ?_
          exact o_turn hto ha (by omega) hC0 hL0 h320 hZ
      · conv => whnf
        refine hKz _ _ _ _ ?_
        exact o_join hto ha hb (by omega) hC0 hL0 h320 hZ
    · conv => whnf
      refine hKz _ _ _ _ ?_
      exact o_twist hto (by omega) (by omega) (by omega) (by omega) hC0 hL0 hZ
  · conv => whnf
    refine hKz _ _ _ _ ?_
    exact o_make hto (by omega) (by omega) (by omega) hC0 hL0 h320 hZ
end
