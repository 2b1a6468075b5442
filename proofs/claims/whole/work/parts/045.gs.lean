theorem cs_bA_bA (σ : CS) (v : Int32) : c_bA (s_bA σ v) = v := rfl
theorem cs_bA_bB (σ : CS) (v : Int32) : c_bA (s_bB σ v) = c_bA σ := rfl
theorem cs_bA_sz (σ : CS) (v : Int32) : c_bA (s_sz σ v) = c_bA σ := rfl
theorem cs_bA_pw (σ : CS) (v : Int32) : c_bA (s_pw σ v) = c_bA σ := rfl
theorem cs_bA_rw (σ : CS) (v : Int32) : c_bA (s_rw σ v) = c_bA σ := rfl
theorem cs_bA_st (σ : CS) (v : Int32) : c_bA (s_st σ v) = c_bA σ := rfl
theorem cs_bA_sa (σ : CS) (v : Int32) : c_bA (s_sa σ v) = c_bA σ := rfl
theorem cs_bA_sc (σ : CS) (v : Int64) : c_bA (s_sc σ v) = c_bA σ := rfl
theorem cs_bA_xx (σ : CS) (v : Nat → Int32) : c_bA (s_xx σ v) = c_bA σ := rfl
theorem cs_bA_yy (σ : CS) (v : Nat → Int32) : c_bA (s_yy σ v) = c_bA σ := rfl
theorem cs_bA_lb (σ : CS) (v : Nat → Int32) : c_bA (s_lb σ v) = c_bA σ := rfl
theorem cs_bA_tl (σ : CS) (v : Nat → Int32) : c_bA (s_tl σ v) = c_bA σ := rfl
theorem cs_bA_en (σ : CS) (v : Nat → Int32) : c_bA (s_en σ v) = c_bA σ := rfl
theorem cs_bA_lf (σ : CS) (v : Nat → Int32) : c_bA (s_lf σ v) = c_bA σ := rfl
theorem cs_bA_ta (σ : CS) (v : Nat → Int32) : c_bA (s_ta σ v) = c_bA σ := rfl
theorem cs_bA_gg (σ : CS) (v : Nat → Nat → Int64) : c_bA (s_gg σ v) = c_bA σ := rfl
theorem cs_bB_bA (σ : CS) (v : Int32) : c_bB (s_bA σ v) = c_bB σ := rfl
theorem cs_bB_bB (σ : CS) (v : Int32) : c_bB (s_bB σ v) = v := rfl
theorem cs_bB_sz (σ : CS) (v : Int32) : c_bB (s_sz σ v) = c_bB σ := rfl
theorem cs_bB_pw (σ : CS) (v : Int32) : c_bB (s_pw σ v) = c_bB σ := rfl
theorem cs_bB_rw (σ : CS) (v : Int32) : c_bB (s_rw σ v) = c_bB σ := rfl
theorem cs_bB_st (σ : CS) (v : Int32) : c_bB (s_st σ v) = c_bB σ := rfl
theorem cs_bB_sa (σ : CS) (v : Int32) : c_bB (s_sa σ v) = c_bB σ := rfl
theorem cs_bB_sc (σ : CS) (v : Int64) : c_bB (s_sc σ v) = c_bB σ := rfl
theorem cs_bB_xx (σ : CS) (v : Nat → Int32) : c_bB (s_xx σ v) = c_bB σ := rfl
theorem cs_bB_yy (σ : CS) (v : Nat → Int32) : c_bB (s_yy σ v) = c_bB σ := rfl
theorem cs_bB_lb (σ : CS) (v : Nat → Int32) : c_bB (s_lb σ v) = c_bB σ := rfl
theorem cs_bB_tl (σ : CS) (v : Nat → Int32) : c_bB (s_tl σ v) = c_bB σ := rfl
theorem cs_bB_en (σ : CS) (v : Nat → Int32) : c_bB (s_en σ v) = c_bB σ := rfl
theorem cs_bB_lf (σ : CS) (v : Nat → Int32) : c_bB (s_lf σ v) = c_bB σ := rfl
theorem cs_bB_ta (σ : CS) (v : Nat → Int32) : c_bB (s_ta σ v) = c_bB σ := rfl
theorem cs_bB_gg (σ : CS) (v : Nat → Nat → Int64) : c_bB (s_gg σ v) = c_bB σ := rfl
theorem cs_sz_bA (σ : CS) (v : Int32) : c_sz (s_bA σ v) = c_sz σ := rfl
theorem cs_sz_bB (σ : CS) (v : Int32) : c_sz (s_bB σ v) = c_sz σ := rfl
theorem cs_sz_sz (σ : CS) (v : Int32) : c_sz (s_sz σ v) = v := rfl
theorem cs_sz_pw (σ : CS) (v : Int32) : c_sz (s_pw σ v) = c_sz σ := rfl
theorem cs_sz_rw (σ : CS) (v : Int32) : c_sz (s_rw σ v) = c_sz σ := rfl
theorem cs_sz_st (σ : CS) (v : Int32) : c_sz (s_st σ v) = c_sz σ := rfl
theorem cs_sz_sa (σ : CS) (v : Int32) : c_sz (s_sa σ v) = c_sz σ := rfl
theorem cs_sz_sc (σ : CS) (v : Int64) : c_sz (s_sc σ v) = c_sz σ := rfl
theorem cs_sz_xx (σ : CS) (v : Nat → Int32) : c_sz (s_xx σ v) = c_sz σ := rfl
theorem cs_sz_yy (σ : CS) (v : Nat → Int32) : c_sz (s_yy σ v) = c_sz σ := rfl
theorem cs_sz_lb (σ : CS) (v : Nat → Int32) : c_sz (s_lb σ v) = c_sz σ := rfl
theorem cs_sz_tl (σ : CS) (v : Nat → Int32) : c_sz (s_tl σ v) = c_sz σ := rfl
theorem cs_sz_en (σ : CS) (v : Nat → Int32) : c_sz (s_en σ v) = c_sz σ := rfl
theorem cs_sz_lf (σ : CS) (v : Nat → Int32) : c_sz (s_lf σ v) = c_sz σ := rfl
theorem cs_sz_ta (σ : CS) (v : Nat → Int32) : c_sz (s_ta σ v) = c_sz σ := rfl
theorem cs_sz_gg (σ : CS) (v : Nat → Nat → Int64) : c_sz (s_gg σ v) = c_sz σ := rfl
theorem cs_pw_bA (σ : CS) (v : Int32) : c_pw (s_bA σ v) = c_pw σ := rfl
theorem cs_pw_bB (σ : CS) (v : Int32) : c_pw (s_bB σ v) = c_pw σ := rfl
theorem cs_pw_sz (σ : CS) (v : Int32) : c_pw (s_sz σ v) = c_pw σ := rfl
theorem cs_pw_pw (σ : CS) (v : Int32) : c_pw (s_pw σ v) = v := rfl
theorem cs_pw_rw (σ : CS) (v : Int32) : c_pw (s_rw σ v) = c_pw σ := rfl
theorem cs_pw_st (σ : CS) (v : Int32) : c_pw (s_st σ v) = c_pw σ := rfl
theorem cs_pw_sa (σ : CS) (v : Int32) : c_pw (s_sa σ v) = c_pw σ := rfl
theorem cs_pw_sc (σ : CS) (v : Int64) : c_pw (s_sc σ v) = c_pw σ := rfl
theorem cs_pw_xx (σ : CS) (v : Nat → Int32) : c_pw (s_xx σ v) = c_pw σ := rfl
theorem cs_pw_yy (σ : CS) (v : Nat → Int32) : c_pw (s_yy σ v) = c_pw σ := rfl
theorem cs_pw_lb (σ : CS) (v : Nat → Int32) : c_pw (s_lb σ v) = c_pw σ := rfl
theorem cs_pw_tl (σ : CS) (v : Nat → Int32) : c_pw (s_tl σ v) = c_pw σ := rfl
theorem cs_pw_en (σ : CS) (v : Nat → Int32) : c_pw (s_en σ v) = c_pw σ := rfl
theorem cs_pw_lf (σ : CS) (v : Nat → Int32) : c_pw (s_lf σ v) = c_pw σ := rfl
theorem cs_pw_ta (σ : CS) (v : Nat → Int32) : c_pw (s_ta σ v) = c_pw σ := rfl
theorem cs_pw_gg (σ : CS) (v : Nat → Nat → Int64) : c_pw (s_gg σ v) = c_pw σ := rfl
theorem cs_rw_bA (σ : CS) (v : Int32) : c_rw (s_bA σ v) = c_rw σ := rfl
theorem cs_rw_bB (σ : CS) (v : Int32) : c_rw (s_bB σ v) = c_rw σ := rfl
theorem cs_rw_sz (σ : CS) (v : Int32) : c_rw (s_sz σ v) = c_rw σ := rfl
theorem cs_rw_pw (σ : CS) (v : Int32) : c_rw (s_pw σ v) = c_rw σ := rfl
theorem cs_rw_rw (σ : CS) (v : Int32) : c_rw (s_rw σ v) = v := rfl
theorem cs_rw_st (σ : CS) (v : Int32) : c_rw (s_st σ v) = c_rw σ := rfl
theorem cs_rw_sa (σ : CS) (v : Int32) : c_rw (s_sa σ v) = c_rw σ := rfl
theorem cs_rw_sc (σ : CS) (v : Int64) : c_rw (s_sc σ v) = c_rw σ := rfl
theorem cs_rw_xx (σ : CS) (v : Nat → Int32) : c_rw (s_xx σ v) = c_rw σ := rfl
theorem cs_rw_yy (σ : CS) (v : Nat → Int32) : c_rw (s_yy σ v) = c_rw σ := rfl
theorem cs_rw_lb (σ : CS) (v : Nat → Int32) : c_rw (s_lb σ v) = c_rw σ := rfl
theorem cs_rw_tl (σ : CS) (v : Nat → Int32) : c_rw (s_tl σ v) = c_rw σ := rfl
theorem cs_rw_en (σ : CS) (v : Nat → Int32) : c_rw (s_en σ v) = c_rw σ := rfl
theorem cs_rw_lf (σ : CS) (v : Nat → Int32) : c_rw (s_lf σ v) = c_rw σ := rfl
theorem cs_rw_ta (σ : CS) (v : Nat → Int32) : c_rw (s_ta σ v) = c_rw σ := rfl
theorem cs_rw_gg (σ : CS) (v : Nat → Nat → Int64) : c_rw (s_gg σ v) = c_rw σ := rfl
theorem cs_st_bA (σ : CS) (v : Int32) : c_st (s_bA σ v) = c_st σ := rfl
theorem cs_st_bB (σ : CS) (v : Int32) : c_st (s_bB σ v) = c_st σ := rfl
theorem cs_st_sz (σ : CS) (v : Int32) : c_st (s_sz σ v) = c_st σ := rfl
theorem cs_st_pw (σ : CS) (v : Int32) : c_st (s_pw σ v) = c_st σ := rfl
theorem cs_st_rw (σ : CS) (v : Int32) : c_st (s_rw σ v) = c_st σ := rfl
theorem cs_st_st (σ : CS) (v : Int32) : c_st (s_st σ v) = v := rfl
theorem cs_st_sa (σ : CS) (v : Int32) : c_st (s_sa σ v) = c_st σ := rfl
theorem cs_st_sc (σ : CS) (v : Int64) : c_st (s_sc σ v) = c_st σ := rfl
theorem cs_st_xx (σ : CS) (v : Nat → Int32) : c_st (s_xx σ v) = c_st σ := rfl
theorem cs_st_yy (σ : CS) (v : Nat → Int32) : c_st (s_yy σ v) = c_st σ := rfl
theorem cs_st_lb (σ : CS) (v : Nat → Int32) : c_st (s_lb σ v) = c_st σ := rfl
theorem cs_st_tl (σ : CS) (v : Nat → Int32) : c_st (s_tl σ v) = c_st σ := rfl
theorem cs_st_en (σ : CS) (v : Nat → Int32) : c_st (s_en σ v) = c_st σ := rfl
theorem cs_st_lf (σ : CS) (v : Nat → Int32) : c_st (s_lf σ v) = c_st σ := rfl
theorem cs_st_ta (σ : CS) (v : Nat → Int32) : c_st (s_ta σ v) = c_st σ := rfl
theorem cs_st_gg (σ : CS) (v : Nat → Nat → Int64) : c_st (s_gg σ v) = c_st σ := rfl
theorem cs_sa_bA (σ : CS) (v : Int32) : c_sa (s_bA σ v) = c_sa σ := rfl
theorem cs_sa_bB (σ : CS) (v : Int32) : c_sa (s_bB σ v) = c_sa σ := rfl
theorem cs_sa_sz (σ : CS) (v : Int32) : c_sa (s_sz σ v) = c_sa σ := rfl
theorem cs_sa_pw (σ : CS) (v : Int32) : c_sa (s_pw σ v) = c_sa σ := rfl
theorem cs_sa_rw (σ : CS) (v : Int32) : c_sa (s_rw σ v) = c_sa σ := rfl
theorem cs_sa_st (σ : CS) (v : Int32) : c_sa (s_st σ v) = c_sa σ := rfl
theorem cs_sa_sa (σ : CS) (v : Int32) : c_sa (s_sa σ v) = v := rfl
theorem cs_sa_sc (σ : CS) (v : Int64) : c_sa (s_sc σ v) = c_sa σ := rfl
theorem cs_sa_xx (σ : CS) (v : Nat → Int32) : c_sa (s_xx σ v) = c_sa σ := rfl
theorem cs_sa_yy (σ : CS) (v : Nat → Int32) : c_sa (s_yy σ v) = c_sa σ := rfl
theorem cs_sa_lb (σ : CS) (v : Nat → Int32) : c_sa (s_lb σ v) = c_sa σ := rfl
theorem cs_sa_tl (σ : CS) (v : Nat → Int32) : c_sa (s_tl σ v) = c_sa σ := rfl
theorem cs_sa_en (σ : CS) (v : Nat → Int32) : c_sa (s_en σ v) = c_sa σ := rfl
theorem cs_sa_lf (σ : CS) (v : Nat → Int32) : c_sa (s_lf σ v) = c_sa σ := rfl
theorem cs_sa_ta (σ : CS) (v : Nat → Int32) : c_sa (s_ta σ v) = c_sa σ := rfl
theorem cs_sa_gg (σ : CS) (v : Nat → Nat → Int64) : c_sa (s_gg σ v) = c_sa σ := rfl
theorem cs_sc_bA (σ : CS) (v : Int32) : c_sc (s_bA σ v) = c_sc σ := rfl
theorem cs_sc_bB (σ : CS) (v : Int32) : c_sc (s_bB σ v) = c_sc σ := rfl
theorem cs_sc_sz (σ : CS) (v : Int32) : c_sc (s_sz σ v) = c_sc σ := rfl
theorem cs_sc_pw (σ : CS) (v : Int32) : c_sc (s_pw σ v) = c_sc σ := rfl
theorem cs_sc_rw (σ : CS) (v : Int32) : c_sc (s_rw σ v) = c_sc σ := rfl
theorem cs_sc_st (σ : CS) (v : Int32) : c_sc (s_st σ v) = c_sc σ := rfl
theorem cs_sc_sa (σ : CS) (v : Int32) : c_sc (s_sa σ v) = c_sc σ := rfl
theorem cs_sc_sc (σ : CS) (v : Int64) : c_sc (s_sc σ v) = v := rfl
theorem cs_sc_xx (σ : CS) (v : Nat → Int32) : c_sc (s_xx σ v) = c_sc σ := rfl
theorem cs_sc_yy (σ : CS) (v : Nat → Int32) : c_sc (s_yy σ v) = c_sc σ := rfl
theorem cs_sc_lb (σ : CS) (v : Nat → Int32) : c_sc (s_lb σ v) = c_sc σ := rfl
theorem cs_sc_tl (σ : CS) (v : Nat → Int32) : c_sc (s_tl σ v) = c_sc σ := rfl
theorem cs_sc_en (σ : CS) (v : Nat → Int32) : c_sc (s_en σ v) = c_sc σ := rfl
theorem cs_sc_lf (σ : CS) (v : Nat → Int32) : c_sc (s_lf σ v) = c_sc σ := rfl
theorem cs_sc_ta (σ : CS) (v : Nat → Int32) : c_sc (s_ta σ v) = c_sc σ := rfl
theorem cs_sc_gg (σ : CS) (v : Nat → Nat → Int64) : c_sc (s_gg σ v) = c_sc σ := rfl
theorem cs_xx_bA (σ : CS) (v : Int32) : c_xx (s_bA σ v) = c_xx σ := rfl
theorem cs_xx_bB (σ : CS) (v : Int32) : c_xx (s_bB σ v) = c_xx σ := rfl
theorem cs_xx_sz (σ : CS) (v : Int32) : c_xx (s_sz σ v) = c_xx σ := rfl
theorem cs_xx_pw (σ : CS) (v : Int32) : c_xx (s_pw σ v) = c_xx σ := rfl
theorem cs_xx_rw (σ : CS) (v : Int32) : c_xx (s_rw σ v) = c_xx σ := rfl
theorem cs_xx_st (σ : CS) (v : Int32) : c_xx (s_st σ v) = c_xx σ := rfl
theorem cs_xx_sa (σ : CS) (v : Int32) : c_xx (s_sa σ v) = c_xx σ := rfl
theorem cs_xx_sc (σ : CS) (v : Int64) : c_xx (s_sc σ v) = c_xx σ := rfl
theorem cs_xx_xx (σ : CS) (v : Nat → Int32) : c_xx (s_xx σ v) = v := rfl
theorem cs_xx_yy (σ : CS) (v : Nat → Int32) : c_xx (s_yy σ v) = c_xx σ := rfl
theorem cs_xx_lb (σ : CS) (v : Nat → Int32) : c_xx (s_lb σ v) = c_xx σ := rfl
theorem cs_xx_tl (σ : CS) (v : Nat → Int32) : c_xx (s_tl σ v) = c_xx σ := rfl
theorem cs_xx_en (σ : CS) (v : Nat → Int32) : c_xx (s_en σ v) = c_xx σ := rfl
theorem cs_xx_lf (σ : CS) (v : Nat → Int32) : c_xx (s_lf σ v) = c_xx σ := rfl
theorem cs_xx_ta (σ : CS) (v : Nat → Int32) : c_xx (s_ta σ v) = c_xx σ := rfl
theorem cs_xx_gg (σ : CS) (v : Nat → Nat → Int64) : c_xx (s_gg σ v) = c_xx σ := rfl
theorem cs_yy_bA (σ : CS) (v : Int32) : c_yy (s_bA σ v) = c_yy σ := rfl
theorem cs_yy_bB (σ : CS) (v : Int32) : c_yy (s_bB σ v) = c_yy σ := rfl
theorem cs_yy_sz (σ : CS) (v : Int32) : c_yy (s_sz σ v) = c_yy σ := rfl
theorem cs_yy_pw (σ : CS) (v : Int32) : c_yy (s_pw σ v) = c_yy σ := rfl
theorem cs_yy_rw (σ : CS) (v : Int32) : c_yy (s_rw σ v) = c_yy σ := rfl
theorem cs_yy_st (σ : CS) (v : Int32) : c_yy (s_st σ v) = c_yy σ := rfl
theorem cs_yy_sa (σ : CS) (v : Int32) : c_yy (s_sa σ v) = c_yy σ := rfl
theorem cs_yy_sc (σ : CS) (v : Int64) : c_yy (s_sc σ v) = c_yy σ := rfl
theorem cs_yy_xx (σ : CS) (v : Nat → Int32) : c_yy (s_xx σ v) = c_yy σ := rfl
theorem cs_yy_yy (σ : CS) (v : Nat → Int32) : c_yy (s_yy σ v) = v := rfl
theorem cs_yy_lb (σ : CS) (v : Nat → Int32) : c_yy (s_lb σ v) = c_yy σ := rfl
theorem cs_yy_tl (σ : CS) (v : Nat → Int32) : c_yy (s_tl σ v) = c_yy σ := rfl
theorem cs_yy_en (σ : CS) (v : Nat → Int32) : c_yy (s_en σ v) = c_yy σ := rfl
theorem cs_yy_lf (σ : CS) (v : Nat → Int32) : c_yy (s_lf σ v) = c_yy σ := rfl
theorem cs_yy_ta (σ : CS) (v : Nat → Int32) : c_yy (s_ta σ v) = c_yy σ := rfl
theorem cs_yy_gg (σ : CS) (v : Nat → Nat → Int64) : c_yy (s_gg σ v) = c_yy σ := rfl
theorem cs_lb_bA (σ : CS) (v : Int32) : c_lb (s_bA σ v) = c_lb σ := rfl
theorem cs_lb_bB (σ : CS) (v : Int32) : c_lb (s_bB σ v) = c_lb σ := rfl
theorem cs_lb_sz (σ : CS) (v : Int32) : c_lb (s_sz σ v) = c_lb σ := rfl
theorem cs_lb_pw (σ : CS) (v : Int32) : c_lb (s_pw σ v) = c_lb σ := rfl
theorem cs_lb_rw (σ : CS) (v : Int32) : c_lb (s_rw σ v) = c_lb σ := rfl
theorem cs_lb_st (σ : CS) (v : Int32) : c_lb (s_st σ v) = c_lb σ := rfl
theorem cs_lb_sa (σ : CS) (v : Int32) : c_lb (s_sa σ v) = c_lb σ := rfl
theorem cs_lb_sc (σ : CS) (v : Int64) : c_lb (s_sc σ v) = c_lb σ := rfl
theorem cs_lb_xx (σ : CS) (v : Nat → Int32) : c_lb (s_xx σ v) = c_lb σ := rfl
theorem cs_lb_yy (σ : CS) (v : Nat → Int32) : c_lb (s_yy σ v) = c_lb σ := rfl
theorem cs_lb_lb (σ : CS) (v : Nat → Int32) : c_lb (s_lb σ v) = v := rfl
theorem cs_lb_tl (σ : CS) (v : Nat → Int32) : c_lb (s_tl σ v) = c_lb σ := rfl
theorem cs_lb_en (σ : CS) (v : Nat → Int32) : c_lb (s_en σ v) = c_lb σ := rfl
theorem cs_lb_lf (σ : CS) (v : Nat → Int32) : c_lb (s_lf σ v) = c_lb σ := rfl
theorem cs_lb_ta (σ : CS) (v : Nat → Int32) : c_lb (s_ta σ v) = c_lb σ := rfl
theorem cs_lb_gg (σ : CS) (v : Nat → Nat → Int64) : c_lb (s_gg σ v) = c_lb σ := rfl
theorem cs_tl_bA (σ : CS) (v : Int32) : c_tl (s_bA σ v) = c_tl σ := rfl
theorem cs_tl_bB (σ : CS) (v : Int32) : c_tl (s_bB σ v) = c_tl σ := rfl
theorem cs_tl_sz (σ : CS) (v : Int32) : c_tl (s_sz σ v) = c_tl σ := rfl
theorem cs_tl_pw (σ : CS) (v : Int32) : c_tl (s_pw σ v) = c_tl σ := rfl
theorem cs_tl_rw (σ : CS) (v : Int32) : c_tl (s_rw σ v) = c_tl σ := rfl
theorem cs_tl_st (σ : CS) (v : Int32) : c_tl (s_st σ v) = c_tl σ := rfl
theorem cs_tl_sa (σ : CS) (v : Int32) : c_tl (s_sa σ v) = c_tl σ := rfl
theorem cs_tl_sc (σ : CS) (v : Int64) : c_tl (s_sc σ v) = c_tl σ := rfl
theorem cs_tl_xx (σ : CS) (v : Nat → Int32) : c_tl (s_xx σ v) = c_tl σ := rfl
theorem cs_tl_yy (σ : CS) (v : Nat → Int32) : c_tl (s_yy σ v) = c_tl σ := rfl
theorem cs_tl_lb (σ : CS) (v : Nat → Int32) : c_tl (s_lb σ v) = c_tl σ := rfl
theorem cs_tl_tl (σ : CS) (v : Nat → Int32) : c_tl (s_tl σ v) = v := rfl
theorem cs_tl_en (σ : CS) (v : Nat → Int32) : c_tl (s_en σ v) = c_tl σ := rfl
theorem cs_tl_lf (σ : CS) (v : Nat → Int32) : c_tl (s_lf σ v) = c_tl σ := rfl
theorem cs_tl_ta (σ : CS) (v : Nat → Int32) : c_tl (s_ta σ v) = c_tl σ := rfl
theorem cs_tl_gg (σ : CS) (v : Nat → Nat → Int64) : c_tl (s_gg σ v) = c_tl σ := rfl
theorem cs_en_bA (σ : CS) (v : Int32) : c_en (s_bA σ v) = c_en σ := rfl
theorem cs_en_bB (σ : CS) (v : Int32) : c_en (s_bB σ v) = c_en σ := rfl
theorem cs_en_sz (σ : CS) (v : Int32) : c_en (s_sz σ v) = c_en σ := rfl
theorem cs_en_pw (σ : CS) (v : Int32) : c_en (s_pw σ v) = c_en σ := rfl
theorem cs_en_rw (σ : CS) (v : Int32) : c_en (s_rw σ v) = c_en σ := rfl
theorem cs_en_st (σ : CS) (v : Int32) : c_en (s_st σ v) = c_en σ := rfl
theorem cs_en_sa (σ : CS) (v : Int32) : c_en (s_sa σ v) = c_en σ := rfl
theorem cs_en_sc (σ : CS) (v : Int64) : c_en (s_sc σ v) = c_en σ := rfl
theorem cs_en_xx (σ : CS) (v : Nat → Int32) : c_en (s_xx σ v) = c_en σ := rfl
theorem cs_en_yy (σ : CS) (v : Nat → Int32) : c_en (s_yy σ v) = c_en σ := rfl
theorem cs_en_lb (σ : CS) (v : Nat → Int32) : c_en (s_lb σ v) = c_en σ := rfl
theorem cs_en_tl (σ : CS) (v : Nat → Int32) : c_en (s_tl σ v) = c_en σ := rfl
theorem cs_en_en (σ : CS) (v : Nat → Int32) : c_en (s_en σ v) = v := rfl
theorem cs_en_lf (σ : CS) (v : Nat → Int32) : c_en (s_lf σ v) = c_en σ := rfl
theorem cs_en_ta (σ : CS) (v : Nat → Int32) : c_en (s_ta σ v) = c_en σ := rfl
theorem cs_en_gg (σ : CS) (v : Nat → Nat → Int64) : c_en (s_gg σ v) = c_en σ := rfl
theorem cs_lf_bA (σ : CS) (v : Int32) : c_lf (s_bA σ v) = c_lf σ := rfl
theorem cs_lf_bB (σ : CS) (v : Int32) : c_lf (s_bB σ v) = c_lf σ := rfl
theorem cs_lf_sz (σ : CS) (v : Int32) : c_lf (s_sz σ v) = c_lf σ := rfl
theorem cs_lf_pw (σ : CS) (v : Int32) : c_lf (s_pw σ v) = c_lf σ := rfl
theorem cs_lf_rw (σ : CS) (v : Int32) : c_lf (s_rw σ v) = c_lf σ := rfl
theorem cs_lf_st (σ : CS) (v : Int32) : c_lf (s_st σ v) = c_lf σ := rfl
theorem cs_lf_sa (σ : CS) (v : Int32) : c_lf (s_sa σ v) = c_lf σ := rfl
theorem cs_lf_sc (σ : CS) (v : Int64) : c_lf (s_sc σ v) = c_lf σ := rfl
theorem cs_lf_xx (σ : CS) (v : Nat → Int32) : c_lf (s_xx σ v) = c_lf σ := rfl
theorem cs_lf_yy (σ : CS) (v : Nat → Int32) : c_lf (s_yy σ v) = c_lf σ := rfl
theorem cs_lf_lb (σ : CS) (v : Nat → Int32) : c_lf (s_lb σ v) = c_lf σ := rfl
theorem cs_lf_tl (σ : CS) (v : Nat → Int32) : c_lf (s_tl σ v) = c_lf σ := rfl
theorem cs_lf_en (σ : CS) (v : Nat → Int32) : c_lf (s_en σ v) = c_lf σ := rfl
theorem cs_lf_lf (σ : CS) (v : Nat → Int32) : c_lf (s_lf σ v) = v := rfl
theorem cs_lf_ta (σ : CS) (v : Nat → Int32) : c_lf (s_ta σ v) = c_lf σ := rfl
theorem cs_lf_gg (σ : CS) (v : Nat → Nat → Int64) : c_lf (s_gg σ v) = c_lf σ := rfl
theorem cs_ta_bA (σ : CS) (v : Int32) : c_ta (s_bA σ v) = c_ta σ := rfl
theorem cs_ta_bB (σ : CS) (v : Int32) : c_ta (s_bB σ v) = c_ta σ := rfl
theorem cs_ta_sz (σ : CS) (v : Int32) : c_ta (s_sz σ v) = c_ta σ := rfl
theorem cs_ta_pw (σ : CS) (v : Int32) : c_ta (s_pw σ v) = c_ta σ := rfl
theorem cs_ta_rw (σ : CS) (v : Int32) : c_ta (s_rw σ v) = c_ta σ := rfl
theorem cs_ta_st (σ : CS) (v : Int32) : c_ta (s_st σ v) = c_ta σ := rfl
theorem cs_ta_sa (σ : CS) (v : Int32) : c_ta (s_sa σ v) = c_ta σ := rfl
theorem cs_ta_sc (σ : CS) (v : Int64) : c_ta (s_sc σ v) = c_ta σ := rfl
theorem cs_ta_xx (σ : CS) (v : Nat → Int32) : c_ta (s_xx σ v) = c_ta σ := rfl
theorem cs_ta_yy (σ : CS) (v : Nat → Int32) : c_ta (s_yy σ v) = c_ta σ := rfl
theorem cs_ta_lb (σ : CS) (v : Nat → Int32) : c_ta (s_lb σ v) = c_ta σ := rfl
theorem cs_ta_tl (σ : CS) (v : Nat → Int32) : c_ta (s_tl σ v) = c_ta σ := rfl
theorem cs_ta_en (σ : CS) (v : Nat → Int32) : c_ta (s_en σ v) = c_ta σ := rfl
theorem cs_ta_lf (σ : CS) (v : Nat → Int32) : c_ta (s_lf σ v) = c_ta σ := rfl
theorem cs_ta_ta (σ : CS) (v : Nat → Int32) : c_ta (s_ta σ v) = v := rfl
theorem cs_ta_gg (σ : CS) (v : Nat → Nat → Int64) : c_ta (s_gg σ v) = c_ta σ := rfl
theorem cs_gg_bA (σ : CS) (v : Int32) : c_gg (s_bA σ v) = c_gg σ := rfl
theorem cs_gg_bB (σ : CS) (v : Int32) : c_gg (s_bB σ v) = c_gg σ := rfl
theorem cs_gg_sz (σ : CS) (v : Int32) : c_gg (s_sz σ v) = c_gg σ := rfl
theorem cs_gg_pw (σ : CS) (v : Int32) : c_gg (s_pw σ v) = c_gg σ := rfl
theorem cs_gg_rw (σ : CS) (v : Int32) : c_gg (s_rw σ v) = c_gg σ := rfl
theorem cs_gg_st (σ : CS) (v : Int32) : c_gg (s_st σ v) = c_gg σ := rfl
theorem cs_gg_sa (σ : CS) (v : Int32) : c_gg (s_sa σ v) = c_gg σ := rfl
theorem cs_gg_sc (σ : CS) (v : Int64) : c_gg (s_sc σ v) = c_gg σ := rfl
theorem cs_gg_xx (σ : CS) (v : Nat → Int32) : c_gg (s_xx σ v) = c_gg σ := rfl
theorem cs_gg_yy (σ : CS) (v : Nat → Int32) : c_gg (s_yy σ v) = c_gg σ := rfl
theorem cs_gg_lb (σ : CS) (v : Nat → Int32) : c_gg (s_lb σ v) = c_gg σ := rfl
theorem cs_gg_tl (σ : CS) (v : Nat → Int32) : c_gg (s_tl σ v) = c_gg σ := rfl
theorem cs_gg_en (σ : CS) (v : Nat → Int32) : c_gg (s_en σ v) = c_gg σ := rfl
theorem cs_gg_lf (σ : CS) (v : Nat → Int32) : c_gg (s_lf σ v) = c_gg σ := rfl
theorem cs_gg_ta (σ : CS) (v : Nat → Int32) : c_gg (s_ta σ v) = c_gg σ := rfl
theorem cs_gg_gg (σ : CS) (v : Nat → Nat → Int64) : c_gg (s_gg σ v) = v := rfl
theorem ss_sc (σ : CS) (v w : Int64) : s_sc (s_sc σ v) w = s_sc σ w := match σ with
  | (_, _, _, _, _, _, _, _, _, _, _, _, _, _, _, _) => rfl
theorem ss_gg (σ : CS) (v w : Nat → Nat → Int64) : s_gg (s_gg σ v) w = s_gg σ w := match σ with
  | (_, _, _, _, _, _, _, _, _, _, _, _, _, _, _, _) => rfl
theorem mn_pt_pt (σ : MS) (v : Int32) : m_pt (n_pt σ v) = v := rfl
theorem mn_pt_dg (σ : MS) (v : Int32) : m_pt (n_dg σ v) = m_pt σ := rfl
theorem mn_pt_bA (σ : MS) (v : Int32) : m_pt (n_bA σ v) = m_pt σ := rfl
theorem mn_pt_bB (σ : MS) (v : Int32) : m_pt (n_bB σ v) = m_pt σ := rfl
theorem mn_pt_px (σ : MS) (v : Nat → Int32) : m_pt (n_px σ v) = m_pt σ := rfl
theorem mn_pt_py (σ : MS) (v : Nat → Int32) : m_pt (n_py σ v) = m_pt σ := rfl
theorem mn_pt_lb (σ : MS) (v : Nat → Int32) : m_pt (n_lb σ v) = m_pt σ := rfl
theorem mn_pt_bg (σ : MS) (v : Int32) : m_pt (n_bg σ v) = m_pt σ := rfl
theorem mn_pt_dn (σ : MS) (v : Int32) : m_pt (n_dn σ v) = m_pt σ := rfl
theorem mn_pt_ry (σ : MS) (v : Int32) : m_pt (n_ry σ v) = m_pt σ := rfl
theorem mn_pt_rw (σ : MS) (v : Int32) : m_pt (n_rw σ v) = m_pt σ := rfl
theorem mn_pt_tb (σ : MS) (v : Nat → Int64) : m_pt (n_tb σ v) = m_pt σ := rfl
theorem mn_pt_bl (σ : MS) (v : Int64) : m_pt (n_bl σ v) = m_pt σ := rfl
theorem mn_pt_tl (σ : MS) (v : Nat → Int32) : m_pt (n_tl σ v) = m_pt σ := rfl
theorem mn_pt_st (σ : MS) (v : Int32) : m_pt (n_st σ v) = m_pt σ := rfl
theorem mn_pt_en (σ : MS) (v : Nat → Int32) : m_pt (n_en σ v) = m_pt σ := rfl
theorem mn_pt_lf (σ : MS) (v : Nat → Int32) : m_pt (n_lf σ v) = m_pt σ := rfl
theorem mn_pt_la (σ : MS) (v : Nat → Int32) : m_pt (n_la σ v) = m_pt σ := rfl
theorem mn_pt_hi (σ : MS) (v : Int64) : m_pt (n_hi σ v) = m_pt σ := rfl
theorem mn_pt_lo (σ : MS) (v : Int64) : m_pt (n_lo σ v) = m_pt σ := rfl
theorem mn_dg_pt (σ : MS) (v : Int32) : m_dg (n_pt σ v) = m_dg σ := rfl
theorem mn_dg_dg (σ : MS) (v : Int32) : m_dg (n_dg σ v) = v := rfl
theorem mn_dg_bA (σ : MS) (v : Int32) : m_dg (n_bA σ v) = m_dg σ := rfl
theorem mn_dg_bB (σ : MS) (v : Int32) : m_dg (n_bB σ v) = m_dg σ := rfl
theorem mn_dg_px (σ : MS) (v : Nat → Int32) : m_dg (n_px σ v) = m_dg σ := rfl
theorem mn_dg_py (σ : MS) (v : Nat → Int32) : m_dg (n_py σ v) = m_dg σ := rfl
theorem mn_dg_lb (σ : MS) (v : Nat → Int32) : m_dg (n_lb σ v) = m_dg σ := rfl
theorem mn_dg_bg (σ : MS) (v : Int32) : m_dg (n_bg σ v) = m_dg σ := rfl
theorem mn_dg_dn (σ : MS) (v : Int32) : m_dg (n_dn σ v) = m_dg σ := rfl
theorem mn_dg_ry (σ : MS) (v : Int32) : m_dg (n_ry σ v) = m_dg σ := rfl
theorem mn_dg_rw (σ : MS) (v : Int32) : m_dg (n_rw σ v) = m_dg σ := rfl
theorem mn_dg_tb (σ : MS) (v : Nat → Int64) : m_dg (n_tb σ v) = m_dg σ := rfl
theorem mn_dg_bl (σ : MS) (v : Int64) : m_dg (n_bl σ v) = m_dg σ := rfl
theorem mn_dg_tl (σ : MS) (v : Nat → Int32) : m_dg (n_tl σ v) = m_dg σ := rfl
theorem mn_dg_st (σ : MS) (v : Int32) : m_dg (n_st σ v) = m_dg σ := rfl
theorem mn_dg_en (σ : MS) (v : Nat → Int32) : m_dg (n_en σ v) = m_dg σ := rfl
theorem mn_dg_lf (σ : MS) (v : Nat → Int32) : m_dg (n_lf σ v) = m_dg σ := rfl
theorem mn_dg_la (σ : MS) (v : Nat → Int32) : m_dg (n_la σ v) = m_dg σ := rfl
theorem mn_dg_hi (σ : MS) (v : Int64) : m_dg (n_hi σ v) = m_dg σ := rfl
theorem mn_dg_lo (σ : MS) (v : Int64) : m_dg (n_lo σ v) = m_dg σ := rfl
theorem mn_bA_pt (σ : MS) (v : Int32) : m_bA (n_pt σ v) = m_bA σ := rfl
theorem mn_bA_dg (σ : MS) (v : Int32) : m_bA (n_dg σ v) = m_bA σ := rfl
theorem mn_bA_bA (σ : MS) (v : Int32) : m_bA (n_bA σ v) = v := rfl
theorem mn_bA_bB (σ : MS) (v : Int32) : m_bA (n_bB σ v) = m_bA σ := rfl
theorem mn_bA_px (σ : MS) (v : Nat → Int32) : m_bA (n_px σ v) = m_bA σ := rfl
theorem mn_bA_py (σ : MS) (v : Nat → Int32) : m_bA (n_py σ v) = m_bA σ := rfl
theorem mn_bA_lb (σ : MS) (v : Nat → Int32) : m_bA (n_lb σ v) = m_bA σ := rfl
theorem mn_bA_bg (σ : MS) (v : Int32) : m_bA (n_bg σ v) = m_bA σ := rfl
theorem mn_bA_dn (σ : MS) (v : Int32) : m_bA (n_dn σ v) = m_bA σ := rfl
theorem mn_bA_ry (σ : MS) (v : Int32) : m_bA (n_ry σ v) = m_bA σ := rfl
theorem mn_bA_rw (σ : MS) (v : Int32) : m_bA (n_rw σ v) = m_bA σ := rfl
theorem mn_bA_tb (σ : MS) (v : Nat → Int64) : m_bA (n_tb σ v) = m_bA σ := rfl
theorem mn_bA_bl (σ : MS) (v : Int64) : m_bA (n_bl σ v) = m_bA σ := rfl
theorem mn_bA_tl (σ : MS) (v : Nat → Int32) : m_bA (n_tl σ v) = m_bA σ := rfl
theorem mn_bA_st (σ : MS) (v : Int32) : m_bA (n_st σ v) = m_bA σ := rfl
theorem mn_bA_en (σ : MS) (v : Nat → Int32) : m_bA (n_en σ v) = m_bA σ := rfl
theorem mn_bA_lf (σ : MS) (v : Nat → Int32) : m_bA (n_lf σ v) = m_bA σ := rfl
theorem mn_bA_la (σ : MS) (v : Nat → Int32) : m_bA (n_la σ v) = m_bA σ := rfl
theorem mn_bA_hi (σ : MS) (v : Int64) : m_bA (n_hi σ v) = m_bA σ := rfl
theorem mn_bA_lo (σ : MS) (v : Int64) : m_bA (n_lo σ v) = m_bA σ := rfl
theorem mn_bB_pt (σ : MS) (v : Int32) : m_bB (n_pt σ v) = m_bB σ := rfl
theorem mn_bB_dg (σ : MS) (v : Int32) : m_bB (n_dg σ v) = m_bB σ := rfl
theorem mn_bB_bA (σ : MS) (v : Int32) : m_bB (n_bA σ v) = m_bB σ := rfl
theorem mn_bB_bB (σ : MS) (v : Int32) : m_bB (n_bB σ v) = v := rfl
theorem mn_bB_px (σ : MS) (v : Nat → Int32) : m_bB (n_px σ v) = m_bB σ := rfl
theorem mn_bB_py (σ : MS) (v : Nat → Int32) : m_bB (n_py σ v) = m_bB σ := rfl
theorem mn_bB_lb (σ : MS) (v : Nat → Int32) : m_bB (n_lb σ v) = m_bB σ := rfl
theorem mn_bB_bg (σ : MS) (v : Int32) : m_bB (n_bg σ v) = m_bB σ := rfl
theorem mn_bB_dn (σ : MS) (v : Int32) : m_bB (n_dn σ v) = m_bB σ := rfl
theorem mn_bB_ry (σ : MS) (v : Int32) : m_bB (n_ry σ v) = m_bB σ := rfl
theorem mn_bB_rw (σ : MS) (v : Int32) : m_bB (n_rw σ v) = m_bB σ := rfl
theorem mn_bB_tb (σ : MS) (v : Nat → Int64) : m_bB (n_tb σ v) = m_bB σ := rfl
theorem mn_bB_bl (σ : MS) (v : Int64) : m_bB (n_bl σ v) = m_bB σ := rfl
theorem mn_bB_tl (σ : MS) (v : Nat → Int32) : m_bB (n_tl σ v) = m_bB σ := rfl
theorem mn_bB_st (σ : MS) (v : Int32) : m_bB (n_st σ v) = m_bB σ := rfl
theorem mn_bB_en (σ : MS) (v : Nat → Int32) : m_bB (n_en σ v) = m_bB σ := rfl
theorem mn_bB_lf (σ : MS) (v : Nat → Int32) : m_bB (n_lf σ v) = m_bB σ := rfl
theorem mn_bB_la (σ : MS) (v : Nat → Int32) : m_bB (n_la σ v) = m_bB σ := rfl
theorem mn_bB_hi (σ : MS) (v : Int64) : m_bB (n_hi σ v) = m_bB σ := rfl
theorem mn_bB_lo (σ : MS) (v : Int64) : m_bB (n_lo σ v) = m_bB σ := rfl
theorem mn_px_pt (σ : MS) (v : Int32) : m_px (n_pt σ v) = m_px σ := rfl
theorem mn_px_dg (σ : MS) (v : Int32) : m_px (n_dg σ v) = m_px σ := rfl
theorem mn_px_bA (σ : MS) (v : Int32) : m_px (n_bA σ v) = m_px σ := rfl
theorem mn_px_bB (σ : MS) (v : Int32) : m_px (n_bB σ v) = m_px σ := rfl
theorem mn_px_px (σ : MS) (v : Nat → Int32) : m_px (n_px σ v) = v := rfl
theorem mn_px_py (σ : MS) (v : Nat → Int32) : m_px (n_py σ v) = m_px σ := rfl
theorem mn_px_lb (σ : MS) (v : Nat → Int32) : m_px (n_lb σ v) = m_px σ := rfl
theorem mn_px_bg (σ : MS) (v : Int32) : m_px (n_bg σ v) = m_px σ := rfl
theorem mn_px_dn (σ : MS) (v : Int32) : m_px (n_dn σ v) = m_px σ := rfl
theorem mn_px_ry (σ : MS) (v : Int32) : m_px (n_ry σ v) = m_px σ := rfl
theorem mn_px_rw (σ : MS) (v : Int32) : m_px (n_rw σ v) = m_px σ := rfl
theorem mn_px_tb (σ : MS) (v : Nat → Int64) : m_px (n_tb σ v) = m_px σ := rfl
theorem mn_px_bl (σ : MS) (v : Int64) : m_px (n_bl σ v) = m_px σ := rfl
theorem mn_px_tl (σ : MS) (v : Nat → Int32) : m_px (n_tl σ v) = m_px σ := rfl
theorem mn_px_st (σ : MS) (v : Int32) : m_px (n_st σ v) = m_px σ := rfl
theorem mn_px_en (σ : MS) (v : Nat → Int32) : m_px (n_en σ v) = m_px σ := rfl
theorem mn_px_lf (σ : MS) (v : Nat → Int32) : m_px (n_lf σ v) = m_px σ := rfl
theorem mn_px_la (σ : MS) (v : Nat → Int32) : m_px (n_la σ v) = m_px σ := rfl
theorem mn_px_hi (σ : MS) (v : Int64) : m_px (n_hi σ v) = m_px σ := rfl
theorem mn_px_lo (σ : MS) (v : Int64) : m_px (n_lo σ v) = m_px σ := rfl
theorem mn_py_pt (σ : MS) (v : Int32) : m_py (n_pt σ v) = m_py σ := rfl
theorem mn_py_dg (σ : MS) (v : Int32) : m_py (n_dg σ v) = m_py σ := rfl
theorem mn_py_bA (σ : MS) (v : Int32) : m_py (n_bA σ v) = m_py σ := rfl
theorem mn_py_bB (σ : MS) (v : Int32) : m_py (n_bB σ v) = m_py σ := rfl
theorem mn_py_px (σ : MS) (v : Nat → Int32) : m_py (n_px σ v) = m_py σ := rfl
theorem mn_py_py (σ : MS) (v : Nat → Int32) : m_py (n_py σ v) = v := rfl
theorem mn_py_lb (σ : MS) (v : Nat → Int32) : m_py (n_lb σ v) = m_py σ := rfl
theorem mn_py_bg (σ : MS) (v : Int32) : m_py (n_bg σ v) = m_py σ := rfl
theorem mn_py_dn (σ : MS) (v : Int32) : m_py (n_dn σ v) = m_py σ := rfl
theorem mn_py_ry (σ : MS) (v : Int32) : m_py (n_ry σ v) = m_py σ := rfl
theorem mn_py_rw (σ : MS) (v : Int32) : m_py (n_rw σ v) = m_py σ := rfl
theorem mn_py_tb (σ : MS) (v : Nat → Int64) : m_py (n_tb σ v) = m_py σ := rfl
theorem mn_py_bl (σ : MS) (v : Int64) : m_py (n_bl σ v) = m_py σ := rfl
theorem mn_py_tl (σ : MS) (v : Nat → Int32) : m_py (n_tl σ v) = m_py σ := rfl
theorem mn_py_st (σ : MS) (v : Int32) : m_py (n_st σ v) = m_py σ := rfl
theorem mn_py_en (σ : MS) (v : Nat → Int32) : m_py (n_en σ v) = m_py σ := rfl
theorem mn_py_lf (σ : MS) (v : Nat → Int32) : m_py (n_lf σ v) = m_py σ := rfl
theorem mn_py_la (σ : MS) (v : Nat → Int32) : m_py (n_la σ v) = m_py σ := rfl
theorem mn_py_hi (σ : MS) (v : Int64) : m_py (n_hi σ v) = m_py σ := rfl
theorem mn_py_lo (σ : MS) (v : Int64) : m_py (n_lo σ v) = m_py σ := rfl
theorem mn_lb_pt (σ : MS) (v : Int32) : m_lb (n_pt σ v) = m_lb σ := rfl
theorem mn_lb_dg (σ : MS) (v : Int32) : m_lb (n_dg σ v) = m_lb σ := rfl
theorem mn_lb_bA (σ : MS) (v : Int32) : m_lb (n_bA σ v) = m_lb σ := rfl
theorem mn_lb_bB (σ : MS) (v : Int32) : m_lb (n_bB σ v) = m_lb σ := rfl
theorem mn_lb_px (σ : MS) (v : Nat → Int32) : m_lb (n_px σ v) = m_lb σ := rfl
theorem mn_lb_py (σ : MS) (v : Nat → Int32) : m_lb (n_py σ v) = m_lb σ := rfl
theorem mn_lb_lb (σ : MS) (v : Nat → Int32) : m_lb (n_lb σ v) = v := rfl
theorem mn_lb_bg (σ : MS) (v : Int32) : m_lb (n_bg σ v) = m_lb σ := rfl
theorem mn_lb_dn (σ : MS) (v : Int32) : m_lb (n_dn σ v) = m_lb σ := rfl
theorem mn_lb_ry (σ : MS) (v : Int32) : m_lb (n_ry σ v) = m_lb σ := rfl
theorem mn_lb_rw (σ : MS) (v : Int32) : m_lb (n_rw σ v) = m_lb σ := rfl
theorem mn_lb_tb (σ : MS) (v : Nat → Int64) : m_lb (n_tb σ v) = m_lb σ := rfl
theorem mn_lb_bl (σ : MS) (v : Int64) : m_lb (n_bl σ v) = m_lb σ := rfl
theorem mn_lb_tl (σ : MS) (v : Nat → Int32) : m_lb (n_tl σ v) = m_lb σ := rfl
theorem mn_lb_st (σ : MS) (v : Int32) : m_lb (n_st σ v) = m_lb σ := rfl
theorem mn_lb_en (σ : MS) (v : Nat → Int32) : m_lb (n_en σ v) = m_lb σ := rfl
theorem mn_lb_lf (σ : MS) (v : Nat → Int32) : m_lb (n_lf σ v) = m_lb σ := rfl
theorem mn_lb_la (σ : MS) (v : Nat → Int32) : m_lb (n_la σ v) = m_lb σ := rfl
theorem mn_lb_hi (σ : MS) (v : Int64) : m_lb (n_hi σ v) = m_lb σ := rfl
theorem mn_lb_lo (σ : MS) (v : Int64) : m_lb (n_lo σ v) = m_lb σ := rfl
theorem mn_bg_pt (σ : MS) (v : Int32) : m_bg (n_pt σ v) = m_bg σ := rfl
theorem mn_bg_dg (σ : MS) (v : Int32) : m_bg (n_dg σ v) = m_bg σ := rfl
theorem mn_bg_bA (σ : MS) (v : Int32) : m_bg (n_bA σ v) = m_bg σ := rfl
theorem mn_bg_bB (σ : MS) (v : Int32) : m_bg (n_bB σ v) = m_bg σ := rfl
theorem mn_bg_px (σ : MS) (v : Nat → Int32) : m_bg (n_px σ v) = m_bg σ := rfl
theorem mn_bg_py (σ : MS) (v : Nat → Int32) : m_bg (n_py σ v) = m_bg σ := rfl
theorem mn_bg_lb (σ : MS) (v : Nat → Int32) : m_bg (n_lb σ v) = m_bg σ := rfl
theorem mn_bg_bg (σ : MS) (v : Int32) : m_bg (n_bg σ v) = v := rfl
theorem mn_bg_dn (σ : MS) (v : Int32) : m_bg (n_dn σ v) = m_bg σ := rfl
theorem mn_bg_ry (σ : MS) (v : Int32) : m_bg (n_ry σ v) = m_bg σ := rfl
theorem mn_bg_rw (σ : MS) (v : Int32) : m_bg (n_rw σ v) = m_bg σ := rfl
theorem mn_bg_tb (σ : MS) (v : Nat → Int64) : m_bg (n_tb σ v) = m_bg σ := rfl
theorem mn_bg_bl (σ : MS) (v : Int64) : m_bg (n_bl σ v) = m_bg σ := rfl
theorem mn_bg_tl (σ : MS) (v : Nat → Int32) : m_bg (n_tl σ v) = m_bg σ := rfl
theorem mn_bg_st (σ : MS) (v : Int32) : m_bg (n_st σ v) = m_bg σ := rfl
theorem mn_bg_en (σ : MS) (v : Nat → Int32) : m_bg (n_en σ v) = m_bg σ := rfl
theorem mn_bg_lf (σ : MS) (v : Nat → Int32) : m_bg (n_lf σ v) = m_bg σ := rfl
theorem mn_bg_la (σ : MS) (v : Nat → Int32) : m_bg (n_la σ v) = m_bg σ := rfl
theorem mn_bg_hi (σ : MS) (v : Int64) : m_bg (n_hi σ v) = m_bg σ := rfl
theorem mn_bg_lo (σ : MS) (v : Int64) : m_bg (n_lo σ v) = m_bg σ := rfl
theorem mn_dn_pt (σ : MS) (v : Int32) : m_dn (n_pt σ v) = m_dn σ := rfl
theorem mn_dn_dg (σ : MS) (v : Int32) : m_dn (n_dg σ v) = m_dn σ := rfl
theorem mn_dn_bA (σ : MS) (v : Int32) : m_dn (n_bA σ v) = m_dn σ := rfl
theorem mn_dn_bB (σ : MS) (v : Int32) : m_dn (n_bB σ v) = m_dn σ := rfl
theorem mn_dn_px (σ : MS) (v : Nat → Int32) : m_dn (n_px σ v) = m_dn σ := rfl
theorem mn_dn_py (σ : MS) (v : Nat → Int32) : m_dn (n_py σ v) = m_dn σ := rfl
theorem mn_dn_lb (σ : MS) (v : Nat → Int32) : m_dn (n_lb σ v) = m_dn σ := rfl
theorem mn_dn_bg (σ : MS) (v : Int32) : m_dn (n_bg σ v) = m_dn σ := rfl
theorem mn_dn_dn (σ : MS) (v : Int32) : m_dn (n_dn σ v) = v := rfl
theorem mn_dn_ry (σ : MS) (v : Int32) : m_dn (n_ry σ v) = m_dn σ := rfl
theorem mn_dn_rw (σ : MS) (v : Int32) : m_dn (n_rw σ v) = m_dn σ := rfl
theorem mn_dn_tb (σ : MS) (v : Nat → Int64) : m_dn (n_tb σ v) = m_dn σ := rfl
theorem mn_dn_bl (σ : MS) (v : Int64) : m_dn (n_bl σ v) = m_dn σ := rfl
theorem mn_dn_tl (σ : MS) (v : Nat → Int32) : m_dn (n_tl σ v) = m_dn σ := rfl
theorem mn_dn_st (σ : MS) (v : Int32) : m_dn (n_st σ v) = m_dn σ := rfl
theorem mn_dn_en (σ : MS) (v : Nat → Int32) : m_dn (n_en σ v) = m_dn σ := rfl
theorem mn_dn_lf (σ : MS) (v : Nat → Int32) : m_dn (n_lf σ v) = m_dn σ := rfl
theorem mn_dn_la (σ : MS) (v : Nat → Int32) : m_dn (n_la σ v) = m_dn σ := rfl
theorem mn_dn_hi (σ : MS) (v : Int64) : m_dn (n_hi σ v) = m_dn σ := rfl
theorem mn_dn_lo (σ : MS) (v : Int64) : m_dn (n_lo σ v) = m_dn σ := rfl
theorem mn_ry_pt (σ : MS) (v : Int32) : m_ry (n_pt σ v) = m_ry σ := rfl
theorem mn_ry_dg (σ : MS) (v : Int32) : m_ry (n_dg σ v) = m_ry σ := rfl
theorem mn_ry_bA (σ : MS) (v : Int32) : m_ry (n_bA σ v) = m_ry σ := rfl
theorem mn_ry_bB (σ : MS) (v : Int32) : m_ry (n_bB σ v) = m_ry σ := rfl
theorem mn_ry_px (σ : MS) (v : Nat → Int32) : m_ry (n_px σ v) = m_ry σ := rfl
theorem mn_ry_py (σ : MS) (v : Nat → Int32) : m_ry (n_py σ v) = m_ry σ := rfl
theorem mn_ry_lb (σ : MS) (v : Nat → Int32) : m_ry (n_lb σ v) = m_ry σ := rfl
theorem mn_ry_bg (σ : MS) (v : Int32) : m_ry (n_bg σ v) = m_ry σ := rfl
theorem mn_ry_dn (σ : MS) (v : Int32) : m_ry (n_dn σ v) = m_ry σ := rfl
theorem mn_ry_ry (σ : MS) (v : Int32) : m_ry (n_ry σ v) = v := rfl
theorem mn_ry_rw (σ : MS) (v : Int32) : m_ry (n_rw σ v) = m_ry σ := rfl
theorem mn_ry_tb (σ : MS) (v : Nat → Int64) : m_ry (n_tb σ v) = m_ry σ := rfl
theorem mn_ry_bl (σ : MS) (v : Int64) : m_ry (n_bl σ v) = m_ry σ := rfl
theorem mn_ry_tl (σ : MS) (v : Nat → Int32) : m_ry (n_tl σ v) = m_ry σ := rfl
theorem mn_ry_st (σ : MS) (v : Int32) : m_ry (n_st σ v) = m_ry σ := rfl
theorem mn_ry_en (σ : MS) (v : Nat → Int32) : m_ry (n_en σ v) = m_ry σ := rfl
theorem mn_ry_lf (σ : MS) (v : Nat → Int32) : m_ry (n_lf σ v) = m_ry σ := rfl
theorem mn_ry_la (σ : MS) (v : Nat → Int32) : m_ry (n_la σ v) = m_ry σ := rfl
theorem mn_ry_hi (σ : MS) (v : Int64) : m_ry (n_hi σ v) = m_ry σ := rfl
theorem mn_ry_lo (σ : MS) (v : Int64) : m_ry (n_lo σ v) = m_ry σ := rfl
theorem mn_rw_pt (σ : MS) (v : Int32) : m_rw (n_pt σ v) = m_rw σ := rfl
theorem mn_rw_dg (σ : MS) (v : Int32) : m_rw (n_dg σ v) = m_rw σ := rfl
theorem mn_rw_bA (σ : MS) (v : Int32) : m_rw (n_bA σ v) = m_rw σ := rfl
theorem mn_rw_bB (σ : MS) (v : Int32) : m_rw (n_bB σ v) = m_rw σ := rfl
theorem mn_rw_px (σ : MS) (v : Nat → Int32) : m_rw (n_px σ v) = m_rw σ := rfl
theorem mn_rw_py (σ : MS) (v : Nat → Int32) : m_rw (n_py σ v) = m_rw σ := rfl
theorem mn_rw_lb (σ : MS) (v : Nat → Int32) : m_rw (n_lb σ v) = m_rw σ := rfl
theorem mn_rw_bg (σ : MS) (v : Int32) : m_rw (n_bg σ v) = m_rw σ := rfl
theorem mn_rw_dn (σ : MS) (v : Int32) : m_rw (n_dn σ v) = m_rw σ := rfl
theorem mn_rw_ry (σ : MS) (v : Int32) : m_rw (n_ry σ v) = m_rw σ := rfl
theorem mn_rw_rw (σ : MS) (v : Int32) : m_rw (n_rw σ v) = v := rfl
theorem mn_rw_tb (σ : MS) (v : Nat → Int64) : m_rw (n_tb σ v) = m_rw σ := rfl
theorem mn_rw_bl (σ : MS) (v : Int64) : m_rw (n_bl σ v) = m_rw σ := rfl
theorem mn_rw_tl (σ : MS) (v : Nat → Int32) : m_rw (n_tl σ v) = m_rw σ := rfl
theorem mn_rw_st (σ : MS) (v : Int32) : m_rw (n_st σ v) = m_rw σ := rfl
theorem mn_rw_en (σ : MS) (v : Nat → Int32) : m_rw (n_en σ v) = m_rw σ := rfl
theorem mn_rw_lf (σ : MS) (v : Nat → Int32) : m_rw (n_lf σ v) = m_rw σ := rfl
theorem mn_rw_la (σ : MS) (v : Nat → Int32) : m_rw (n_la σ v) = m_rw σ := rfl
theorem mn_rw_hi (σ : MS) (v : Int64) : m_rw (n_hi σ v) = m_rw σ := rfl
theorem mn_rw_lo (σ : MS) (v : Int64) : m_rw (n_lo σ v) = m_rw σ := rfl
theorem mn_tb_pt (σ : MS) (v : Int32) : m_tb (n_pt σ v) = m_tb σ := rfl
theorem mn_tb_dg (σ : MS) (v : Int32) : m_tb (n_dg σ v) = m_tb σ := rfl
theorem mn_tb_bA (σ : MS) (v : Int32) : m_tb (n_bA σ v) = m_tb σ := rfl
theorem mn_tb_bB (σ : MS) (v : Int32) : m_tb (n_bB σ v) = m_tb σ := rfl
theorem mn_tb_px (σ : MS) (v : Nat → Int32) : m_tb (n_px σ v) = m_tb σ := rfl
theorem mn_tb_py (σ : MS) (v : Nat → Int32) : m_tb (n_py σ v) = m_tb σ := rfl
theorem mn_tb_lb (σ : MS) (v : Nat → Int32) : m_tb (n_lb σ v) = m_tb σ := rfl
theorem mn_tb_bg (σ : MS) (v : Int32) : m_tb (n_bg σ v) = m_tb σ := rfl
theorem mn_tb_dn (σ : MS) (v : Int32) : m_tb (n_dn σ v) = m_tb σ := rfl
theorem mn_tb_ry (σ : MS) (v : Int32) : m_tb (n_ry σ v) = m_tb σ := rfl
theorem mn_tb_rw (σ : MS) (v : Int32) : m_tb (n_rw σ v) = m_tb σ := rfl
theorem mn_tb_tb (σ : MS) (v : Nat → Int64) : m_tb (n_tb σ v) = v := rfl
theorem mn_tb_bl (σ : MS) (v : Int64) : m_tb (n_bl σ v) = m_tb σ := rfl
theorem mn_tb_tl (σ : MS) (v : Nat → Int32) : m_tb (n_tl σ v) = m_tb σ := rfl
theorem mn_tb_st (σ : MS) (v : Int32) : m_tb (n_st σ v) = m_tb σ := rfl
theorem mn_tb_en (σ : MS) (v : Nat → Int32) : m_tb (n_en σ v) = m_tb σ := rfl
theorem mn_tb_lf (σ : MS) (v : Nat → Int32) : m_tb (n_lf σ v) = m_tb σ := rfl
theorem mn_tb_la (σ : MS) (v : Nat → Int32) : m_tb (n_la σ v) = m_tb σ := rfl
theorem mn_tb_hi (σ : MS) (v : Int64) : m_tb (n_hi σ v) = m_tb σ := rfl
theorem mn_tb_lo (σ : MS) (v : Int64) : m_tb (n_lo σ v) = m_tb σ := rfl
theorem mn_bl_pt (σ : MS) (v : Int32) : m_bl (n_pt σ v) = m_bl σ := rfl
theorem mn_bl_dg (σ : MS) (v : Int32) : m_bl (n_dg σ v) = m_bl σ := rfl
theorem mn_bl_bA (σ : MS) (v : Int32) : m_bl (n_bA σ v) = m_bl σ := rfl
theorem mn_bl_bB (σ : MS) (v : Int32) : m_bl (n_bB σ v) = m_bl σ := rfl
theorem mn_bl_px (σ : MS) (v : Nat → Int32) : m_bl (n_px σ v) = m_bl σ := rfl
theorem mn_bl_py (σ : MS) (v : Nat → Int32) : m_bl (n_py σ v) = m_bl σ := rfl
theorem mn_bl_lb (σ : MS) (v : Nat → Int32) : m_bl (n_lb σ v) = m_bl σ := rfl
theorem mn_bl_bg (σ : MS) (v : Int32) : m_bl (n_bg σ v) = m_bl σ := rfl
theorem mn_bl_dn (σ : MS) (v : Int32) : m_bl (n_dn σ v) = m_bl σ := rfl
theorem mn_bl_ry (σ : MS) (v : Int32) : m_bl (n_ry σ v) = m_bl σ := rfl
theorem mn_bl_rw (σ : MS) (v : Int32) : m_bl (n_rw σ v) = m_bl σ := rfl
theorem mn_bl_tb (σ : MS) (v : Nat → Int64) : m_bl (n_tb σ v) = m_bl σ := rfl
theorem mn_bl_bl (σ : MS) (v : Int64) : m_bl (n_bl σ v) = v := rfl
theorem mn_bl_tl (σ : MS) (v : Nat → Int32) : m_bl (n_tl σ v) = m_bl σ := rfl
theorem mn_bl_st (σ : MS) (v : Int32) : m_bl (n_st σ v) = m_bl σ := rfl
theorem mn_bl_en (σ : MS) (v : Nat → Int32) : m_bl (n_en σ v) = m_bl σ := rfl
theorem mn_bl_lf (σ : MS) (v : Nat → Int32) : m_bl (n_lf σ v) = m_bl σ := rfl
theorem mn_bl_la (σ : MS) (v : Nat → Int32) : m_bl (n_la σ v) = m_bl σ := rfl
theorem mn_bl_hi (σ : MS) (v : Int64) : m_bl (n_hi σ v) = m_bl σ := rfl
theorem mn_bl_lo (σ : MS) (v : Int64) : m_bl (n_lo σ v) = m_bl σ := rfl
theorem mn_tl_pt (σ : MS) (v : Int32) : m_tl (n_pt σ v) = m_tl σ := rfl
theorem mn_tl_dg (σ : MS) (v : Int32) : m_tl (n_dg σ v) = m_tl σ := rfl
theorem mn_tl_bA (σ : MS) (v : Int32) : m_tl (n_bA σ v) = m_tl σ := rfl
theorem mn_tl_bB (σ : MS) (v : Int32) : m_tl (n_bB σ v) = m_tl σ := rfl
theorem mn_tl_px (σ : MS) (v : Nat → Int32) : m_tl (n_px σ v) = m_tl σ := rfl
theorem mn_tl_py (σ : MS) (v : Nat → Int32) : m_tl (n_py σ v) = m_tl σ := rfl
theorem mn_tl_lb (σ : MS) (v : Nat → Int32) : m_tl (n_lb σ v) = m_tl σ := rfl
theorem mn_tl_bg (σ : MS) (v : Int32) : m_tl (n_bg σ v) = m_tl σ := rfl
theorem mn_tl_dn (σ : MS) (v : Int32) : m_tl (n_dn σ v) = m_tl σ := rfl
theorem mn_tl_ry (σ : MS) (v : Int32) : m_tl (n_ry σ v) = m_tl σ := rfl
theorem mn_tl_rw (σ : MS) (v : Int32) : m_tl (n_rw σ v) = m_tl σ := rfl
theorem mn_tl_tb (σ : MS) (v : Nat → Int64) : m_tl (n_tb σ v) = m_tl σ := rfl
theorem mn_tl_bl (σ : MS) (v : Int64) : m_tl (n_bl σ v) = m_tl σ := rfl
theorem mn_tl_tl (σ : MS) (v : Nat → Int32) : m_tl (n_tl σ v) = v := rfl
theorem mn_tl_st (σ : MS) (v : Int32) : m_tl (n_st σ v) = m_tl σ := rfl
theorem mn_tl_en (σ : MS) (v : Nat → Int32) : m_tl (n_en σ v) = m_tl σ := rfl
theorem mn_tl_lf (σ : MS) (v : Nat → Int32) : m_tl (n_lf σ v) = m_tl σ := rfl
theorem mn_tl_la (σ : MS) (v : Nat → Int32) : m_tl (n_la σ v) = m_tl σ := rfl
theorem mn_tl_hi (σ : MS) (v : Int64) : m_tl (n_hi σ v) = m_tl σ := rfl
theorem mn_tl_lo (σ : MS) (v : Int64) : m_tl (n_lo σ v) = m_tl σ := rfl
theorem mn_st_pt (σ : MS) (v : Int32) : m_st (n_pt σ v) = m_st σ := rfl
theorem mn_st_dg (σ : MS) (v : Int32) : m_st (n_dg σ v) = m_st σ := rfl
theorem mn_st_bA (σ : MS) (v : Int32) : m_st (n_bA σ v) = m_st σ := rfl
theorem mn_st_bB (σ : MS) (v : Int32) : m_st (n_bB σ v) = m_st σ := rfl
theorem mn_st_px (σ : MS) (v : Nat → Int32) : m_st (n_px σ v) = m_st σ := rfl
theorem mn_st_py (σ : MS) (v : Nat → Int32) : m_st (n_py σ v) = m_st σ := rfl
theorem mn_st_lb (σ : MS) (v : Nat → Int32) : m_st (n_lb σ v) = m_st σ := rfl
theorem mn_st_bg (σ : MS) (v : Int32) : m_st (n_bg σ v) = m_st σ := rfl
theorem mn_st_dn (σ : MS) (v : Int32) : m_st (n_dn σ v) = m_st σ := rfl
theorem mn_st_ry (σ : MS) (v : Int32) : m_st (n_ry σ v) = m_st σ := rfl
theorem mn_st_rw (σ : MS) (v : Int32) : m_st (n_rw σ v) = m_st σ := rfl
theorem mn_st_tb (σ : MS) (v : Nat → Int64) : m_st (n_tb σ v) = m_st σ := rfl
theorem mn_st_bl (σ : MS) (v : Int64) : m_st (n_bl σ v) = m_st σ := rfl
theorem mn_st_tl (σ : MS) (v : Nat → Int32) : m_st (n_tl σ v) = m_st σ := rfl
theorem mn_st_st (σ : MS) (v : Int32) : m_st (n_st σ v) = v := rfl
theorem mn_st_en (σ : MS) (v : Nat → Int32) : m_st (n_en σ v) = m_st σ := rfl
theorem mn_st_lf (σ : MS) (v : Nat → Int32) : m_st (n_lf σ v) = m_st σ := rfl
theorem mn_st_la (σ : MS) (v : Nat → Int32) : m_st (n_la σ v) = m_st σ := rfl
theorem mn_st_hi (σ : MS) (v : Int64) : m_st (n_hi σ v) = m_st σ := rfl
theorem mn_st_lo (σ : MS) (v : Int64) : m_st (n_lo σ v) = m_st σ := rfl
theorem mn_en_pt (σ : MS) (v : Int32) : m_en (n_pt σ v) = m_en σ := rfl
theorem mn_en_dg (σ : MS) (v : Int32) : m_en (n_dg σ v) = m_en σ := rfl
theorem mn_en_bA (σ : MS) (v : Int32) : m_en (n_bA σ v) = m_en σ := rfl
theorem mn_en_bB (σ : MS) (v : Int32) : m_en (n_bB σ v) = m_en σ := rfl
theorem mn_en_px (σ : MS) (v : Nat → Int32) : m_en (n_px σ v) = m_en σ := rfl
theorem mn_en_py (σ : MS) (v : Nat → Int32) : m_en (n_py σ v) = m_en σ := rfl
theorem mn_en_lb (σ : MS) (v : Nat → Int32) : m_en (n_lb σ v) = m_en σ := rfl
theorem mn_en_bg (σ : MS) (v : Int32) : m_en (n_bg σ v) = m_en σ := rfl
theorem mn_en_dn (σ : MS) (v : Int32) : m_en (n_dn σ v) = m_en σ := rfl
theorem mn_en_ry (σ : MS) (v : Int32) : m_en (n_ry σ v) = m_en σ := rfl
theorem mn_en_rw (σ : MS) (v : Int32) : m_en (n_rw σ v) = m_en σ := rfl
theorem mn_en_tb (σ : MS) (v : Nat → Int64) : m_en (n_tb σ v) = m_en σ := rfl
theorem mn_en_bl (σ : MS) (v : Int64) : m_en (n_bl σ v) = m_en σ := rfl
theorem mn_en_tl (σ : MS) (v : Nat → Int32) : m_en (n_tl σ v) = m_en σ := rfl
theorem mn_en_st (σ : MS) (v : Int32) : m_en (n_st σ v) = m_en σ := rfl
theorem mn_en_en (σ : MS) (v : Nat → Int32) : m_en (n_en σ v) = v := rfl
theorem mn_en_lf (σ : MS) (v : Nat → Int32) : m_en (n_lf σ v) = m_en σ := rfl
theorem mn_en_la (σ : MS) (v : Nat → Int32) : m_en (n_la σ v) = m_en σ := rfl
theorem mn_en_hi (σ : MS) (v : Int64) : m_en (n_hi σ v) = m_en σ := rfl
theorem mn_en_lo (σ : MS) (v : Int64) : m_en (n_lo σ v) = m_en σ := rfl
theorem mn_lf_pt (σ : MS) (v : Int32) : m_lf (n_pt σ v) = m_lf σ := rfl
theorem mn_lf_dg (σ : MS) (v : Int32) : m_lf (n_dg σ v) = m_lf σ := rfl
theorem mn_lf_bA (σ : MS) (v : Int32) : m_lf (n_bA σ v) = m_lf σ := rfl
theorem mn_lf_bB (σ : MS) (v : Int32) : m_lf (n_bB σ v) = m_lf σ := rfl
theorem mn_lf_px (σ : MS) (v : Nat → Int32) : m_lf (n_px σ v) = m_lf σ := rfl
theorem mn_lf_py (σ : MS) (v : Nat → Int32) : m_lf (n_py σ v) = m_lf σ := rfl
theorem mn_lf_lb (σ : MS) (v : Nat → Int32) : m_lf (n_lb σ v) = m_lf σ := rfl
theorem mn_lf_bg (σ : MS) (v : Int32) : m_lf (n_bg σ v) = m_lf σ := rfl
theorem mn_lf_dn (σ : MS) (v : Int32) : m_lf (n_dn σ v) = m_lf σ := rfl
theorem mn_lf_ry (σ : MS) (v : Int32) : m_lf (n_ry σ v) = m_lf σ := rfl
theorem mn_lf_rw (σ : MS) (v : Int32) : m_lf (n_rw σ v) = m_lf σ := rfl
theorem mn_lf_tb (σ : MS) (v : Nat → Int64) : m_lf (n_tb σ v) = m_lf σ := rfl
theorem mn_lf_bl (σ : MS) (v : Int64) : m_lf (n_bl σ v) = m_lf σ := rfl
theorem mn_lf_tl (σ : MS) (v : Nat → Int32) : m_lf (n_tl σ v) = m_lf σ := rfl
theorem mn_lf_st (σ : MS) (v : Int32) : m_lf (n_st σ v) = m_lf σ := rfl
theorem mn_lf_en (σ : MS) (v : Nat → Int32) : m_lf (n_en σ v) = m_lf σ := rfl
theorem mn_lf_lf (σ : MS) (v : Nat → Int32) : m_lf (n_lf σ v) = v := rfl
theorem mn_lf_la (σ : MS) (v : Nat → Int32) : m_lf (n_la σ v) = m_lf σ := rfl
theorem mn_lf_hi (σ : MS) (v : Int64) : m_lf (n_hi σ v) = m_lf σ := rfl
theorem mn_lf_lo (σ : MS) (v : Int64) : m_lf (n_lo σ v) = m_lf σ := rfl
theorem mn_la_pt (σ : MS) (v : Int32) : m_la (n_pt σ v) = m_la σ := rfl
theorem mn_la_dg (σ : MS) (v : Int32) : m_la (n_dg σ v) = m_la σ := rfl
theorem mn_la_bA (σ : MS) (v : Int32) : m_la (n_bA σ v) = m_la σ := rfl
theorem mn_la_bB (σ : MS) (v : Int32) : m_la (n_bB σ v) = m_la σ := rfl
theorem mn_la_px (σ : MS) (v : Nat → Int32) : m_la (n_px σ v) = m_la σ := rfl
theorem mn_la_py (σ : MS) (v : Nat → Int32) : m_la (n_py σ v) = m_la σ := rfl
theorem mn_la_lb (σ : MS) (v : Nat → Int32) : m_la (n_lb σ v) = m_la σ := rfl
theorem mn_la_bg (σ : MS) (v : Int32) : m_la (n_bg σ v) = m_la σ := rfl
theorem mn_la_dn (σ : MS) (v : Int32) : m_la (n_dn σ v) = m_la σ := rfl
theorem mn_la_ry (σ : MS) (v : Int32) : m_la (n_ry σ v) = m_la σ := rfl
theorem mn_la_rw (σ : MS) (v : Int32) : m_la (n_rw σ v) = m_la σ := rfl
theorem mn_la_tb (σ : MS) (v : Nat → Int64) : m_la (n_tb σ v) = m_la σ := rfl
theorem mn_la_bl (σ : MS) (v : Int64) : m_la (n_bl σ v) = m_la σ := rfl
theorem mn_la_tl (σ : MS) (v : Nat → Int32) : m_la (n_tl σ v) = m_la σ := rfl
theorem mn_la_st (σ : MS) (v : Int32) : m_la (n_st σ v) = m_la σ := rfl
theorem mn_la_en (σ : MS) (v : Nat → Int32) : m_la (n_en σ v) = m_la σ := rfl
theorem mn_la_lf (σ : MS) (v : Nat → Int32) : m_la (n_lf σ v) = m_la σ := rfl
theorem mn_la_la (σ : MS) (v : Nat → Int32) : m_la (n_la σ v) = v := rfl
theorem mn_la_hi (σ : MS) (v : Int64) : m_la (n_hi σ v) = m_la σ := rfl
theorem mn_la_lo (σ : MS) (v : Int64) : m_la (n_lo σ v) = m_la σ := rfl
theorem mn_hi_pt (σ : MS) (v : Int32) : m_hi (n_pt σ v) = m_hi σ := rfl
theorem mn_hi_dg (σ : MS) (v : Int32) : m_hi (n_dg σ v) = m_hi σ := rfl
theorem mn_hi_bA (σ : MS) (v : Int32) : m_hi (n_bA σ v) = m_hi σ := rfl
theorem mn_hi_bB (σ : MS) (v : Int32) : m_hi (n_bB σ v) = m_hi σ := rfl
theorem mn_hi_px (σ : MS) (v : Nat → Int32) : m_hi (n_px σ v) = m_hi σ := rfl
theorem mn_hi_py (σ : MS) (v : Nat → Int32) : m_hi (n_py σ v) = m_hi σ := rfl
theorem mn_hi_lb (σ : MS) (v : Nat → Int32) : m_hi (n_lb σ v) = m_hi σ := rfl
theorem mn_hi_bg (σ : MS) (v : Int32) : m_hi (n_bg σ v) = m_hi σ := rfl
theorem mn_hi_dn (σ : MS) (v : Int32) : m_hi (n_dn σ v) = m_hi σ := rfl
theorem mn_hi_ry (σ : MS) (v : Int32) : m_hi (n_ry σ v) = m_hi σ := rfl
theorem mn_hi_rw (σ : MS) (v : Int32) : m_hi (n_rw σ v) = m_hi σ := rfl
theorem mn_hi_tb (σ : MS) (v : Nat → Int64) : m_hi (n_tb σ v) = m_hi σ := rfl
theorem mn_hi_bl (σ : MS) (v : Int64) : m_hi (n_bl σ v) = m_hi σ := rfl
theorem mn_hi_tl (σ : MS) (v : Nat → Int32) : m_hi (n_tl σ v) = m_hi σ := rfl
theorem mn_hi_st (σ : MS) (v : Int32) : m_hi (n_st σ v) = m_hi σ := rfl
theorem mn_hi_en (σ : MS) (v : Nat → Int32) : m_hi (n_en σ v) = m_hi σ := rfl
theorem mn_hi_lf (σ : MS) (v : Nat → Int32) : m_hi (n_lf σ v) = m_hi σ := rfl
theorem mn_hi_la (σ : MS) (v : Nat → Int32) : m_hi (n_la σ v) = m_hi σ := rfl
theorem mn_hi_hi (σ : MS) (v : Int64) : m_hi (n_hi σ v) = v := rfl
theorem mn_hi_lo (σ : MS) (v : Int64) : m_hi (n_lo σ v) = m_hi σ := rfl
theorem mn_lo_pt (σ : MS) (v : Int32) : m_lo (n_pt σ v) = m_lo σ := rfl
theorem mn_lo_dg (σ : MS) (v : Int32) : m_lo (n_dg σ v) = m_lo σ := rfl
theorem mn_lo_bA (σ : MS) (v : Int32) : m_lo (n_bA σ v) = m_lo σ := rfl
theorem mn_lo_bB (σ : MS) (v : Int32) : m_lo (n_bB σ v) = m_lo σ := rfl
theorem mn_lo_px (σ : MS) (v : Nat → Int32) : m_lo (n_px σ v) = m_lo σ := rfl
theorem mn_lo_py (σ : MS) (v : Nat → Int32) : m_lo (n_py σ v) = m_lo σ := rfl
theorem mn_lo_lb (σ : MS) (v : Nat → Int32) : m_lo (n_lb σ v) = m_lo σ := rfl
theorem mn_lo_bg (σ : MS) (v : Int32) : m_lo (n_bg σ v) = m_lo σ := rfl
theorem mn_lo_dn (σ : MS) (v : Int32) : m_lo (n_dn σ v) = m_lo σ := rfl
theorem mn_lo_ry (σ : MS) (v : Int32) : m_lo (n_ry σ v) = m_lo σ := rfl
theorem mn_lo_rw (σ : MS) (v : Int32) : m_lo (n_rw σ v) = m_lo σ := rfl
theorem mn_lo_tb (σ : MS) (v : Nat → Int64) : m_lo (n_tb σ v) = m_lo σ := rfl
theorem mn_lo_bl (σ : MS) (v : Int64) : m_lo (n_bl σ v) = m_lo σ := rfl
theorem mn_lo_tl (σ : MS) (v : Nat → Int32) : m_lo (n_tl σ v) = m_lo σ := rfl
theorem mn_lo_st (σ : MS) (v : Int32) : m_lo (n_st σ v) = m_lo σ := rfl
theorem mn_lo_en (σ : MS) (v : Nat → Int32) : m_lo (n_en σ v) = m_lo σ := rfl
theorem mn_lo_lf (σ : MS) (v : Nat → Int32) : m_lo (n_lf σ v) = m_lo σ := rfl
theorem mn_lo_la (σ : MS) (v : Nat → Int32) : m_lo (n_la σ v) = m_lo σ := rfl
theorem mn_lo_hi (σ : MS) (v : Int64) : m_lo (n_hi σ v) = m_lo σ := rfl
theorem mn_lo_lo (σ : MS) (v : Int64) : m_lo (n_lo σ v) = v := rfl
theorem nn_tb (σ : MS) (v w : Nat → Int64) : n_tb (n_tb σ v) w = n_tb σ w := match σ with
  | (_, _, _, _, _, _, _, _, _, _, _, _, _, _, _, _, _, _, _, _) => rfl
theorem nn_bl (σ : MS) (v w : Int64) : n_bl (n_bl σ v) w = n_bl σ w := match σ with
  | (_, _, _, _, _, _, _, _, _, _, _, _, _, _, _, _, _, _, _, _) => rfl
theorem lt_d {α β : Type} (x : α) (f : α → β) : lt_ x f = f x := (fun _ => rfl : Unit → lt_ x f = f x) ()
theorem bs_d {α β : Type} (x : α) (f : α → Option β) : (some x).bind f = f x := (fun _ => rfl : Unit → (some x).bind f = f x) ()
theorem inB_n {k n : Nat} (h : k < n) (hn : n < 2 ^ 31) : inB (nI k) n = true := by
  simp only [inB, Bool.not_eq_true', Bool.or_eq_false_iff, decide_eq_false_iff_not]
  exact ⟨nI_pos (by omega), by rw [nI_clamp (by omega)]; omega⟩
theorem gd_n {α : Type} {k n : Nat} (h : k < n) (hn : n < 2 ^ 31) (x : Option α) : gd (inB (nI k) n) x = x := gd_t x (inB_n h hn)
theorem nI_lit (n : Nat) : (OfNat.ofNat n : Int32) = nI n := rfl
theorem nI_2 (m : Nat) : (2 : Int32) * nI m = nI (2 * m) := pk_mul 2 m
theorem upG_s (G : Nat → Nat → Int64) (i j : Nat) (x : Int64) : upG G i j x i j = x := by simp [upG, va_up, vp_updL]
theorem upG_n (G : Nat → Nat → Int64) (i j : Nat) (x : Int64) {r c : Nat} (h : r ≠ i ∨ c ≠ j) : upG G i j x r c = G r c := by
  unfold upG va_up vp_updL
  by_cases e : r = i
  · subst e
    have : c ≠ j := by omega
    simp [this]
  · simp [e]
