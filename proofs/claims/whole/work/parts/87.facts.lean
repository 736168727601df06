/-! what the constructors and the law stand on: links, codes, classes; by program (wip/whole/gen/facts2.py) -/
theorem qb_wg_sub {ws : List Cond} (h : ws.isSublist lw_tbl = true) (hg : ws.all goodWord = true) : ∀ w ∈ ws, w ∈ qb_wg := fun w hw => List.mem_filter.mpr ⟨(List.isSublist_iff_sublist.mp h).subset hw, List.all_eq_true.mp hg w hw⟩
def q87_0 : List Cond := [Cond.initialized (qb_nm mX10_absolve).cls,
  Cond.initialized (qb_nm mX3_init).cls,
  Cond.initialized (qb_nm mX0_init).cls,
  Cond.initialized (qb_nm mX7_init).cls,
  Cond.initialized (qb_nm mX2_init).cls,
  Cond.initialized (qb_nm mX8_init).cls,
  Cond.initialized (qb_nm mX6_init).cls,
  Cond.initialized (qb_nm mX1_init).cls,
  Cond.initialized (qb_nm mX5_init).cls,
  Cond.initialized (qb_nm mX9_init).cls,
  Cond.initialized (qb_nm mX4_init).cls,
  Cond.initialized (qb_nm mX11_absolve).cls,
  Cond.classLink RL 7 RX10,
  Cond.instantiable RX10 13,
  Cond.methodLink (qb_nm mL_law).cls 9 (qb_nm mX10_init),
  Cond.instanceMethod (qb_nm mX10_init),
  Cond.code (qb_nm mX10_init) (qb_by mX10_init) (qb_ml mX10_init) (qb_rt mX10_init),
  Cond.methodLink RX10 1 Lib.objectInit,
  Cond.classLink RX10 7 RX3,
  Cond.instantiable RX3 2,
  Cond.methodLink (qb_nm mX10_init).cls 9 (qb_nm mX3_init),
  Cond.instanceMethod (qb_nm mX3_init),
  Cond.code (qb_nm mX3_init) (qb_by mX3_init) (qb_ml mX3_init) (qb_rt mX3_init),
  Cond.methodLink RX3 3 Lib.objectInit,
  Cond.classLink RX10 16 RX0,
  Cond.instantiable RX0 7,
  Cond.methodLink (qb_nm mX10_init).cls 18 (qb_nm mX0_init),
  Cond.instanceMethod (qb_nm mX0_init),
  Cond.code (qb_nm mX0_init) (qb_by mX0_init) (qb_ml mX0_init) (qb_rt mX0_init),
  Cond.methodLink RX0 3 Lib.objectInit,
  Cond.classLink RX10 27 RX7,
  Cond.instantiable RX7 14,
  Cond.methodLink (qb_nm mX10_init).cls 29 (qb_nm mX7_init),
  Cond.instanceMethod (qb_nm mX7_init),
  Cond.code (qb_nm mX7_init) (qb_by mX7_init) (qb_ml mX7_init) (qb_rt mX7_init),
  Cond.methodLink RX7 3 Lib.objectInit,
  Cond.classLink RX10 34 RX2,
  Cond.instantiable RX2 10,
  Cond.instanceMethod (qb_nm mX2_init),
  Cond.code (qb_nm mX2_init) (qb_by mX2_init) (qb_ml mX2_init) (qb_rt mX2_init),
  Cond.methodLink RX2 3 Lib.objectInit,
  Cond.classLink RX10 41 RX8,
  Cond.instantiable RX8 5,
  Cond.methodLink (qb_nm mX10_init).cls 43 (qb_nm mX8_init),
  Cond.instanceMethod (qb_nm mX8_init),
  Cond.code (qb_nm mX8_init) (qb_by mX8_init) (qb_ml mX8_init) (qb_rt mX8_init),
  Cond.methodLink RX8 3 Lib.objectInit,
  Cond.classLink RX10 51 RX6,
  Cond.instantiable RX6 6,
  Cond.methodLink (qb_nm mX10_init).cls 53 (qb_nm mX6_init),
  Cond.instanceMethod (qb_nm mX6_init),
  Cond.code (qb_nm mX6_init) (qb_by mX6_init) (qb_ml mX6_init) (qb_rt mX6_init),
  Cond.methodLink RX6 3 Lib.objectInit,
  Cond.classLink RX10 58 RX1,
  Cond.instantiable RX1 3,
  Cond.methodLink (qb_nm mX10_init).cls 60 (qb_nm mX1_init),
  Cond.instanceMethod (qb_nm mX1_init),
  Cond.code (qb_nm mX1_init) (qb_by mX1_init) (qb_ml mX1_init) (qb_rt mX1_init),
  Cond.methodLink RX1 3 Lib.objectInit,
  Cond.classLink RX10 65 RX5]
theorem q87_in0 : ∀ w ∈ q87_0, w ∈ qb_wg := qb_wg_sub (by decide +kernel) (by decide +kernel)
def q87_1 : List Cond := [Cond.instantiable RX5 5,
  Cond.methodLink (qb_nm mX10_init).cls 67 (qb_nm mX5_init),
  Cond.instanceMethod (qb_nm mX5_init),
  Cond.code (qb_nm mX5_init) (qb_by mX5_init) (qb_ml mX5_init) (qb_rt mX5_init),
  Cond.methodLink RX5 3 Lib.objectInit,
  Cond.classLink RX10 75 RX9,
  Cond.instantiable RX9 6,
  Cond.methodLink (qb_nm mX10_init).cls 77 (qb_nm mX9_init),
  Cond.instanceMethod (qb_nm mX9_init),
  Cond.code (qb_nm mX9_init) (qb_by mX9_init) (qb_ml mX9_init) (qb_rt mX9_init),
  Cond.methodLink RX9 3 Lib.objectInit,
  Cond.classLink RX10 82 RX4,
  Cond.instantiable RX4 5,
  Cond.methodLink (qb_nm mX10_init).cls 84 (qb_nm mX4_init),
  Cond.instanceMethod (qb_nm mX4_init),
  Cond.code (qb_nm mX4_init) (qb_by mX4_init) (qb_ml mX4_init) (qb_rt mX4_init),
  Cond.methodLink RX4 5 Lib.objectInit,
  Cond.fieldLink RX4 11 (TX4 0).1 (TX4 0).2.1 (TX4 0).2.2.1,
  Cond.methodLink (qb_nm mL_law).cls 13 (qb_nm mX10_say),
  Cond.instanceMethod (qb_nm mX10_say),
  Cond.selects (qb_nm mX10_say).cls (qb_nm mX10_say) (qb_nm mX10_say),
  Cond.code (qb_nm mX10_say) (qb_by mX10_say) (qb_ml mX10_say) (qb_rt mX10_say),
  Cond.methodLink (qb_nm mL_law).cls 18 (qb_nm mX10_wipe),
  Cond.instanceMethod (qb_nm mX10_wipe),
  Cond.selects (qb_nm mX10_wipe).cls (qb_nm mX10_wipe) (qb_nm mX10_wipe),
  Cond.code (qb_nm mX10_wipe) (qb_by mX10_wipe) (qb_ml mX10_wipe) (qb_rt mX10_wipe),
  Cond.methodLink (qb_nm mL_law).cls 23 (qb_nm mX10_fault),
  Cond.instanceMethod (qb_nm mX10_fault),
  Cond.selects (qb_nm mX10_fault).cls (qb_nm mX10_fault) (qb_nm mX10_fault),
  Cond.code (qb_nm mX10_fault) (qb_by mX10_fault) (qb_ml mX10_fault) (qb_rt mX10_fault),
  Cond.methodLink (qb_nm mL_law).cls 27 (qb_nm mX10_act),
  Cond.instanceMethod (qb_nm mX10_act),
  Cond.selects (qb_nm mX10_act).cls (qb_nm mX10_act) (qb_nm mX10_act),
  Cond.code (qb_nm mX10_act) (qb_by mX10_act) (qb_ml mX10_act) (qb_rt mX10_act),
  Cond.methodLink (qb_nm mL_law).cls 31 (qb_nm mX10_brand),
  Cond.instanceMethod (qb_nm mX10_brand),
  Cond.selects (qb_nm mX10_brand).cls (qb_nm mX10_brand) (qb_nm mX10_brand),
  Cond.code (qb_nm mX10_brand) (qb_by mX10_brand) (qb_ml mX10_brand) (qb_rt mX10_brand),
  Cond.methodLink (qb_nm mL_law).cls 36 (qb_nm mX10_grade),
  Cond.instanceMethod (qb_nm mX10_grade),
  Cond.selects (qb_nm mX10_grade).cls (qb_nm mX10_grade) (qb_nm mX10_grade),
  Cond.code (qb_nm mX10_grade) (qb_by mX10_grade) (qb_ml mX10_grade) (qb_rt mX10_grade),
  Cond.methodLink (qb_nm mL_law).cls 41 (qb_nm mX10_set),
  Cond.instanceMethod (qb_nm mX10_set),
  Cond.selects (qb_nm mX10_set).cls (qb_nm mX10_set) (qb_nm mX10_set),
  Cond.code (qb_nm mX10_set) (qb_by mX10_set) (qb_ml mX10_set) (qb_rt mX10_set),
  Cond.methodLink (qb_nm mL_law).cls 45 (qb_nm mX10_rule),
  Cond.instanceMethod (qb_nm mX10_rule),
  Cond.selects (qb_nm mX10_rule).cls (qb_nm mX10_rule) (qb_nm mX10_rule),
  Cond.code (qb_nm mX10_rule) (qb_by mX10_rule) (qb_ml mX10_rule) (qb_rt mX10_rule),
  Cond.methodLink (qb_nm mL_law).cls 49 (qb_nm mX10_land),
  Cond.instanceMethod (qb_nm mX10_land),
  Cond.selects (qb_nm mX10_land).cls (qb_nm mX10_land) (qb_nm mX10_land),
  Cond.code (qb_nm mX10_land) (qb_by mX10_land) (qb_ml mX10_land) (qb_rt mX10_land),
  Cond.methodLink (qb_nm mL_law).cls 54 (qb_nm mX10_lead),
  Cond.instanceMethod (qb_nm mX10_lead),
  Cond.selects (qb_nm mX10_lead).cls (qb_nm mX10_lead) (qb_nm mX10_lead),
  Cond.code (qb_nm mX10_lead) (qb_by mX10_lead) (qb_ml mX10_lead) (qb_rt mX10_lead),
  Cond.methodLink (qb_nm mL_law).cls 58 (qb_nm mX10_landing),
  Cond.instanceMethod (qb_nm mX10_landing)]
theorem q87_in1 : ∀ w ∈ q87_1, w ∈ qb_wg := qb_wg_sub (by decide +kernel) (by decide +kernel)
def q87_2 : List Cond := [Cond.selects (qb_nm mX10_landing).cls (qb_nm mX10_landing) (qb_nm mX10_landing),
  Cond.code (qb_nm mX10_landing) (qb_by mX10_landing) (qb_ml mX10_landing) (qb_rt mX10_landing),
  Cond.methodLink (qb_nm mL_law).cls 62 (qb_nm mX10_salt),
  Cond.instanceMethod (qb_nm mX10_salt),
  Cond.selects (qb_nm mX10_salt).cls (qb_nm mX10_salt) (qb_nm mX10_salt),
  Cond.code (qb_nm mX10_salt) (qb_by mX10_salt) (qb_ml mX10_salt) (qb_rt mX10_salt),
  Cond.methodLink (qb_nm mL_law).cls 67 (qb_nm mX10_barrel),
  Cond.instanceMethod (qb_nm mX10_barrel),
  Cond.selects (qb_nm mX10_barrel).cls (qb_nm mX10_barrel) (qb_nm mX10_barrel),
  Cond.code (qb_nm mX10_barrel) (qb_by mX10_barrel) (qb_ml mX10_barrel) (qb_rt mX10_barrel),
  Cond.methodLink (qb_nm mL_law).cls 71 (qb_nm mX10_filled),
  Cond.instanceMethod (qb_nm mX10_filled),
  Cond.selects (qb_nm mX10_filled).cls (qb_nm mX10_filled) (qb_nm mX10_filled),
  Cond.code (qb_nm mX10_filled) (qb_by mX10_filled) (qb_ml mX10_filled) (qb_rt mX10_filled),
  Cond.methodLink (qb_nm mL_law).cls 75 (qb_nm mX10_open),
  Cond.instanceMethod (qb_nm mX10_open),
  Cond.selects (qb_nm mX10_open).cls (qb_nm mX10_open) (qb_nm mX10_open),
  Cond.code (qb_nm mX10_open) (qb_by mX10_open) (qb_ml mX10_open) (qb_rt mX10_open),
  Cond.methodLink (qb_nm mL_law).cls 79 (qb_nm mX10_judge),
  Cond.instanceMethod (qb_nm mX10_judge),
  Cond.selects (qb_nm mX10_judge).cls (qb_nm mX10_judge) (qb_nm mX10_judge),
  Cond.code (qb_nm mX10_judge) (qb_by mX10_judge) (qb_ml mX10_judge) (qb_rt mX10_judge),
  Cond.methodLink (qb_nm mL_law).cls 84 (qb_nm mX10_absolve),
  Cond.instanceMethod (qb_nm mX10_absolve),
  Cond.selects (qb_nm mX10_absolve).cls (qb_nm mX10_absolve) (qb_nm mX10_absolve),
  Cond.code (qb_nm mX10_absolve) (qb_by mX10_absolve) (qb_ml mX10_absolve) (qb_rt mX10_absolve),
  Cond.methodLink (qb_nm mL_law).cls 88 (qb_nm mX10_cause),
  Cond.instanceMethod (qb_nm mX10_cause),
  Cond.selects (qb_nm mX10_cause).cls (qb_nm mX10_cause) (qb_nm mX10_cause),
  Cond.code (qb_nm mX10_cause) (qb_by mX10_cause) (qb_ml mX10_cause) (qb_rt mX10_cause),
  Cond.methodLink (qb_nm mL_law).cls 92 (qb_nm mX10_explained),
  Cond.instanceMethod (qb_nm mX10_explained),
  Cond.selects (qb_nm mX10_explained).cls (qb_nm mX10_explained) (qb_nm mX10_explained),
  Cond.code (qb_nm mX10_explained) (qb_by mX10_explained) (qb_ml mX10_explained) (qb_rt mX10_explained),
  Cond.methodLink (qb_nm mL_law).cls 96 (qb_nm mX10_rival),
  Cond.instanceMethod (qb_nm mX10_rival),
  Cond.selects (qb_nm mX10_rival).cls (qb_nm mX10_rival) (qb_nm mX10_rival),
  Cond.code (qb_nm mX10_rival) (qb_by mX10_rival) (qb_ml mX10_rival) (qb_rt mX10_rival),
  Cond.methodLink (qb_nm mL_law).cls 100 (qb_nm mX10_engage),
  Cond.instanceMethod (qb_nm mX10_engage),
  Cond.selects (qb_nm mX10_engage).cls (qb_nm mX10_engage) (qb_nm mX10_engage),
  Cond.code (qb_nm mX10_engage) (qb_by mX10_engage) (qb_ml mX10_engage) (qb_rt mX10_engage),
  Cond.methodLink (qb_nm mL_law).cls 104 (qb_nm mX10_free),
  Cond.instanceMethod (qb_nm mX10_free),
  Cond.selects (qb_nm mX10_free).cls (qb_nm mX10_free) (qb_nm mX10_free),
  Cond.code (qb_nm mX10_free) (qb_by mX10_free) (qb_ml mX10_free) (qb_rt mX10_free),
  Cond.methodLink (qb_nm mL_law).cls 108 (qb_nm mX10_freeOn),
  Cond.instanceMethod (qb_nm mX10_freeOn),
  Cond.selects (qb_nm mX10_freeOn).cls (qb_nm mX10_freeOn) (qb_nm mX10_freeOn),
  Cond.code (qb_nm mX10_freeOn) (qb_by mX10_freeOn) (qb_ml mX10_freeOn) (qb_rt mX10_freeOn),
  Cond.methodLink (qb_nm mL_law).cls 112 (qb_nm mX10_cost),
  Cond.instanceMethod (qb_nm mX10_cost),
  Cond.selects (qb_nm mX10_cost).cls (qb_nm mX10_cost) (qb_nm mX10_cost),
  Cond.code (qb_nm mX10_cost) (qb_by mX10_cost) (qb_ml mX10_cost) (qb_rt mX10_cost),
  Cond.methodLink (qb_nm mL_law).cls 116 (qb_nm mX10_account),
  Cond.instanceMethod (qb_nm mX10_account),
  Cond.selects (qb_nm mX10_account).cls (qb_nm mX10_account) (qb_nm mX10_account),
  Cond.code (qb_nm mX10_account) (qb_by mX10_account) (qb_ml mX10_account) (qb_rt mX10_account),
  Cond.methodLink (qb_nm mL_law).cls 120 (qb_nm mX10_spread),
  Cond.instanceMethod (qb_nm mX10_spread)]
theorem q87_in2 : ∀ w ∈ q87_2, w ∈ qb_wg := qb_wg_sub (by decide +kernel) (by decide +kernel)
def q87_3 : List Cond := [Cond.selects (qb_nm mX10_spread).cls (qb_nm mX10_spread) (qb_nm mX10_spread),
  Cond.code (qb_nm mX10_spread) (qb_by mX10_spread) (qb_ml mX10_spread) (qb_rt mX10_spread),
  Cond.methodLink (qb_nm mL_law).cls 124 (qb_nm mX10_settle),
  Cond.instanceMethod (qb_nm mX10_settle),
  Cond.selects (qb_nm mX10_settle).cls (qb_nm mX10_settle) (qb_nm mX10_settle),
  Cond.code (qb_nm mX10_settle) (qb_by mX10_settle) (qb_ml mX10_settle) (qb_rt mX10_settle),
  Cond.methodLink (qb_nm mL_law).cls 128 (qb_nm mX10_ship),
  Cond.instanceMethod (qb_nm mX10_ship),
  Cond.selects (qb_nm mX10_ship).cls (qb_nm mX10_ship) (qb_nm mX10_ship),
  Cond.code (qb_nm mX10_ship) (qb_by mX10_ship) (qb_ml mX10_ship) (qb_rt mX10_ship),
  Cond.methodLink (qb_nm mL_law).cls 132 (qb_nm mX10_price),
  Cond.instanceMethod (qb_nm mX10_price),
  Cond.selects (qb_nm mX10_price).cls (qb_nm mX10_price) (qb_nm mX10_price),
  Cond.code (qb_nm mX10_price) (qb_by mX10_price) (qb_ml mX10_price) (qb_rt mX10_price),
  Cond.methodLink (qb_nm mL_law).cls 136 (qb_nm mX10_priceOn),
  Cond.instanceMethod (qb_nm mX10_priceOn),
  Cond.selects (qb_nm mX10_priceOn).cls (qb_nm mX10_priceOn) (qb_nm mX10_priceOn),
  Cond.code (qb_nm mX10_priceOn) (qb_by mX10_priceOn) (qb_ml mX10_priceOn) (qb_rt mX10_priceOn),
  Cond.methodLink (qb_nm mL_law).cls 140 (qb_nm mX10_load),
  Cond.instanceMethod (qb_nm mX10_load),
  Cond.selects (qb_nm mX10_load).cls (qb_nm mX10_load) (qb_nm mX10_load),
  Cond.code (qb_nm mX10_load) (qb_by mX10_load) (qb_ml mX10_load) (qb_rt mX10_load),
  Cond.methodLink (qb_nm mL_law).cls 144 (qb_nm mX10_told),
  Cond.instanceMethod (qb_nm mX10_told),
  Cond.selects (qb_nm mX10_told).cls (qb_nm mX10_told) (qb_nm mX10_told),
  Cond.code (qb_nm mX10_told) (qb_by mX10_told) (qb_ml mX10_told) (qb_rt mX10_told),
  Cond.classLink RL 10 RX11,
  Cond.instantiable RX11 50,
  Cond.methodLink (qb_nm mL_law).cls 12 (qb_nm mX11_init),
  Cond.instanceMethod (qb_nm mX11_init),
  Cond.code (qb_nm mX11_init) (qb_by mX11_init) (qb_ml mX11_init) (qb_rt mX11_init),
  Cond.methodLink RX11 1 Lib.objectInit,
  Cond.methodLink (qb_nm mL_law).cls 17 (qb_nm mX11_say),
  Cond.instanceMethod (qb_nm mX11_say),
  Cond.selects (qb_nm mX11_say).cls (qb_nm mX11_say) (qb_nm mX11_say),
  Cond.code (qb_nm mX11_say) (qb_by mX11_say) (qb_ml mX11_say) (qb_rt mX11_say),
  Cond.methodLink (qb_nm mL_law).cls 22 (qb_nm mX11_wipe),
  Cond.instanceMethod (qb_nm mX11_wipe),
  Cond.selects (qb_nm mX11_wipe).cls (qb_nm mX11_wipe) (qb_nm mX11_wipe),
  Cond.code (qb_nm mX11_wipe) (qb_by mX11_wipe) (qb_ml mX11_wipe) (qb_rt mX11_wipe),
  Cond.methodLink (qb_nm mL_law).cls 26 (qb_nm mX11_fault),
  Cond.instanceMethod (qb_nm mX11_fault),
  Cond.selects (qb_nm mX11_fault).cls (qb_nm mX11_fault) (qb_nm mX11_fault),
  Cond.code (qb_nm mX11_fault) (qb_by mX11_fault) (qb_ml mX11_fault) (qb_rt mX11_fault),
  Cond.methodLink (qb_nm mL_law).cls 30 (qb_nm mX11_act),
  Cond.instanceMethod (qb_nm mX11_act),
  Cond.selects (qb_nm mX11_act).cls (qb_nm mX11_act) (qb_nm mX11_act),
  Cond.code (qb_nm mX11_act) (qb_by mX11_act) (qb_ml mX11_act) (qb_rt mX11_act),
  Cond.methodLink (qb_nm mL_law).cls 40 (qb_nm mX11_grade),
  Cond.instanceMethod (qb_nm mX11_grade),
  Cond.selects (qb_nm mX11_grade).cls (qb_nm mX11_grade) (qb_nm mX11_grade),
  Cond.code (qb_nm mX11_grade) (qb_by mX11_grade) (qb_ml mX11_grade) (qb_rt mX11_grade),
  Cond.methodLink (qb_nm mL_law).cls 44 (qb_nm mX11_set),
  Cond.instanceMethod (qb_nm mX11_set),
  Cond.selects (qb_nm mX11_set).cls (qb_nm mX11_set) (qb_nm mX11_set),
  Cond.code (qb_nm mX11_set) (qb_by mX11_set) (qb_ml mX11_set) (qb_rt mX11_set),
  Cond.methodLink (qb_nm mL_law).cls 48 (qb_nm mX11_rule),
  Cond.instanceMethod (qb_nm mX11_rule),
  Cond.selects (qb_nm mX11_rule).cls (qb_nm mX11_rule) (qb_nm mX11_rule),
  Cond.code (qb_nm mX11_rule) (qb_by mX11_rule) (qb_ml mX11_rule) (qb_rt mX11_rule)]
theorem q87_in3 : ∀ w ∈ q87_3, w ∈ qb_wg := qb_wg_sub (by decide +kernel) (by decide +kernel)
def q87_4 : List Cond := [Cond.methodLink (qb_nm mL_law).cls 53 (qb_nm mX11_land),
  Cond.instanceMethod (qb_nm mX11_land),
  Cond.selects (qb_nm mX11_land).cls (qb_nm mX11_land) (qb_nm mX11_land),
  Cond.code (qb_nm mX11_land) (qb_by mX11_land) (qb_ml mX11_land) (qb_rt mX11_land),
  Cond.methodLink (qb_nm mL_law).cls 57 (qb_nm mX11_lead),
  Cond.instanceMethod (qb_nm mX11_lead),
  Cond.selects (qb_nm mX11_lead).cls (qb_nm mX11_lead) (qb_nm mX11_lead),
  Cond.code (qb_nm mX11_lead) (qb_by mX11_lead) (qb_ml mX11_lead) (qb_rt mX11_lead),
  Cond.methodLink (qb_nm mL_law).cls 61 (qb_nm mX11_landing),
  Cond.instanceMethod (qb_nm mX11_landing),
  Cond.selects (qb_nm mX11_landing).cls (qb_nm mX11_landing) (qb_nm mX11_landing),
  Cond.code (qb_nm mX11_landing) (qb_by mX11_landing) (qb_ml mX11_landing) (qb_rt mX11_landing),
  Cond.methodLink (qb_nm mL_law).cls 66 (qb_nm mX11_salt),
  Cond.instanceMethod (qb_nm mX11_salt),
  Cond.selects (qb_nm mX11_salt).cls (qb_nm mX11_salt) (qb_nm mX11_salt),
  Cond.code (qb_nm mX11_salt) (qb_by mX11_salt) (qb_ml mX11_salt) (qb_rt mX11_salt),
  Cond.methodLink (qb_nm mL_law).cls 35 (qb_nm mX11_brand),
  Cond.instanceMethod (qb_nm mX11_brand),
  Cond.selects (qb_nm mX11_brand).cls (qb_nm mX11_brand) (qb_nm mX11_brand),
  Cond.code (qb_nm mX11_brand) (qb_by mX11_brand) (qb_ml mX11_brand) (qb_rt mX11_brand),
  Cond.methodLink (qb_nm mL_law).cls 70 (qb_nm mX11_barrel),
  Cond.instanceMethod (qb_nm mX11_barrel),
  Cond.selects (qb_nm mX11_barrel).cls (qb_nm mX11_barrel) (qb_nm mX11_barrel),
  Cond.code (qb_nm mX11_barrel) (qb_by mX11_barrel) (qb_ml mX11_barrel) (qb_rt mX11_barrel),
  Cond.methodLink (qb_nm mL_law).cls 74 (qb_nm mX11_filled),
  Cond.instanceMethod (qb_nm mX11_filled),
  Cond.selects (qb_nm mX11_filled).cls (qb_nm mX11_filled) (qb_nm mX11_filled),
  Cond.code (qb_nm mX11_filled) (qb_by mX11_filled) (qb_ml mX11_filled) (qb_rt mX11_filled),
  Cond.methodLink (qb_nm mL_law).cls 78 (qb_nm mX11_open),
  Cond.instanceMethod (qb_nm mX11_open),
  Cond.selects (qb_nm mX11_open).cls (qb_nm mX11_open) (qb_nm mX11_open),
  Cond.code (qb_nm mX11_open) (qb_by mX11_open) (qb_ml mX11_open) (qb_rt mX11_open),
  Cond.methodLink (qb_nm mL_law).cls 83 (qb_nm mX11_judge),
  Cond.instanceMethod (qb_nm mX11_judge),
  Cond.selects (qb_nm mX11_judge).cls (qb_nm mX11_judge) (qb_nm mX11_judge),
  Cond.code (qb_nm mX11_judge) (qb_by mX11_judge) (qb_ml mX11_judge) (qb_rt mX11_judge),
  Cond.methodLink (qb_nm mL_law).cls 87 (qb_nm mX11_absolve),
  Cond.instanceMethod (qb_nm mX11_absolve),
  Cond.selects (qb_nm mX11_absolve).cls (qb_nm mX11_absolve) (qb_nm mX11_absolve),
  Cond.code (qb_nm mX11_absolve) (qb_by mX11_absolve) (qb_ml mX11_absolve) (qb_rt mX11_absolve),
  Cond.methodLink (qb_nm mL_law).cls 91 (qb_nm mX11_cause),
  Cond.instanceMethod (qb_nm mX11_cause),
  Cond.selects (qb_nm mX11_cause).cls (qb_nm mX11_cause) (qb_nm mX11_cause),
  Cond.code (qb_nm mX11_cause) (qb_by mX11_cause) (qb_ml mX11_cause) (qb_rt mX11_cause),
  Cond.methodLink (qb_nm mL_law).cls 95 (qb_nm mX11_explained),
  Cond.instanceMethod (qb_nm mX11_explained),
  Cond.selects (qb_nm mX11_explained).cls (qb_nm mX11_explained) (qb_nm mX11_explained),
  Cond.code (qb_nm mX11_explained) (qb_by mX11_explained) (qb_ml mX11_explained) (qb_rt mX11_explained),
  Cond.methodLink (qb_nm mL_law).cls 99 (qb_nm mX11_rival),
  Cond.instanceMethod (qb_nm mX11_rival),
  Cond.selects (qb_nm mX11_rival).cls (qb_nm mX11_rival) (qb_nm mX11_rival),
  Cond.code (qb_nm mX11_rival) (qb_by mX11_rival) (qb_ml mX11_rival) (qb_rt mX11_rival),
  Cond.methodLink (qb_nm mL_law).cls 103 (qb_nm mX11_engage),
  Cond.instanceMethod (qb_nm mX11_engage),
  Cond.selects (qb_nm mX11_engage).cls (qb_nm mX11_engage) (qb_nm mX11_engage),
  Cond.code (qb_nm mX11_engage) (qb_by mX11_engage) (qb_ml mX11_engage) (qb_rt mX11_engage),
  Cond.methodLink (qb_nm mL_law).cls 107 (qb_nm mX11_free),
  Cond.instanceMethod (qb_nm mX11_free),
  Cond.selects (qb_nm mX11_free).cls (qb_nm mX11_free) (qb_nm mX11_free),
  Cond.code (qb_nm mX11_free) (qb_by mX11_free) (qb_ml mX11_free) (qb_rt mX11_free)]
theorem q87_in4 : ∀ w ∈ q87_4, w ∈ qb_wg := qb_wg_sub (by decide +kernel) (by decide +kernel)
def q87_5 : List Cond := [Cond.methodLink (qb_nm mL_law).cls 111 (qb_nm mX11_freeOn),
  Cond.instanceMethod (qb_nm mX11_freeOn),
  Cond.selects (qb_nm mX11_freeOn).cls (qb_nm mX11_freeOn) (qb_nm mX11_freeOn),
  Cond.code (qb_nm mX11_freeOn) (qb_by mX11_freeOn) (qb_ml mX11_freeOn) (qb_rt mX11_freeOn),
  Cond.methodLink (qb_nm mL_law).cls 115 (qb_nm mX11_cost),
  Cond.instanceMethod (qb_nm mX11_cost),
  Cond.selects (qb_nm mX11_cost).cls (qb_nm mX11_cost) (qb_nm mX11_cost),
  Cond.code (qb_nm mX11_cost) (qb_by mX11_cost) (qb_ml mX11_cost) (qb_rt mX11_cost),
  Cond.methodLink (qb_nm mL_law).cls 119 (qb_nm mX11_account),
  Cond.instanceMethod (qb_nm mX11_account),
  Cond.selects (qb_nm mX11_account).cls (qb_nm mX11_account) (qb_nm mX11_account),
  Cond.code (qb_nm mX11_account) (qb_by mX11_account) (qb_ml mX11_account) (qb_rt mX11_account),
  Cond.methodLink (qb_nm mL_law).cls 123 (qb_nm mX11_spread),
  Cond.instanceMethod (qb_nm mX11_spread),
  Cond.selects (qb_nm mX11_spread).cls (qb_nm mX11_spread) (qb_nm mX11_spread),
  Cond.code (qb_nm mX11_spread) (qb_by mX11_spread) (qb_ml mX11_spread) (qb_rt mX11_spread),
  Cond.methodLink (qb_nm mL_law).cls 127 (qb_nm mX11_settle),
  Cond.instanceMethod (qb_nm mX11_settle),
  Cond.selects (qb_nm mX11_settle).cls (qb_nm mX11_settle) (qb_nm mX11_settle),
  Cond.code (qb_nm mX11_settle) (qb_by mX11_settle) (qb_ml mX11_settle) (qb_rt mX11_settle),
  Cond.methodLink (qb_nm mL_law).cls 131 (qb_nm mX11_ship),
  Cond.instanceMethod (qb_nm mX11_ship),
  Cond.selects (qb_nm mX11_ship).cls (qb_nm mX11_ship) (qb_nm mX11_ship),
  Cond.code (qb_nm mX11_ship) (qb_by mX11_ship) (qb_ml mX11_ship) (qb_rt mX11_ship),
  Cond.methodLink (qb_nm mL_law).cls 135 (qb_nm mX11_price),
  Cond.instanceMethod (qb_nm mX11_price),
  Cond.selects (qb_nm mX11_price).cls (qb_nm mX11_price) (qb_nm mX11_price),
  Cond.code (qb_nm mX11_price) (qb_by mX11_price) (qb_ml mX11_price) (qb_rt mX11_price),
  Cond.methodLink (qb_nm mL_law).cls 139 (qb_nm mX11_priceOn),
  Cond.instanceMethod (qb_nm mX11_priceOn),
  Cond.selects (qb_nm mX11_priceOn).cls (qb_nm mX11_priceOn) (qb_nm mX11_priceOn),
  Cond.code (qb_nm mX11_priceOn) (qb_by mX11_priceOn) (qb_ml mX11_priceOn) (qb_rt mX11_priceOn),
  Cond.methodLink (qb_nm mL_law).cls 143 (qb_nm mX11_load),
  Cond.instanceMethod (qb_nm mX11_load),
  Cond.selects (qb_nm mX11_load).cls (qb_nm mX11_load) (qb_nm mX11_load),
  Cond.code (qb_nm mX11_load) (qb_by mX11_load) (qb_ml mX11_load) (qb_rt mX11_load),
  Cond.methodLink (qb_nm mL_law).cls 147 (qb_nm mX11_told),
  Cond.instanceMethod (qb_nm mX11_told),
  Cond.selects (qb_nm mX11_told).cls (qb_nm mX11_told) (qb_nm mX11_told),
  Cond.code (qb_nm mX11_told) (qb_by mX11_told) (qb_ml mX11_told) (qb_rt mX11_told)]
theorem q87_in5 : ∀ w ∈ q87_5, w ∈ qb_wg := qb_wg_sub (by decide +kernel) (by decide +kernel)
theorem qcw_mX10_init : Cond.code (qb_nm mX10_init) (qb_by mX10_init) (qb_ml mX10_init) (qb_rt mX10_init) ∈ qb_wg := q87_in0 _ (List.mem_of_getElem? (i := 16) rfl)
theorem qci_mX10_init : Cond.initialized (qb_nm mX10_init).cls ∈ qb_wg := q87_in0 _ (List.mem_of_getElem? (i := 0) rfl)
theorem qsi_mX10_init : Cond.instanceMethod (qb_nm mX10_init) ∈ qb_wg := q87_in0 _ (List.mem_of_getElem? (i := 15) rfl)
theorem ql_mL_law_mX10_init : Cond.methodLink (qb_nm mL_law).cls 9 (qb_nm mX10_init) ∈ qb_wg := q87_in0 _ (List.mem_of_getElem? (i := 14) rfl)
theorem qe_mL_law_mX10_init : qb_CI mL_law mX10_init 9 0 := ⟨⟨qcw_mX10_init, qci_mX10_init, by decide +kernel, by decide +kernel, by decide +kernel⟩, ql_mL_law_mX10_init, qsi_mX10_init, rfl, rfl⟩
theorem qcw_mX11_init : Cond.code (qb_nm mX11_init) (qb_by mX11_init) (qb_ml mX11_init) (qb_rt mX11_init) ∈ qb_wg := q87_in3 _ (List.mem_of_getElem? (i := 30) rfl)
theorem qci_mX11_init : Cond.initialized (qb_nm mX11_init).cls ∈ qb_wg := q87_in0 _ (List.mem_of_getElem? (i := 11) rfl)
theorem qsi_mX11_init : Cond.instanceMethod (qb_nm mX11_init) ∈ qb_wg := q87_in3 _ (List.mem_of_getElem? (i := 29) rfl)
theorem ql_mL_law_mX11_init : Cond.methodLink (qb_nm mL_law).cls 12 (qb_nm mX11_init) ∈ qb_wg := q87_in3 _ (List.mem_of_getElem? (i := 28) rfl)
theorem qe_mL_law_mX11_init : qb_CI mL_law mX11_init 12 0 := ⟨⟨qcw_mX11_init, qci_mX11_init, by decide +kernel, by decide +kernel, by decide +kernel⟩, ql_mL_law_mX11_init, qsi_mX11_init, rfl, rfl⟩
theorem qcw_mX10_say : Cond.code (qb_nm mX10_say) (qb_by mX10_say) (qb_ml mX10_say) (qb_rt mX10_say) ∈ qb_wg := q87_in1 _ (List.mem_of_getElem? (i := 21) rfl)
theorem qci_mX10_say : Cond.initialized (qb_nm mX10_say).cls ∈ qb_wg := q87_in0 _ (List.mem_of_getElem? (i := 0) rfl)
theorem qsi_mX10_say : Cond.instanceMethod (qb_nm mX10_say) ∈ qb_wg := q87_in1 _ (List.mem_of_getElem? (i := 19) rfl)
theorem qse_mX10_say : Cond.selects (qb_nm mX10_say).cls (qb_nm mX10_say) (qb_nm mX10_say) ∈ qb_wg := q87_in1 _ (List.mem_of_getElem? (i := 20) rfl)
theorem ql_mL_law_mX10_say : Cond.methodLink (qb_nm mL_law).cls 13 (qb_nm mX10_say) ∈ qb_wg := q87_in1 _ (List.mem_of_getElem? (i := 18) rfl)
theorem qe_mL_law_mX10_say : qb_CV mL_law mX10_say 13 1 := ⟨⟨qcw_mX10_say, qci_mX10_say, by decide +kernel, by decide +kernel, by decide +kernel⟩, ql_mL_law_mX10_say, qsi_mX10_say, qse_mX10_say⟩
theorem qcw_mX11_say : Cond.code (qb_nm mX11_say) (qb_by mX11_say) (qb_ml mX11_say) (qb_rt mX11_say) ∈ qb_wg := q87_in3 _ (List.mem_of_getElem? (i := 35) rfl)
theorem qci_mX11_say : Cond.initialized (qb_nm mX11_say).cls ∈ qb_wg := q87_in0 _ (List.mem_of_getElem? (i := 11) rfl)
theorem qsi_mX11_say : Cond.instanceMethod (qb_nm mX11_say) ∈ qb_wg := q87_in3 _ (List.mem_of_getElem? (i := 33) rfl)
theorem qse_mX11_say : Cond.selects (qb_nm mX11_say).cls (qb_nm mX11_say) (qb_nm mX11_say) ∈ qb_wg := q87_in3 _ (List.mem_of_getElem? (i := 34) rfl)
theorem ql_mL_law_mX11_say : Cond.methodLink (qb_nm mL_law).cls 17 (qb_nm mX11_say) ∈ qb_wg := q87_in3 _ (List.mem_of_getElem? (i := 32) rfl)
theorem qe_mL_law_mX11_say : qb_CV mL_law mX11_say 17 1 := ⟨⟨qcw_mX11_say, qci_mX11_say, by decide +kernel, by decide +kernel, by decide +kernel⟩, ql_mL_law_mX11_say, qsi_mX11_say, qse_mX11_say⟩
theorem qcw_mX10_wipe : Cond.code (qb_nm mX10_wipe) (qb_by mX10_wipe) (qb_ml mX10_wipe) (qb_rt mX10_wipe) ∈ qb_wg := q87_in1 _ (List.mem_of_getElem? (i := 25) rfl)
theorem qci_mX10_wipe : Cond.initialized (qb_nm mX10_wipe).cls ∈ qb_wg := q87_in0 _ (List.mem_of_getElem? (i := 0) rfl)
theorem qsi_mX10_wipe : Cond.instanceMethod (qb_nm mX10_wipe) ∈ qb_wg := q87_in1 _ (List.mem_of_getElem? (i := 23) rfl)
theorem qse_mX10_wipe : Cond.selects (qb_nm mX10_wipe).cls (qb_nm mX10_wipe) (qb_nm mX10_wipe) ∈ qb_wg := q87_in1 _ (List.mem_of_getElem? (i := 24) rfl)
theorem ql_mL_law_mX10_wipe : Cond.methodLink (qb_nm mL_law).cls 18 (qb_nm mX10_wipe) ∈ qb_wg := q87_in1 _ (List.mem_of_getElem? (i := 22) rfl)
theorem qe_mL_law_mX10_wipe : qb_CV mL_law mX10_wipe 18 0 := ⟨⟨qcw_mX10_wipe, qci_mX10_wipe, by decide +kernel, by decide +kernel, by decide +kernel⟩, ql_mL_law_mX10_wipe, qsi_mX10_wipe, qse_mX10_wipe⟩
theorem qcw_mX11_wipe : Cond.code (qb_nm mX11_wipe) (qb_by mX11_wipe) (qb_ml mX11_wipe) (qb_rt mX11_wipe) ∈ qb_wg := q87_in3 _ (List.mem_of_getElem? (i := 39) rfl)
theorem qci_mX11_wipe : Cond.initialized (qb_nm mX11_wipe).cls ∈ qb_wg := q87_in0 _ (List.mem_of_getElem? (i := 11) rfl)
theorem qsi_mX11_wipe : Cond.instanceMethod (qb_nm mX11_wipe) ∈ qb_wg := q87_in3 _ (List.mem_of_getElem? (i := 37) rfl)
theorem qse_mX11_wipe : Cond.selects (qb_nm mX11_wipe).cls (qb_nm mX11_wipe) (qb_nm mX11_wipe) ∈ qb_wg := q87_in3 _ (List.mem_of_getElem? (i := 38) rfl)
theorem ql_mL_law_mX11_wipe : Cond.methodLink (qb_nm mL_law).cls 22 (qb_nm mX11_wipe) ∈ qb_wg := q87_in3 _ (List.mem_of_getElem? (i := 36) rfl)
theorem qe_mL_law_mX11_wipe : qb_CV mL_law mX11_wipe 22 0 := ⟨⟨qcw_mX11_wipe, qci_mX11_wipe, by decide +kernel, by decide +kernel, by decide +kernel⟩, ql_mL_law_mX11_wipe, qsi_mX11_wipe, qse_mX11_wipe⟩
theorem qcw_mX10_fault : Cond.code (qb_nm mX10_fault) (qb_by mX10_fault) (qb_ml mX10_fault) (qb_rt mX10_fault) ∈ qb_wg := q87_in1 _ (List.mem_of_getElem? (i := 29) rfl)
theorem qci_mX10_fault : Cond.initialized (qb_nm mX10_fault).cls ∈ qb_wg := q87_in0 _ (List.mem_of_getElem? (i := 0) rfl)
theorem qsi_mX10_fault : Cond.instanceMethod (qb_nm mX10_fault) ∈ qb_wg := q87_in1 _ (List.mem_of_getElem? (i := 27) rfl)
theorem qse_mX10_fault : Cond.selects (qb_nm mX10_fault).cls (qb_nm mX10_fault) (qb_nm mX10_fault) ∈ qb_wg := q87_in1 _ (List.mem_of_getElem? (i := 28) rfl)
theorem ql_mL_law_mX10_fault : Cond.methodLink (qb_nm mL_law).cls 23 (qb_nm mX10_fault) ∈ qb_wg := q87_in1 _ (List.mem_of_getElem? (i := 26) rfl)
theorem qe_mL_law_mX10_fault : qb_CV mL_law mX10_fault 23 0 := ⟨⟨qcw_mX10_fault, qci_mX10_fault, by decide +kernel, by decide +kernel, by decide +kernel⟩, ql_mL_law_mX10_fault, qsi_mX10_fault, qse_mX10_fault⟩
theorem qcw_mX11_fault : Cond.code (qb_nm mX11_fault) (qb_by mX11_fault) (qb_ml mX11_fault) (qb_rt mX11_fault) ∈ qb_wg := q87_in3 _ (List.mem_of_getElem? (i := 43) rfl)
theorem qci_mX11_fault : Cond.initialized (qb_nm mX11_fault).cls ∈ qb_wg := q87_in0 _ (List.mem_of_getElem? (i := 11) rfl)
theorem qsi_mX11_fault : Cond.instanceMethod (qb_nm mX11_fault) ∈ qb_wg := q87_in3 _ (List.mem_of_getElem? (i := 41) rfl)
theorem qse_mX11_fault : Cond.selects (qb_nm mX11_fault).cls (qb_nm mX11_fault) (qb_nm mX11_fault) ∈ qb_wg := q87_in3 _ (List.mem_of_getElem? (i := 42) rfl)
theorem ql_mL_law_mX11_fault : Cond.methodLink (qb_nm mL_law).cls 26 (qb_nm mX11_fault) ∈ qb_wg := q87_in3 _ (List.mem_of_getElem? (i := 40) rfl)
theorem qe_mL_law_mX11_fault : qb_CV mL_law mX11_fault 26 0 := ⟨⟨qcw_mX11_fault, qci_mX11_fault, by decide +kernel, by decide +kernel, by decide +kernel⟩, ql_mL_law_mX11_fault, qsi_mX11_fault, qse_mX11_fault⟩
theorem qcw_mX10_act : Cond.code (qb_nm mX10_act) (qb_by mX10_act) (qb_ml mX10_act) (qb_rt mX10_act) ∈ qb_wg := q87_in1 _ (List.mem_of_getElem? (i := 33) rfl)
theorem qci_mX10_act : Cond.initialized (qb_nm mX10_act).cls ∈ qb_wg := q87_in0 _ (List.mem_of_getElem? (i := 0) rfl)
theorem qsi_mX10_act : Cond.instanceMethod (qb_nm mX10_act) ∈ qb_wg := q87_in1 _ (List.mem_of_getElem? (i := 31) rfl)
theorem qse_mX10_act : Cond.selects (qb_nm mX10_act).cls (qb_nm mX10_act) (qb_nm mX10_act) ∈ qb_wg := q87_in1 _ (List.mem_of_getElem? (i := 32) rfl)
theorem ql_mL_law_mX10_act : Cond.methodLink (qb_nm mL_law).cls 27 (qb_nm mX10_act) ∈ qb_wg := q87_in1 _ (List.mem_of_getElem? (i := 30) rfl)
theorem qe_mL_law_mX10_act : qb_CV mL_law mX10_act 27 1 := ⟨⟨qcw_mX10_act, qci_mX10_act, by decide +kernel, by decide +kernel, by decide +kernel⟩, ql_mL_law_mX10_act, qsi_mX10_act, qse_mX10_act⟩
theorem qcw_mX11_act : Cond.code (qb_nm mX11_act) (qb_by mX11_act) (qb_ml mX11_act) (qb_rt mX11_act) ∈ qb_wg := q87_in3 _ (List.mem_of_getElem? (i := 47) rfl)
theorem qci_mX11_act : Cond.initialized (qb_nm mX11_act).cls ∈ qb_wg := q87_in0 _ (List.mem_of_getElem? (i := 11) rfl)
theorem qsi_mX11_act : Cond.instanceMethod (qb_nm mX11_act) ∈ qb_wg := q87_in3 _ (List.mem_of_getElem? (i := 45) rfl)
theorem qse_mX11_act : Cond.selects (qb_nm mX11_act).cls (qb_nm mX11_act) (qb_nm mX11_act) ∈ qb_wg := q87_in3 _ (List.mem_of_getElem? (i := 46) rfl)
theorem ql_mL_law_mX11_act : Cond.methodLink (qb_nm mL_law).cls 30 (qb_nm mX11_act) ∈ qb_wg := q87_in3 _ (List.mem_of_getElem? (i := 44) rfl)
theorem qe_mL_law_mX11_act : qb_CV mL_law mX11_act 30 1 := ⟨⟨qcw_mX11_act, qci_mX11_act, by decide +kernel, by decide +kernel, by decide +kernel⟩, ql_mL_law_mX11_act, qsi_mX11_act, qse_mX11_act⟩
theorem qcw_mX10_brand : Cond.code (qb_nm mX10_brand) (qb_by mX10_brand) (qb_ml mX10_brand) (qb_rt mX10_brand) ∈ qb_wg := q87_in1 _ (List.mem_of_getElem? (i := 37) rfl)
theorem qci_mX10_brand : Cond.initialized (qb_nm mX10_brand).cls ∈ qb_wg := q87_in0 _ (List.mem_of_getElem? (i := 0) rfl)
theorem qsi_mX10_brand : Cond.instanceMethod (qb_nm mX10_brand) ∈ qb_wg := q87_in1 _ (List.mem_of_getElem? (i := 35) rfl)
theorem qse_mX10_brand : Cond.selects (qb_nm mX10_brand).cls (qb_nm mX10_brand) (qb_nm mX10_brand) ∈ qb_wg := q87_in1 _ (List.mem_of_getElem? (i := 36) rfl)
theorem ql_mL_law_mX10_brand : Cond.methodLink (qb_nm mL_law).cls 31 (qb_nm mX10_brand) ∈ qb_wg := q87_in1 _ (List.mem_of_getElem? (i := 34) rfl)
theorem qe_mL_law_mX10_brand : qb_CV mL_law mX10_brand 31 3 := ⟨⟨qcw_mX10_brand, qci_mX10_brand, by decide +kernel, by decide +kernel, by decide +kernel⟩, ql_mL_law_mX10_brand, qsi_mX10_brand, qse_mX10_brand⟩
theorem qcw_mX11_brand : Cond.code (qb_nm mX11_brand) (qb_by mX11_brand) (qb_ml mX11_brand) (qb_rt mX11_brand) ∈ qb_wg := q87_in4 _ (List.mem_of_getElem? (i := 19) rfl)
theorem qci_mX11_brand : Cond.initialized (qb_nm mX11_brand).cls ∈ qb_wg := q87_in0 _ (List.mem_of_getElem? (i := 11) rfl)
theorem qsi_mX11_brand : Cond.instanceMethod (qb_nm mX11_brand) ∈ qb_wg := q87_in4 _ (List.mem_of_getElem? (i := 17) rfl)
theorem qse_mX11_brand : Cond.selects (qb_nm mX11_brand).cls (qb_nm mX11_brand) (qb_nm mX11_brand) ∈ qb_wg := q87_in4 _ (List.mem_of_getElem? (i := 18) rfl)
theorem ql_mL_law_mX11_brand : Cond.methodLink (qb_nm mL_law).cls 35 (qb_nm mX11_brand) ∈ qb_wg := q87_in4 _ (List.mem_of_getElem? (i := 16) rfl)
theorem qe_mL_law_mX11_brand : qb_CV mL_law mX11_brand 35 3 := ⟨⟨qcw_mX11_brand, qci_mX11_brand, by decide +kernel, by decide +kernel, by decide +kernel⟩, ql_mL_law_mX11_brand, qsi_mX11_brand, qse_mX11_brand⟩
theorem qcw_mX10_grade : Cond.code (qb_nm mX10_grade) (qb_by mX10_grade) (qb_ml mX10_grade) (qb_rt mX10_grade) ∈ qb_wg := q87_in1 _ (List.mem_of_getElem? (i := 41) rfl)
theorem qci_mX10_grade : Cond.initialized (qb_nm mX10_grade).cls ∈ qb_wg := q87_in0 _ (List.mem_of_getElem? (i := 0) rfl)
theorem qsi_mX10_grade : Cond.instanceMethod (qb_nm mX10_grade) ∈ qb_wg := q87_in1 _ (List.mem_of_getElem? (i := 39) rfl)
theorem qse_mX10_grade : Cond.selects (qb_nm mX10_grade).cls (qb_nm mX10_grade) (qb_nm mX10_grade) ∈ qb_wg := q87_in1 _ (List.mem_of_getElem? (i := 40) rfl)
theorem ql_mL_law_mX10_grade : Cond.methodLink (qb_nm mL_law).cls 36 (qb_nm mX10_grade) ∈ qb_wg := q87_in1 _ (List.mem_of_getElem? (i := 38) rfl)
theorem qe_mL_law_mX10_grade : qb_CV mL_law mX10_grade 36 2 := ⟨⟨qcw_mX10_grade, qci_mX10_grade, by decide +kernel, by decide +kernel, by decide +kernel⟩, ql_mL_law_mX10_grade, qsi_mX10_grade, qse_mX10_grade⟩
theorem qcw_mX11_grade : Cond.code (qb_nm mX11_grade) (qb_by mX11_grade) (qb_ml mX11_grade) (qb_rt mX11_grade) ∈ qb_wg := q87_in3 _ (List.mem_of_getElem? (i := 51) rfl)
theorem qci_mX11_grade : Cond.initialized (qb_nm mX11_grade).cls ∈ qb_wg := q87_in0 _ (List.mem_of_getElem? (i := 11) rfl)
theorem qsi_mX11_grade : Cond.instanceMethod (qb_nm mX11_grade) ∈ qb_wg := q87_in3 _ (List.mem_of_getElem? (i := 49) rfl)
theorem qse_mX11_grade : Cond.selects (qb_nm mX11_grade).cls (qb_nm mX11_grade) (qb_nm mX11_grade) ∈ qb_wg := q87_in3 _ (List.mem_of_getElem? (i := 50) rfl)
theorem ql_mL_law_mX11_grade : Cond.methodLink (qb_nm mL_law).cls 40 (qb_nm mX11_grade) ∈ qb_wg := q87_in3 _ (List.mem_of_getElem? (i := 48) rfl)
theorem qe_mL_law_mX11_grade : qb_CV mL_law mX11_grade 40 2 := ⟨⟨qcw_mX11_grade, qci_mX11_grade, by decide +kernel, by decide +kernel, by decide +kernel⟩, ql_mL_law_mX11_grade, qsi_mX11_grade, qse_mX11_grade⟩
theorem qcw_mX10_set : Cond.code (qb_nm mX10_set) (qb_by mX10_set) (qb_ml mX10_set) (qb_rt mX10_set) ∈ qb_wg := q87_in1 _ (List.mem_of_getElem? (i := 45) rfl)
theorem qci_mX10_set : Cond.initialized (qb_nm mX10_set).cls ∈ qb_wg := q87_in0 _ (List.mem_of_getElem? (i := 0) rfl)
theorem qsi_mX10_set : Cond.instanceMethod (qb_nm mX10_set) ∈ qb_wg := q87_in1 _ (List.mem_of_getElem? (i := 43) rfl)
theorem qse_mX10_set : Cond.selects (qb_nm mX10_set).cls (qb_nm mX10_set) (qb_nm mX10_set) ∈ qb_wg := q87_in1 _ (List.mem_of_getElem? (i := 44) rfl)
theorem ql_mL_law_mX10_set : Cond.methodLink (qb_nm mL_law).cls 41 (qb_nm mX10_set) ∈ qb_wg := q87_in1 _ (List.mem_of_getElem? (i := 42) rfl)
theorem qe_mL_law_mX10_set : qb_CV mL_law mX10_set 41 3 := ⟨⟨qcw_mX10_set, qci_mX10_set, by decide +kernel, by decide +kernel, by decide +kernel⟩, ql_mL_law_mX10_set, qsi_mX10_set, qse_mX10_set⟩
theorem qcw_mX11_set : Cond.code (qb_nm mX11_set) (qb_by mX11_set) (qb_ml mX11_set) (qb_rt mX11_set) ∈ qb_wg := q87_in3 _ (List.mem_of_getElem? (i := 55) rfl)
theorem qci_mX11_set : Cond.initialized (qb_nm mX11_set).cls ∈ qb_wg := q87_in0 _ (List.mem_of_getElem? (i := 11) rfl)
theorem qsi_mX11_set : Cond.instanceMethod (qb_nm mX11_set) ∈ qb_wg := q87_in3 _ (List.mem_of_getElem? (i := 53) rfl)
theorem qse_mX11_set : Cond.selects (qb_nm mX11_set).cls (qb_nm mX11_set) (qb_nm mX11_set) ∈ qb_wg := q87_in3 _ (List.mem_of_getElem? (i := 54) rfl)
theorem ql_mL_law_mX11_set : Cond.methodLink (qb_nm mL_law).cls 44 (qb_nm mX11_set) ∈ qb_wg := q87_in3 _ (List.mem_of_getElem? (i := 52) rfl)
theorem qe_mL_law_mX11_set : qb_CV mL_law mX11_set 44 3 := ⟨⟨qcw_mX11_set, qci_mX11_set, by decide +kernel, by decide +kernel, by decide +kernel⟩, ql_mL_law_mX11_set, qsi_mX11_set, qse_mX11_set⟩
theorem qcw_mX10_rule : Cond.code (qb_nm mX10_rule) (qb_by mX10_rule) (qb_ml mX10_rule) (qb_rt mX10_rule) ∈ qb_wg := q87_in1 _ (List.mem_of_getElem? (i := 49) rfl)
theorem qci_mX10_rule : Cond.initialized (qb_nm mX10_rule).cls ∈ qb_wg := q87_in0 _ (List.mem_of_getElem? (i := 0) rfl)
theorem qsi_mX10_rule : Cond.instanceMethod (qb_nm mX10_rule) ∈ qb_wg := q87_in1 _ (List.mem_of_getElem? (i := 47) rfl)
theorem qse_mX10_rule : Cond.selects (qb_nm mX10_rule).cls (qb_nm mX10_rule) (qb_nm mX10_rule) ∈ qb_wg := q87_in1 _ (List.mem_of_getElem? (i := 48) rfl)
theorem ql_mL_law_mX10_rule : Cond.methodLink (qb_nm mL_law).cls 45 (qb_nm mX10_rule) ∈ qb_wg := q87_in1 _ (List.mem_of_getElem? (i := 46) rfl)
theorem qe_mL_law_mX10_rule : qb_CV mL_law mX10_rule 45 2 := ⟨⟨qcw_mX10_rule, qci_mX10_rule, by decide +kernel, by decide +kernel, by decide +kernel⟩, ql_mL_law_mX10_rule, qsi_mX10_rule, qse_mX10_rule⟩
theorem qcw_mX11_rule : Cond.code (qb_nm mX11_rule) (qb_by mX11_rule) (qb_ml mX11_rule) (qb_rt mX11_rule) ∈ qb_wg := q87_in3 _ (List.mem_of_getElem? (i := 59) rfl)
theorem qci_mX11_rule : Cond.initialized (qb_nm mX11_rule).cls ∈ qb_wg := q87_in0 _ (List.mem_of_getElem? (i := 11) rfl)
theorem qsi_mX11_rule : Cond.instanceMethod (qb_nm mX11_rule) ∈ qb_wg := q87_in3 _ (List.mem_of_getElem? (i := 57) rfl)
theorem qse_mX11_rule : Cond.selects (qb_nm mX11_rule).cls (qb_nm mX11_rule) (qb_nm mX11_rule) ∈ qb_wg := q87_in3 _ (List.mem_of_getElem? (i := 58) rfl)
theorem ql_mL_law_mX11_rule : Cond.methodLink (qb_nm mL_law).cls 48 (qb_nm mX11_rule) ∈ qb_wg := q87_in3 _ (List.mem_of_getElem? (i := 56) rfl)
theorem qe_mL_law_mX11_rule : qb_CV mL_law mX11_rule 48 2 := ⟨⟨qcw_mX11_rule, qci_mX11_rule, by decide +kernel, by decide +kernel, by decide +kernel⟩, ql_mL_law_mX11_rule, qsi_mX11_rule, qse_mX11_rule⟩
theorem qcw_mX10_land : Cond.code (qb_nm mX10_land) (qb_by mX10_land) (qb_ml mX10_land) (qb_rt mX10_land) ∈ qb_wg := q87_in1 _ (List.mem_of_getElem? (i := 53) rfl)
theorem qci_mX10_land : Cond.initialized (qb_nm mX10_land).cls ∈ qb_wg := q87_in0 _ (List.mem_of_getElem? (i := 0) rfl)
theorem qsi_mX10_land : Cond.instanceMethod (qb_nm mX10_land) ∈ qb_wg := q87_in1 _ (List.mem_of_getElem? (i := 51) rfl)
theorem qse_mX10_land : Cond.selects (qb_nm mX10_land).cls (qb_nm mX10_land) (qb_nm mX10_land) ∈ qb_wg := q87_in1 _ (List.mem_of_getElem? (i := 52) rfl)
theorem ql_mL_law_mX10_land : Cond.methodLink (qb_nm mL_law).cls 49 (qb_nm mX10_land) ∈ qb_wg := q87_in1 _ (List.mem_of_getElem? (i := 50) rfl)
theorem qe_mL_law_mX10_land : qb_CV mL_law mX10_land 49 5 := ⟨⟨qcw_mX10_land, qci_mX10_land, by decide +kernel, by decide +kernel, by decide +kernel⟩, ql_mL_law_mX10_land, qsi_mX10_land, qse_mX10_land⟩
theorem qcw_mX11_land : Cond.code (qb_nm mX11_land) (qb_by mX11_land) (qb_ml mX11_land) (qb_rt mX11_land) ∈ qb_wg := q87_in4 _ (List.mem_of_getElem? (i := 3) rfl)
theorem qci_mX11_land : Cond.initialized (qb_nm mX11_land).cls ∈ qb_wg := q87_in0 _ (List.mem_of_getElem? (i := 11) rfl)
theorem qsi_mX11_land : Cond.instanceMethod (qb_nm mX11_land) ∈ qb_wg := q87_in4 _ (List.mem_of_getElem? (i := 1) rfl)
theorem qse_mX11_land : Cond.selects (qb_nm mX11_land).cls (qb_nm mX11_land) (qb_nm mX11_land) ∈ qb_wg := q87_in4 _ (List.mem_of_getElem? (i := 2) rfl)
theorem ql_mL_law_mX11_land : Cond.methodLink (qb_nm mL_law).cls 53 (qb_nm mX11_land) ∈ qb_wg := q87_in4 _ (List.mem_of_getElem? (i := 0) rfl)
theorem qe_mL_law_mX11_land : qb_CV mL_law mX11_land 53 5 := ⟨⟨qcw_mX11_land, qci_mX11_land, by decide +kernel, by decide +kernel, by decide +kernel⟩, ql_mL_law_mX11_land, qsi_mX11_land, qse_mX11_land⟩
theorem qcw_mX10_lead : Cond.code (qb_nm mX10_lead) (qb_by mX10_lead) (qb_ml mX10_lead) (qb_rt mX10_lead) ∈ qb_wg := q87_in1 _ (List.mem_of_getElem? (i := 57) rfl)
theorem qci_mX10_lead : Cond.initialized (qb_nm mX10_lead).cls ∈ qb_wg := q87_in0 _ (List.mem_of_getElem? (i := 0) rfl)
theorem qsi_mX10_lead : Cond.instanceMethod (qb_nm mX10_lead) ∈ qb_wg := q87_in1 _ (List.mem_of_getElem? (i := 55) rfl)
theorem qse_mX10_lead : Cond.selects (qb_nm mX10_lead).cls (qb_nm mX10_lead) (qb_nm mX10_lead) ∈ qb_wg := q87_in1 _ (List.mem_of_getElem? (i := 56) rfl)
theorem ql_mL_law_mX10_lead : Cond.methodLink (qb_nm mL_law).cls 54 (qb_nm mX10_lead) ∈ qb_wg := q87_in1 _ (List.mem_of_getElem? (i := 54) rfl)
theorem qe_mL_law_mX10_lead : qb_CV mL_law mX10_lead 54 2 := ⟨⟨qcw_mX10_lead, qci_mX10_lead, by decide +kernel, by decide +kernel, by decide +kernel⟩, ql_mL_law_mX10_lead, qsi_mX10_lead, qse_mX10_lead⟩
theorem qcw_mX11_lead : Cond.code (qb_nm mX11_lead) (qb_by mX11_lead) (qb_ml mX11_lead) (qb_rt mX11_lead) ∈ qb_wg := q87_in4 _ (List.mem_of_getElem? (i := 7) rfl)
theorem qci_mX11_lead : Cond.initialized (qb_nm mX11_lead).cls ∈ qb_wg := q87_in0 _ (List.mem_of_getElem? (i := 11) rfl)
theorem qsi_mX11_lead : Cond.instanceMethod (qb_nm mX11_lead) ∈ qb_wg := q87_in4 _ (List.mem_of_getElem? (i := 5) rfl)
theorem qse_mX11_lead : Cond.selects (qb_nm mX11_lead).cls (qb_nm mX11_lead) (qb_nm mX11_lead) ∈ qb_wg := q87_in4 _ (List.mem_of_getElem? (i := 6) rfl)
theorem ql_mL_law_mX11_lead : Cond.methodLink (qb_nm mL_law).cls 57 (qb_nm mX11_lead) ∈ qb_wg := q87_in4 _ (List.mem_of_getElem? (i := 4) rfl)
theorem qe_mL_law_mX11_lead : qb_CV mL_law mX11_lead 57 2 := ⟨⟨qcw_mX11_lead, qci_mX11_lead, by decide +kernel, by decide +kernel, by decide +kernel⟩, ql_mL_law_mX11_lead, qsi_mX11_lead, qse_mX11_lead⟩
theorem qcw_mX10_landing : Cond.code (qb_nm mX10_landing) (qb_by mX10_landing) (qb_ml mX10_landing) (qb_rt mX10_landing) ∈ qb_wg := q87_in2 _ (List.mem_of_getElem? (i := 1) rfl)
theorem qci_mX10_landing : Cond.initialized (qb_nm mX10_landing).cls ∈ qb_wg := q87_in0 _ (List.mem_of_getElem? (i := 0) rfl)
theorem qsi_mX10_landing : Cond.instanceMethod (qb_nm mX10_landing) ∈ qb_wg := q87_in1 _ (List.mem_of_getElem? (i := 59) rfl)
theorem qse_mX10_landing : Cond.selects (qb_nm mX10_landing).cls (qb_nm mX10_landing) (qb_nm mX10_landing) ∈ qb_wg := q87_in2 _ (List.mem_of_getElem? (i := 0) rfl)
theorem ql_mL_law_mX10_landing : Cond.methodLink (qb_nm mL_law).cls 58 (qb_nm mX10_landing) ∈ qb_wg := q87_in1 _ (List.mem_of_getElem? (i := 58) rfl)
theorem qe_mL_law_mX10_landing : qb_CV mL_law mX10_landing 58 2 := ⟨⟨qcw_mX10_landing, qci_mX10_landing, by decide +kernel, by decide +kernel, by decide +kernel⟩, ql_mL_law_mX10_landing, qsi_mX10_landing, qse_mX10_landing⟩
theorem qcw_mX11_landing : Cond.code (qb_nm mX11_landing) (qb_by mX11_landing) (qb_ml mX11_landing) (qb_rt mX11_landing) ∈ qb_wg := q87_in4 _ (List.mem_of_getElem? (i := 11) rfl)
theorem qci_mX11_landing : Cond.initialized (qb_nm mX11_landing).cls ∈ qb_wg := q87_in0 _ (List.mem_of_getElem? (i := 11) rfl)
theorem qsi_mX11_landing : Cond.instanceMethod (qb_nm mX11_landing) ∈ qb_wg := q87_in4 _ (List.mem_of_getElem? (i := 9) rfl)
theorem qse_mX11_landing : Cond.selects (qb_nm mX11_landing).cls (qb_nm mX11_landing) (qb_nm mX11_landing) ∈ qb_wg := q87_in4 _ (List.mem_of_getElem? (i := 10) rfl)
theorem ql_mL_law_mX11_landing : Cond.methodLink (qb_nm mL_law).cls 61 (qb_nm mX11_landing) ∈ qb_wg := q87_in4 _ (List.mem_of_getElem? (i := 8) rfl)
theorem qe_mL_law_mX11_landing : qb_CV mL_law mX11_landing 61 2 := ⟨⟨qcw_mX11_landing, qci_mX11_landing, by decide +kernel, by decide +kernel, by decide +kernel⟩, ql_mL_law_mX11_landing, qsi_mX11_landing, qse_mX11_landing⟩
theorem qcw_mX10_salt : Cond.code (qb_nm mX10_salt) (qb_by mX10_salt) (qb_ml mX10_salt) (qb_rt mX10_salt) ∈ qb_wg := q87_in2 _ (List.mem_of_getElem? (i := 5) rfl)
theorem qci_mX10_salt : Cond.initialized (qb_nm mX10_salt).cls ∈ qb_wg := q87_in0 _ (List.mem_of_getElem? (i := 0) rfl)
theorem qsi_mX10_salt : Cond.instanceMethod (qb_nm mX10_salt) ∈ qb_wg := q87_in2 _ (List.mem_of_getElem? (i := 3) rfl)
theorem qse_mX10_salt : Cond.selects (qb_nm mX10_salt).cls (qb_nm mX10_salt) (qb_nm mX10_salt) ∈ qb_wg := q87_in2 _ (List.mem_of_getElem? (i := 4) rfl)
theorem ql_mL_law_mX10_salt : Cond.methodLink (qb_nm mL_law).cls 62 (qb_nm mX10_salt) ∈ qb_wg := q87_in2 _ (List.mem_of_getElem? (i := 2) rfl)
theorem qe_mL_law_mX10_salt : qb_CV mL_law mX10_salt 62 4 := ⟨⟨qcw_mX10_salt, qci_mX10_salt, by decide +kernel, by decide +kernel, by decide +kernel⟩, ql_mL_law_mX10_salt, qsi_mX10_salt, qse_mX10_salt⟩
theorem qcw_mX11_salt : Cond.code (qb_nm mX11_salt) (qb_by mX11_salt) (qb_ml mX11_salt) (qb_rt mX11_salt) ∈ qb_wg := q87_in4 _ (List.mem_of_getElem? (i := 15) rfl)
theorem qci_mX11_salt : Cond.initialized (qb_nm mX11_salt).cls ∈ qb_wg := q87_in0 _ (List.mem_of_getElem? (i := 11) rfl)
theorem qsi_mX11_salt : Cond.instanceMethod (qb_nm mX11_salt) ∈ qb_wg := q87_in4 _ (List.mem_of_getElem? (i := 13) rfl)
theorem qse_mX11_salt : Cond.selects (qb_nm mX11_salt).cls (qb_nm mX11_salt) (qb_nm mX11_salt) ∈ qb_wg := q87_in4 _ (List.mem_of_getElem? (i := 14) rfl)
theorem ql_mL_law_mX11_salt : Cond.methodLink (qb_nm mL_law).cls 66 (qb_nm mX11_salt) ∈ qb_wg := q87_in4 _ (List.mem_of_getElem? (i := 12) rfl)
theorem qe_mL_law_mX11_salt : qb_CV mL_law mX11_salt 66 4 := ⟨⟨qcw_mX11_salt, qci_mX11_salt, by decide +kernel, by decide +kernel, by decide +kernel⟩, ql_mL_law_mX11_salt, qsi_mX11_salt, qse_mX11_salt⟩
theorem qcw_mX10_barrel : Cond.code (qb_nm mX10_barrel) (qb_by mX10_barrel) (qb_ml mX10_barrel) (qb_rt mX10_barrel) ∈ qb_wg := q87_in2 _ (List.mem_of_getElem? (i := 9) rfl)
theorem qci_mX10_barrel : Cond.initialized (qb_nm mX10_barrel).cls ∈ qb_wg := q87_in0 _ (List.mem_of_getElem? (i := 0) rfl)
theorem qsi_mX10_barrel : Cond.instanceMethod (qb_nm mX10_barrel) ∈ qb_wg := q87_in2 _ (List.mem_of_getElem? (i := 7) rfl)
theorem qse_mX10_barrel : Cond.selects (qb_nm mX10_barrel).cls (qb_nm mX10_barrel) (qb_nm mX10_barrel) ∈ qb_wg := q87_in2 _ (List.mem_of_getElem? (i := 8) rfl)
theorem ql_mL_law_mX10_barrel : Cond.methodLink (qb_nm mL_law).cls 67 (qb_nm mX10_barrel) ∈ qb_wg := q87_in2 _ (List.mem_of_getElem? (i := 6) rfl)
theorem qe_mL_law_mX10_barrel : qb_CV mL_law mX10_barrel 67 3 := ⟨⟨qcw_mX10_barrel, qci_mX10_barrel, by decide +kernel, by decide +kernel, by decide +kernel⟩, ql_mL_law_mX10_barrel, qsi_mX10_barrel, qse_mX10_barrel⟩
theorem qcw_mX11_barrel : Cond.code (qb_nm mX11_barrel) (qb_by mX11_barrel) (qb_ml mX11_barrel) (qb_rt mX11_barrel) ∈ qb_wg := q87_in4 _ (List.mem_of_getElem? (i := 23) rfl)
theorem qci_mX11_barrel : Cond.initialized (qb_nm mX11_barrel).cls ∈ qb_wg := q87_in0 _ (List.mem_of_getElem? (i := 11) rfl)
theorem qsi_mX11_barrel : Cond.instanceMethod (qb_nm mX11_barrel) ∈ qb_wg := q87_in4 _ (List.mem_of_getElem? (i := 21) rfl)
theorem qse_mX11_barrel : Cond.selects (qb_nm mX11_barrel).cls (qb_nm mX11_barrel) (qb_nm mX11_barrel) ∈ qb_wg := q87_in4 _ (List.mem_of_getElem? (i := 22) rfl)
theorem ql_mL_law_mX11_barrel : Cond.methodLink (qb_nm mL_law).cls 70 (qb_nm mX11_barrel) ∈ qb_wg := q87_in4 _ (List.mem_of_getElem? (i := 20) rfl)
theorem qe_mL_law_mX11_barrel : qb_CV mL_law mX11_barrel 70 3 := ⟨⟨qcw_mX11_barrel, qci_mX11_barrel, by decide +kernel, by decide +kernel, by decide +kernel⟩, ql_mL_law_mX11_barrel, qsi_mX11_barrel, qse_mX11_barrel⟩
theorem qcw_mX10_filled : Cond.code (qb_nm mX10_filled) (qb_by mX10_filled) (qb_ml mX10_filled) (qb_rt mX10_filled) ∈ qb_wg := q87_in2 _ (List.mem_of_getElem? (i := 13) rfl)
theorem qci_mX10_filled : Cond.initialized (qb_nm mX10_filled).cls ∈ qb_wg := q87_in0 _ (List.mem_of_getElem? (i := 0) rfl)
theorem qsi_mX10_filled : Cond.instanceMethod (qb_nm mX10_filled) ∈ qb_wg := q87_in2 _ (List.mem_of_getElem? (i := 11) rfl)
theorem qse_mX10_filled : Cond.selects (qb_nm mX10_filled).cls (qb_nm mX10_filled) (qb_nm mX10_filled) ∈ qb_wg := q87_in2 _ (List.mem_of_getElem? (i := 12) rfl)
theorem ql_mL_law_mX10_filled : Cond.methodLink (qb_nm mL_law).cls 71 (qb_nm mX10_filled) ∈ qb_wg := q87_in2 _ (List.mem_of_getElem? (i := 10) rfl)
theorem qe_mL_law_mX10_filled : qb_CV mL_law mX10_filled 71 4 := ⟨⟨qcw_mX10_filled, qci_mX10_filled, by decide +kernel, by decide +kernel, by decide +kernel⟩, ql_mL_law_mX10_filled, qsi_mX10_filled, qse_mX10_filled⟩
theorem qcw_mX11_filled : Cond.code (qb_nm mX11_filled) (qb_by mX11_filled) (qb_ml mX11_filled) (qb_rt mX11_filled) ∈ qb_wg := q87_in4 _ (List.mem_of_getElem? (i := 27) rfl)
theorem qci_mX11_filled : Cond.initialized (qb_nm mX11_filled).cls ∈ qb_wg := q87_in0 _ (List.mem_of_getElem? (i := 11) rfl)
theorem qsi_mX11_filled : Cond.instanceMethod (qb_nm mX11_filled) ∈ qb_wg := q87_in4 _ (List.mem_of_getElem? (i := 25) rfl)
theorem qse_mX11_filled : Cond.selects (qb_nm mX11_filled).cls (qb_nm mX11_filled) (qb_nm mX11_filled) ∈ qb_wg := q87_in4 _ (List.mem_of_getElem? (i := 26) rfl)
theorem ql_mL_law_mX11_filled : Cond.methodLink (qb_nm mL_law).cls 74 (qb_nm mX11_filled) ∈ qb_wg := q87_in4 _ (List.mem_of_getElem? (i := 24) rfl)
theorem qe_mL_law_mX11_filled : qb_CV mL_law mX11_filled 74 4 := ⟨⟨qcw_mX11_filled, qci_mX11_filled, by decide +kernel, by decide +kernel, by decide +kernel⟩, ql_mL_law_mX11_filled, qsi_mX11_filled, qse_mX11_filled⟩
theorem qcw_mX10_open : Cond.code (qb_nm mX10_open) (qb_by mX10_open) (qb_ml mX10_open) (qb_rt mX10_open) ∈ qb_wg := q87_in2 _ (List.mem_of_getElem? (i := 17) rfl)
theorem qci_mX10_open : Cond.initialized (qb_nm mX10_open).cls ∈ qb_wg := q87_in0 _ (List.mem_of_getElem? (i := 0) rfl)
theorem qsi_mX10_open : Cond.instanceMethod (qb_nm mX10_open) ∈ qb_wg := q87_in2 _ (List.mem_of_getElem? (i := 15) rfl)
theorem qse_mX10_open : Cond.selects (qb_nm mX10_open).cls (qb_nm mX10_open) (qb_nm mX10_open) ∈ qb_wg := q87_in2 _ (List.mem_of_getElem? (i := 16) rfl)
theorem ql_mL_law_mX10_open : Cond.methodLink (qb_nm mL_law).cls 75 (qb_nm mX10_open) ∈ qb_wg := q87_in2 _ (List.mem_of_getElem? (i := 14) rfl)
theorem qe_mL_law_mX10_open : qb_CV mL_law mX10_open 75 3 := ⟨⟨qcw_mX10_open, qci_mX10_open, by decide +kernel, by decide +kernel, by decide +kernel⟩, ql_mL_law_mX10_open, qsi_mX10_open, qse_mX10_open⟩
theorem qcw_mX11_open : Cond.code (qb_nm mX11_open) (qb_by mX11_open) (qb_ml mX11_open) (qb_rt mX11_open) ∈ qb_wg := q87_in4 _ (List.mem_of_getElem? (i := 31) rfl)
theorem qci_mX11_open : Cond.initialized (qb_nm mX11_open).cls ∈ qb_wg := q87_in0 _ (List.mem_of_getElem? (i := 11) rfl)
theorem qsi_mX11_open : Cond.instanceMethod (qb_nm mX11_open) ∈ qb_wg := q87_in4 _ (List.mem_of_getElem? (i := 29) rfl)
theorem qse_mX11_open : Cond.selects (qb_nm mX11_open).cls (qb_nm mX11_open) (qb_nm mX11_open) ∈ qb_wg := q87_in4 _ (List.mem_of_getElem? (i := 30) rfl)
theorem ql_mL_law_mX11_open : Cond.methodLink (qb_nm mL_law).cls 78 (qb_nm mX11_open) ∈ qb_wg := q87_in4 _ (List.mem_of_getElem? (i := 28) rfl)
theorem qe_mL_law_mX11_open : qb_CV mL_law mX11_open 78 3 := ⟨⟨qcw_mX11_open, qci_mX11_open, by decide +kernel, by decide +kernel, by decide +kernel⟩, ql_mL_law_mX11_open, qsi_mX11_open, qse_mX11_open⟩
theorem qcw_mX10_judge : Cond.code (qb_nm mX10_judge) (qb_by mX10_judge) (qb_ml mX10_judge) (qb_rt mX10_judge) ∈ qb_wg := q87_in2 _ (List.mem_of_getElem? (i := 21) rfl)
theorem qci_mX10_judge : Cond.initialized (qb_nm mX10_judge).cls ∈ qb_wg := q87_in0 _ (List.mem_of_getElem? (i := 0) rfl)
theorem qsi_mX10_judge : Cond.instanceMethod (qb_nm mX10_judge) ∈ qb_wg := q87_in2 _ (List.mem_of_getElem? (i := 19) rfl)
theorem qse_mX10_judge : Cond.selects (qb_nm mX10_judge).cls (qb_nm mX10_judge) (qb_nm mX10_judge) ∈ qb_wg := q87_in2 _ (List.mem_of_getElem? (i := 20) rfl)
theorem ql_mL_law_mX10_judge : Cond.methodLink (qb_nm mL_law).cls 79 (qb_nm mX10_judge) ∈ qb_wg := q87_in2 _ (List.mem_of_getElem? (i := 18) rfl)
theorem qe_mL_law_mX10_judge : qb_CV mL_law mX10_judge 79 4 := ⟨⟨qcw_mX10_judge, qci_mX10_judge, by decide +kernel, by decide +kernel, by decide +kernel⟩, ql_mL_law_mX10_judge, qsi_mX10_judge, qse_mX10_judge⟩
theorem qcw_mX11_judge : Cond.code (qb_nm mX11_judge) (qb_by mX11_judge) (qb_ml mX11_judge) (qb_rt mX11_judge) ∈ qb_wg := q87_in4 _ (List.mem_of_getElem? (i := 35) rfl)
theorem qci_mX11_judge : Cond.initialized (qb_nm mX11_judge).cls ∈ qb_wg := q87_in0 _ (List.mem_of_getElem? (i := 11) rfl)
theorem qsi_mX11_judge : Cond.instanceMethod (qb_nm mX11_judge) ∈ qb_wg := q87_in4 _ (List.mem_of_getElem? (i := 33) rfl)
theorem qse_mX11_judge : Cond.selects (qb_nm mX11_judge).cls (qb_nm mX11_judge) (qb_nm mX11_judge) ∈ qb_wg := q87_in4 _ (List.mem_of_getElem? (i := 34) rfl)
theorem ql_mL_law_mX11_judge : Cond.methodLink (qb_nm mL_law).cls 83 (qb_nm mX11_judge) ∈ qb_wg := q87_in4 _ (List.mem_of_getElem? (i := 32) rfl)
theorem qe_mL_law_mX11_judge : qb_CV mL_law mX11_judge 83 4 := ⟨⟨qcw_mX11_judge, qci_mX11_judge, by decide +kernel, by decide +kernel, by decide +kernel⟩, ql_mL_law_mX11_judge, qsi_mX11_judge, qse_mX11_judge⟩
theorem qcw_mX10_absolve : Cond.code (qb_nm mX10_absolve) (qb_by mX10_absolve) (qb_ml mX10_absolve) (qb_rt mX10_absolve) ∈ qb_wg := q87_in2 _ (List.mem_of_getElem? (i := 25) rfl)
theorem qci_mX10_absolve : Cond.initialized (qb_nm mX10_absolve).cls ∈ qb_wg := q87_in0 _ (List.mem_of_getElem? (i := 0) rfl)
theorem qsi_mX10_absolve : Cond.instanceMethod (qb_nm mX10_absolve) ∈ qb_wg := q87_in2 _ (List.mem_of_getElem? (i := 23) rfl)
theorem qse_mX10_absolve : Cond.selects (qb_nm mX10_absolve).cls (qb_nm mX10_absolve) (qb_nm mX10_absolve) ∈ qb_wg := q87_in2 _ (List.mem_of_getElem? (i := 24) rfl)
theorem ql_mL_law_mX10_absolve : Cond.methodLink (qb_nm mL_law).cls 84 (qb_nm mX10_absolve) ∈ qb_wg := q87_in2 _ (List.mem_of_getElem? (i := 22) rfl)
theorem qe_mL_law_mX10_absolve : qb_CV mL_law mX10_absolve 84 0 := ⟨⟨qcw_mX10_absolve, qci_mX10_absolve, by decide +kernel, by decide +kernel, by decide +kernel⟩, ql_mL_law_mX10_absolve, qsi_mX10_absolve, qse_mX10_absolve⟩
theorem qcw_mX11_absolve : Cond.code (qb_nm mX11_absolve) (qb_by mX11_absolve) (qb_ml mX11_absolve) (qb_rt mX11_absolve) ∈ qb_wg := q87_in4 _ (List.mem_of_getElem? (i := 39) rfl)
theorem qci_mX11_absolve : Cond.initialized (qb_nm mX11_absolve).cls ∈ qb_wg := q87_in0 _ (List.mem_of_getElem? (i := 11) rfl)
theorem qsi_mX11_absolve : Cond.instanceMethod (qb_nm mX11_absolve) ∈ qb_wg := q87_in4 _ (List.mem_of_getElem? (i := 37) rfl)
theorem qse_mX11_absolve : Cond.selects (qb_nm mX11_absolve).cls (qb_nm mX11_absolve) (qb_nm mX11_absolve) ∈ qb_wg := q87_in4 _ (List.mem_of_getElem? (i := 38) rfl)
theorem ql_mL_law_mX11_absolve : Cond.methodLink (qb_nm mL_law).cls 87 (qb_nm mX11_absolve) ∈ qb_wg := q87_in4 _ (List.mem_of_getElem? (i := 36) rfl)
theorem qe_mL_law_mX11_absolve : qb_CV mL_law mX11_absolve 87 0 := ⟨⟨qcw_mX11_absolve, qci_mX11_absolve, by decide +kernel, by decide +kernel, by decide +kernel⟩, ql_mL_law_mX11_absolve, qsi_mX11_absolve, qse_mX11_absolve⟩
theorem qcw_mX10_cause : Cond.code (qb_nm mX10_cause) (qb_by mX10_cause) (qb_ml mX10_cause) (qb_rt mX10_cause) ∈ qb_wg := q87_in2 _ (List.mem_of_getElem? (i := 29) rfl)
theorem qci_mX10_cause : Cond.initialized (qb_nm mX10_cause).cls ∈ qb_wg := q87_in0 _ (List.mem_of_getElem? (i := 0) rfl)
theorem qsi_mX10_cause : Cond.instanceMethod (qb_nm mX10_cause) ∈ qb_wg := q87_in2 _ (List.mem_of_getElem? (i := 27) rfl)
theorem qse_mX10_cause : Cond.selects (qb_nm mX10_cause).cls (qb_nm mX10_cause) (qb_nm mX10_cause) ∈ qb_wg := q87_in2 _ (List.mem_of_getElem? (i := 28) rfl)
theorem ql_mL_law_mX10_cause : Cond.methodLink (qb_nm mL_law).cls 88 (qb_nm mX10_cause) ∈ qb_wg := q87_in2 _ (List.mem_of_getElem? (i := 26) rfl)
theorem qe_mL_law_mX10_cause : qb_CV mL_law mX10_cause 88 1 := ⟨⟨qcw_mX10_cause, qci_mX10_cause, by decide +kernel, by decide +kernel, by decide +kernel⟩, ql_mL_law_mX10_cause, qsi_mX10_cause, qse_mX10_cause⟩
theorem qcw_mX11_cause : Cond.code (qb_nm mX11_cause) (qb_by mX11_cause) (qb_ml mX11_cause) (qb_rt mX11_cause) ∈ qb_wg := q87_in4 _ (List.mem_of_getElem? (i := 43) rfl)
theorem qci_mX11_cause : Cond.initialized (qb_nm mX11_cause).cls ∈ qb_wg := q87_in0 _ (List.mem_of_getElem? (i := 11) rfl)
theorem qsi_mX11_cause : Cond.instanceMethod (qb_nm mX11_cause) ∈ qb_wg := q87_in4 _ (List.mem_of_getElem? (i := 41) rfl)
theorem qse_mX11_cause : Cond.selects (qb_nm mX11_cause).cls (qb_nm mX11_cause) (qb_nm mX11_cause) ∈ qb_wg := q87_in4 _ (List.mem_of_getElem? (i := 42) rfl)
theorem ql_mL_law_mX11_cause : Cond.methodLink (qb_nm mL_law).cls 91 (qb_nm mX11_cause) ∈ qb_wg := q87_in4 _ (List.mem_of_getElem? (i := 40) rfl)
theorem qe_mL_law_mX11_cause : qb_CV mL_law mX11_cause 91 1 := ⟨⟨qcw_mX11_cause, qci_mX11_cause, by decide +kernel, by decide +kernel, by decide +kernel⟩, ql_mL_law_mX11_cause, qsi_mX11_cause, qse_mX11_cause⟩
theorem qcw_mX10_explained : Cond.code (qb_nm mX10_explained) (qb_by mX10_explained) (qb_ml mX10_explained) (qb_rt mX10_explained) ∈ qb_wg := q87_in2 _ (List.mem_of_getElem? (i := 33) rfl)
theorem qci_mX10_explained : Cond.initialized (qb_nm mX10_explained).cls ∈ qb_wg := q87_in0 _ (List.mem_of_getElem? (i := 0) rfl)
theorem qsi_mX10_explained : Cond.instanceMethod (qb_nm mX10_explained) ∈ qb_wg := q87_in2 _ (List.mem_of_getElem? (i := 31) rfl)
theorem qse_mX10_explained : Cond.selects (qb_nm mX10_explained).cls (qb_nm mX10_explained) (qb_nm mX10_explained) ∈ qb_wg := q87_in2 _ (List.mem_of_getElem? (i := 32) rfl)
theorem ql_mL_law_mX10_explained : Cond.methodLink (qb_nm mL_law).cls 92 (qb_nm mX10_explained) ∈ qb_wg := q87_in2 _ (List.mem_of_getElem? (i := 30) rfl)
theorem qe_mL_law_mX10_explained : qb_CV mL_law mX10_explained 92 0 := ⟨⟨qcw_mX10_explained, qci_mX10_explained, by decide +kernel, by decide +kernel, by decide +kernel⟩, ql_mL_law_mX10_explained, qsi_mX10_explained, qse_mX10_explained⟩
theorem qcw_mX11_explained : Cond.code (qb_nm mX11_explained) (qb_by mX11_explained) (qb_ml mX11_explained) (qb_rt mX11_explained) ∈ qb_wg := q87_in4 _ (List.mem_of_getElem? (i := 47) rfl)
theorem qci_mX11_explained : Cond.initialized (qb_nm mX11_explained).cls ∈ qb_wg := q87_in0 _ (List.mem_of_getElem? (i := 11) rfl)
theorem qsi_mX11_explained : Cond.instanceMethod (qb_nm mX11_explained) ∈ qb_wg := q87_in4 _ (List.mem_of_getElem? (i := 45) rfl)
theorem qse_mX11_explained : Cond.selects (qb_nm mX11_explained).cls (qb_nm mX11_explained) (qb_nm mX11_explained) ∈ qb_wg := q87_in4 _ (List.mem_of_getElem? (i := 46) rfl)
theorem ql_mL_law_mX11_explained : Cond.methodLink (qb_nm mL_law).cls 95 (qb_nm mX11_explained) ∈ qb_wg := q87_in4 _ (List.mem_of_getElem? (i := 44) rfl)
theorem qe_mL_law_mX11_explained : qb_CV mL_law mX11_explained 95 0 := ⟨⟨qcw_mX11_explained, qci_mX11_explained, by decide +kernel, by decide +kernel, by decide +kernel⟩, ql_mL_law_mX11_explained, qsi_mX11_explained, qse_mX11_explained⟩
theorem qcw_mX10_rival : Cond.code (qb_nm mX10_rival) (qb_by mX10_rival) (qb_ml mX10_rival) (qb_rt mX10_rival) ∈ qb_wg := q87_in2 _ (List.mem_of_getElem? (i := 37) rfl)
theorem qci_mX10_rival : Cond.initialized (qb_nm mX10_rival).cls ∈ qb_wg := q87_in0 _ (List.mem_of_getElem? (i := 0) rfl)
theorem qsi_mX10_rival : Cond.instanceMethod (qb_nm mX10_rival) ∈ qb_wg := q87_in2 _ (List.mem_of_getElem? (i := 35) rfl)
theorem qse_mX10_rival : Cond.selects (qb_nm mX10_rival).cls (qb_nm mX10_rival) (qb_nm mX10_rival) ∈ qb_wg := q87_in2 _ (List.mem_of_getElem? (i := 36) rfl)
theorem ql_mL_law_mX10_rival : Cond.methodLink (qb_nm mL_law).cls 96 (qb_nm mX10_rival) ∈ qb_wg := q87_in2 _ (List.mem_of_getElem? (i := 34) rfl)
theorem qe_mL_law_mX10_rival : qb_CV mL_law mX10_rival 96 2 := ⟨⟨qcw_mX10_rival, qci_mX10_rival, by decide +kernel, by decide +kernel, by decide +kernel⟩, ql_mL_law_mX10_rival, qsi_mX10_rival, qse_mX10_rival⟩
theorem qcw_mX11_rival : Cond.code (qb_nm mX11_rival) (qb_by mX11_rival) (qb_ml mX11_rival) (qb_rt mX11_rival) ∈ qb_wg := q87_in4 _ (List.mem_of_getElem? (i := 51) rfl)
theorem qci_mX11_rival : Cond.initialized (qb_nm mX11_rival).cls ∈ qb_wg := q87_in0 _ (List.mem_of_getElem? (i := 11) rfl)
theorem qsi_mX11_rival : Cond.instanceMethod (qb_nm mX11_rival) ∈ qb_wg := q87_in4 _ (List.mem_of_getElem? (i := 49) rfl)
theorem qse_mX11_rival : Cond.selects (qb_nm mX11_rival).cls (qb_nm mX11_rival) (qb_nm mX11_rival) ∈ qb_wg := q87_in4 _ (List.mem_of_getElem? (i := 50) rfl)
theorem ql_mL_law_mX11_rival : Cond.methodLink (qb_nm mL_law).cls 99 (qb_nm mX11_rival) ∈ qb_wg := q87_in4 _ (List.mem_of_getElem? (i := 48) rfl)
theorem qe_mL_law_mX11_rival : qb_CV mL_law mX11_rival 99 2 := ⟨⟨qcw_mX11_rival, qci_mX11_rival, by decide +kernel, by decide +kernel, by decide +kernel⟩, ql_mL_law_mX11_rival, qsi_mX11_rival, qse_mX11_rival⟩
theorem qcw_mX10_engage : Cond.code (qb_nm mX10_engage) (qb_by mX10_engage) (qb_ml mX10_engage) (qb_rt mX10_engage) ∈ qb_wg := q87_in2 _ (List.mem_of_getElem? (i := 41) rfl)
theorem qci_mX10_engage : Cond.initialized (qb_nm mX10_engage).cls ∈ qb_wg := q87_in0 _ (List.mem_of_getElem? (i := 0) rfl)
theorem qsi_mX10_engage : Cond.instanceMethod (qb_nm mX10_engage) ∈ qb_wg := q87_in2 _ (List.mem_of_getElem? (i := 39) rfl)
theorem qse_mX10_engage : Cond.selects (qb_nm mX10_engage).cls (qb_nm mX10_engage) (qb_nm mX10_engage) ∈ qb_wg := q87_in2 _ (List.mem_of_getElem? (i := 40) rfl)
theorem ql_mL_law_mX10_engage : Cond.methodLink (qb_nm mL_law).cls 100 (qb_nm mX10_engage) ∈ qb_wg := q87_in2 _ (List.mem_of_getElem? (i := 38) rfl)
theorem qe_mL_law_mX10_engage : qb_CV mL_law mX10_engage 100 4 := ⟨⟨qcw_mX10_engage, qci_mX10_engage, by decide +kernel, by decide +kernel, by decide +kernel⟩, ql_mL_law_mX10_engage, qsi_mX10_engage, qse_mX10_engage⟩
theorem qcw_mX11_engage : Cond.code (qb_nm mX11_engage) (qb_by mX11_engage) (qb_ml mX11_engage) (qb_rt mX11_engage) ∈ qb_wg := q87_in4 _ (List.mem_of_getElem? (i := 55) rfl)
theorem qci_mX11_engage : Cond.initialized (qb_nm mX11_engage).cls ∈ qb_wg := q87_in0 _ (List.mem_of_getElem? (i := 11) rfl)
theorem qsi_mX11_engage : Cond.instanceMethod (qb_nm mX11_engage) ∈ qb_wg := q87_in4 _ (List.mem_of_getElem? (i := 53) rfl)
theorem qse_mX11_engage : Cond.selects (qb_nm mX11_engage).cls (qb_nm mX11_engage) (qb_nm mX11_engage) ∈ qb_wg := q87_in4 _ (List.mem_of_getElem? (i := 54) rfl)
theorem ql_mL_law_mX11_engage : Cond.methodLink (qb_nm mL_law).cls 103 (qb_nm mX11_engage) ∈ qb_wg := q87_in4 _ (List.mem_of_getElem? (i := 52) rfl)
theorem qe_mL_law_mX11_engage : qb_CV mL_law mX11_engage 103 4 := ⟨⟨qcw_mX11_engage, qci_mX11_engage, by decide +kernel, by decide +kernel, by decide +kernel⟩, ql_mL_law_mX11_engage, qsi_mX11_engage, qse_mX11_engage⟩
theorem qcw_mX10_free : Cond.code (qb_nm mX10_free) (qb_by mX10_free) (qb_ml mX10_free) (qb_rt mX10_free) ∈ qb_wg := q87_in2 _ (List.mem_of_getElem? (i := 45) rfl)
theorem qci_mX10_free : Cond.initialized (qb_nm mX10_free).cls ∈ qb_wg := q87_in0 _ (List.mem_of_getElem? (i := 0) rfl)
theorem qsi_mX10_free : Cond.instanceMethod (qb_nm mX10_free) ∈ qb_wg := q87_in2 _ (List.mem_of_getElem? (i := 43) rfl)
theorem qse_mX10_free : Cond.selects (qb_nm mX10_free).cls (qb_nm mX10_free) (qb_nm mX10_free) ∈ qb_wg := q87_in2 _ (List.mem_of_getElem? (i := 44) rfl)
theorem ql_mL_law_mX10_free : Cond.methodLink (qb_nm mL_law).cls 104 (qb_nm mX10_free) ∈ qb_wg := q87_in2 _ (List.mem_of_getElem? (i := 42) rfl)
theorem qe_mL_law_mX10_free : qb_CV mL_law mX10_free 104 3 := ⟨⟨qcw_mX10_free, qci_mX10_free, by decide +kernel, by decide +kernel, by decide +kernel⟩, ql_mL_law_mX10_free, qsi_mX10_free, qse_mX10_free⟩
theorem qcw_mX11_free : Cond.code (qb_nm mX11_free) (qb_by mX11_free) (qb_ml mX11_free) (qb_rt mX11_free) ∈ qb_wg := q87_in4 _ (List.mem_of_getElem? (i := 59) rfl)
theorem qci_mX11_free : Cond.initialized (qb_nm mX11_free).cls ∈ qb_wg := q87_in0 _ (List.mem_of_getElem? (i := 11) rfl)
theorem qsi_mX11_free : Cond.instanceMethod (qb_nm mX11_free) ∈ qb_wg := q87_in4 _ (List.mem_of_getElem? (i := 57) rfl)
theorem qse_mX11_free : Cond.selects (qb_nm mX11_free).cls (qb_nm mX11_free) (qb_nm mX11_free) ∈ qb_wg := q87_in4 _ (List.mem_of_getElem? (i := 58) rfl)
theorem ql_mL_law_mX11_free : Cond.methodLink (qb_nm mL_law).cls 107 (qb_nm mX11_free) ∈ qb_wg := q87_in4 _ (List.mem_of_getElem? (i := 56) rfl)
theorem qe_mL_law_mX11_free : qb_CV mL_law mX11_free 107 3 := ⟨⟨qcw_mX11_free, qci_mX11_free, by decide +kernel, by decide +kernel, by decide +kernel⟩, ql_mL_law_mX11_free, qsi_mX11_free, qse_mX11_free⟩
theorem qcw_mX10_freeOn : Cond.code (qb_nm mX10_freeOn) (qb_by mX10_freeOn) (qb_ml mX10_freeOn) (qb_rt mX10_freeOn) ∈ qb_wg := q87_in2 _ (List.mem_of_getElem? (i := 49) rfl)
theorem qci_mX10_freeOn : Cond.initialized (qb_nm mX10_freeOn).cls ∈ qb_wg := q87_in0 _ (List.mem_of_getElem? (i := 0) rfl)
theorem qsi_mX10_freeOn : Cond.instanceMethod (qb_nm mX10_freeOn) ∈ qb_wg := q87_in2 _ (List.mem_of_getElem? (i := 47) rfl)
theorem qse_mX10_freeOn : Cond.selects (qb_nm mX10_freeOn).cls (qb_nm mX10_freeOn) (qb_nm mX10_freeOn) ∈ qb_wg := q87_in2 _ (List.mem_of_getElem? (i := 48) rfl)
theorem ql_mL_law_mX10_freeOn : Cond.methodLink (qb_nm mL_law).cls 108 (qb_nm mX10_freeOn) ∈ qb_wg := q87_in2 _ (List.mem_of_getElem? (i := 46) rfl)
theorem qe_mL_law_mX10_freeOn : qb_CV mL_law mX10_freeOn 108 2 := ⟨⟨qcw_mX10_freeOn, qci_mX10_freeOn, by decide +kernel, by decide +kernel, by decide +kernel⟩, ql_mL_law_mX10_freeOn, qsi_mX10_freeOn, qse_mX10_freeOn⟩
theorem qcw_mX11_freeOn : Cond.code (qb_nm mX11_freeOn) (qb_by mX11_freeOn) (qb_ml mX11_freeOn) (qb_rt mX11_freeOn) ∈ qb_wg := q87_in5 _ (List.mem_of_getElem? (i := 3) rfl)
theorem qci_mX11_freeOn : Cond.initialized (qb_nm mX11_freeOn).cls ∈ qb_wg := q87_in0 _ (List.mem_of_getElem? (i := 11) rfl)
theorem qsi_mX11_freeOn : Cond.instanceMethod (qb_nm mX11_freeOn) ∈ qb_wg := q87_in5 _ (List.mem_of_getElem? (i := 1) rfl)
theorem qse_mX11_freeOn : Cond.selects (qb_nm mX11_freeOn).cls (qb_nm mX11_freeOn) (qb_nm mX11_freeOn) ∈ qb_wg := q87_in5 _ (List.mem_of_getElem? (i := 2) rfl)
theorem ql_mL_law_mX11_freeOn : Cond.methodLink (qb_nm mL_law).cls 111 (qb_nm mX11_freeOn) ∈ qb_wg := q87_in5 _ (List.mem_of_getElem? (i := 0) rfl)
theorem qe_mL_law_mX11_freeOn : qb_CV mL_law mX11_freeOn 111 2 := ⟨⟨qcw_mX11_freeOn, qci_mX11_freeOn, by decide +kernel, by decide +kernel, by decide +kernel⟩, ql_mL_law_mX11_freeOn, qsi_mX11_freeOn, qse_mX11_freeOn⟩
theorem qcw_mX10_cost : Cond.code (qb_nm mX10_cost) (qb_by mX10_cost) (qb_ml mX10_cost) (qb_rt mX10_cost) ∈ qb_wg := q87_in2 _ (List.mem_of_getElem? (i := 53) rfl)
theorem qci_mX10_cost : Cond.initialized (qb_nm mX10_cost).cls ∈ qb_wg := q87_in0 _ (List.mem_of_getElem? (i := 0) rfl)
theorem qsi_mX10_cost : Cond.instanceMethod (qb_nm mX10_cost) ∈ qb_wg := q87_in2 _ (List.mem_of_getElem? (i := 51) rfl)
theorem qse_mX10_cost : Cond.selects (qb_nm mX10_cost).cls (qb_nm mX10_cost) (qb_nm mX10_cost) ∈ qb_wg := q87_in2 _ (List.mem_of_getElem? (i := 52) rfl)
theorem ql_mL_law_mX10_cost : Cond.methodLink (qb_nm mL_law).cls 112 (qb_nm mX10_cost) ∈ qb_wg := q87_in2 _ (List.mem_of_getElem? (i := 50) rfl)
theorem qe_mL_law_mX10_cost : qb_CV mL_law mX10_cost 112 4 := ⟨⟨qcw_mX10_cost, qci_mX10_cost, by decide +kernel, by decide +kernel, by decide +kernel⟩, ql_mL_law_mX10_cost, qsi_mX10_cost, qse_mX10_cost⟩
theorem qcw_mX11_cost : Cond.code (qb_nm mX11_cost) (qb_by mX11_cost) (qb_ml mX11_cost) (qb_rt mX11_cost) ∈ qb_wg := q87_in5 _ (List.mem_of_getElem? (i := 7) rfl)
theorem qci_mX11_cost : Cond.initialized (qb_nm mX11_cost).cls ∈ qb_wg := q87_in0 _ (List.mem_of_getElem? (i := 11) rfl)
theorem qsi_mX11_cost : Cond.instanceMethod (qb_nm mX11_cost) ∈ qb_wg := q87_in5 _ (List.mem_of_getElem? (i := 5) rfl)
theorem qse_mX11_cost : Cond.selects (qb_nm mX11_cost).cls (qb_nm mX11_cost) (qb_nm mX11_cost) ∈ qb_wg := q87_in5 _ (List.mem_of_getElem? (i := 6) rfl)
theorem ql_mL_law_mX11_cost : Cond.methodLink (qb_nm mL_law).cls 115 (qb_nm mX11_cost) ∈ qb_wg := q87_in5 _ (List.mem_of_getElem? (i := 4) rfl)
theorem qe_mL_law_mX11_cost : qb_CV mL_law mX11_cost 115 4 := ⟨⟨qcw_mX11_cost, qci_mX11_cost, by decide +kernel, by decide +kernel, by decide +kernel⟩, ql_mL_law_mX11_cost, qsi_mX11_cost, qse_mX11_cost⟩
theorem qcw_mX10_account : Cond.code (qb_nm mX10_account) (qb_by mX10_account) (qb_ml mX10_account) (qb_rt mX10_account) ∈ qb_wg := q87_in2 _ (List.mem_of_getElem? (i := 57) rfl)
theorem qci_mX10_account : Cond.initialized (qb_nm mX10_account).cls ∈ qb_wg := q87_in0 _ (List.mem_of_getElem? (i := 0) rfl)
theorem qsi_mX10_account : Cond.instanceMethod (qb_nm mX10_account) ∈ qb_wg := q87_in2 _ (List.mem_of_getElem? (i := 55) rfl)
theorem qse_mX10_account : Cond.selects (qb_nm mX10_account).cls (qb_nm mX10_account) (qb_nm mX10_account) ∈ qb_wg := q87_in2 _ (List.mem_of_getElem? (i := 56) rfl)
theorem ql_mL_law_mX10_account : Cond.methodLink (qb_nm mL_law).cls 116 (qb_nm mX10_account) ∈ qb_wg := q87_in2 _ (List.mem_of_getElem? (i := 54) rfl)
theorem qe_mL_law_mX10_account : qb_CV mL_law mX10_account 116 3 := ⟨⟨qcw_mX10_account, qci_mX10_account, by decide +kernel, by decide +kernel, by decide +kernel⟩, ql_mL_law_mX10_account, qsi_mX10_account, qse_mX10_account⟩
theorem qcw_mX11_account : Cond.code (qb_nm mX11_account) (qb_by mX11_account) (qb_ml mX11_account) (qb_rt mX11_account) ∈ qb_wg := q87_in5 _ (List.mem_of_getElem? (i := 11) rfl)
theorem qci_mX11_account : Cond.initialized (qb_nm mX11_account).cls ∈ qb_wg := q87_in0 _ (List.mem_of_getElem? (i := 11) rfl)
theorem qsi_mX11_account : Cond.instanceMethod (qb_nm mX11_account) ∈ qb_wg := q87_in5 _ (List.mem_of_getElem? (i := 9) rfl)
theorem qse_mX11_account : Cond.selects (qb_nm mX11_account).cls (qb_nm mX11_account) (qb_nm mX11_account) ∈ qb_wg := q87_in5 _ (List.mem_of_getElem? (i := 10) rfl)
theorem ql_mL_law_mX11_account : Cond.methodLink (qb_nm mL_law).cls 119 (qb_nm mX11_account) ∈ qb_wg := q87_in5 _ (List.mem_of_getElem? (i := 8) rfl)
theorem qe_mL_law_mX11_account : qb_CV mL_law mX11_account 119 3 := ⟨⟨qcw_mX11_account, qci_mX11_account, by decide +kernel, by decide +kernel, by decide +kernel⟩, ql_mL_law_mX11_account, qsi_mX11_account, qse_mX11_account⟩
theorem qcw_mX10_spread : Cond.code (qb_nm mX10_spread) (qb_by mX10_spread) (qb_ml mX10_spread) (qb_rt mX10_spread) ∈ qb_wg := q87_in3 _ (List.mem_of_getElem? (i := 1) rfl)
theorem qci_mX10_spread : Cond.initialized (qb_nm mX10_spread).cls ∈ qb_wg := q87_in0 _ (List.mem_of_getElem? (i := 0) rfl)
theorem qsi_mX10_spread : Cond.instanceMethod (qb_nm mX10_spread) ∈ qb_wg := q87_in2 _ (List.mem_of_getElem? (i := 59) rfl)
theorem qse_mX10_spread : Cond.selects (qb_nm mX10_spread).cls (qb_nm mX10_spread) (qb_nm mX10_spread) ∈ qb_wg := q87_in3 _ (List.mem_of_getElem? (i := 0) rfl)
theorem ql_mL_law_mX10_spread : Cond.methodLink (qb_nm mL_law).cls 120 (qb_nm mX10_spread) ∈ qb_wg := q87_in2 _ (List.mem_of_getElem? (i := 58) rfl)
theorem qe_mL_law_mX10_spread : qb_CV mL_law mX10_spread 120 1 := ⟨⟨qcw_mX10_spread, qci_mX10_spread, by decide +kernel, by decide +kernel, by decide +kernel⟩, ql_mL_law_mX10_spread, qsi_mX10_spread, qse_mX10_spread⟩
theorem qcw_mX11_spread : Cond.code (qb_nm mX11_spread) (qb_by mX11_spread) (qb_ml mX11_spread) (qb_rt mX11_spread) ∈ qb_wg := q87_in5 _ (List.mem_of_getElem? (i := 15) rfl)
theorem qci_mX11_spread : Cond.initialized (qb_nm mX11_spread).cls ∈ qb_wg := q87_in0 _ (List.mem_of_getElem? (i := 11) rfl)
theorem qsi_mX11_spread : Cond.instanceMethod (qb_nm mX11_spread) ∈ qb_wg := q87_in5 _ (List.mem_of_getElem? (i := 13) rfl)
theorem qse_mX11_spread : Cond.selects (qb_nm mX11_spread).cls (qb_nm mX11_spread) (qb_nm mX11_spread) ∈ qb_wg := q87_in5 _ (List.mem_of_getElem? (i := 14) rfl)
theorem ql_mL_law_mX11_spread : Cond.methodLink (qb_nm mL_law).cls 123 (qb_nm mX11_spread) ∈ qb_wg := q87_in5 _ (List.mem_of_getElem? (i := 12) rfl)
theorem qe_mL_law_mX11_spread : qb_CV mL_law mX11_spread 123 1 := ⟨⟨qcw_mX11_spread, qci_mX11_spread, by decide +kernel, by decide +kernel, by decide +kernel⟩, ql_mL_law_mX11_spread, qsi_mX11_spread, qse_mX11_spread⟩
theorem qcw_mX10_settle : Cond.code (qb_nm mX10_settle) (qb_by mX10_settle) (qb_ml mX10_settle) (qb_rt mX10_settle) ∈ qb_wg := q87_in3 _ (List.mem_of_getElem? (i := 5) rfl)
theorem qci_mX10_settle : Cond.initialized (qb_nm mX10_settle).cls ∈ qb_wg := q87_in0 _ (List.mem_of_getElem? (i := 0) rfl)
theorem qsi_mX10_settle : Cond.instanceMethod (qb_nm mX10_settle) ∈ qb_wg := q87_in3 _ (List.mem_of_getElem? (i := 3) rfl)
theorem qse_mX10_settle : Cond.selects (qb_nm mX10_settle).cls (qb_nm mX10_settle) (qb_nm mX10_settle) ∈ qb_wg := q87_in3 _ (List.mem_of_getElem? (i := 4) rfl)
theorem ql_mL_law_mX10_settle : Cond.methodLink (qb_nm mL_law).cls 124 (qb_nm mX10_settle) ∈ qb_wg := q87_in3 _ (List.mem_of_getElem? (i := 2) rfl)
theorem qe_mL_law_mX10_settle : qb_CV mL_law mX10_settle 124 0 := ⟨⟨qcw_mX10_settle, qci_mX10_settle, by decide +kernel, by decide +kernel, by decide +kernel⟩, ql_mL_law_mX10_settle, qsi_mX10_settle, qse_mX10_settle⟩
theorem qcw_mX11_settle : Cond.code (qb_nm mX11_settle) (qb_by mX11_settle) (qb_ml mX11_settle) (qb_rt mX11_settle) ∈ qb_wg := q87_in5 _ (List.mem_of_getElem? (i := 19) rfl)
theorem qci_mX11_settle : Cond.initialized (qb_nm mX11_settle).cls ∈ qb_wg := q87_in0 _ (List.mem_of_getElem? (i := 11) rfl)
theorem qsi_mX11_settle : Cond.instanceMethod (qb_nm mX11_settle) ∈ qb_wg := q87_in5 _ (List.mem_of_getElem? (i := 17) rfl)
theorem qse_mX11_settle : Cond.selects (qb_nm mX11_settle).cls (qb_nm mX11_settle) (qb_nm mX11_settle) ∈ qb_wg := q87_in5 _ (List.mem_of_getElem? (i := 18) rfl)
theorem ql_mL_law_mX11_settle : Cond.methodLink (qb_nm mL_law).cls 127 (qb_nm mX11_settle) ∈ qb_wg := q87_in5 _ (List.mem_of_getElem? (i := 16) rfl)
theorem qe_mL_law_mX11_settle : qb_CV mL_law mX11_settle 127 0 := ⟨⟨qcw_mX11_settle, qci_mX11_settle, by decide +kernel, by decide +kernel, by decide +kernel⟩, ql_mL_law_mX11_settle, qsi_mX11_settle, qse_mX11_settle⟩
theorem qcw_mX10_ship : Cond.code (qb_nm mX10_ship) (qb_by mX10_ship) (qb_ml mX10_ship) (qb_rt mX10_ship) ∈ qb_wg := q87_in3 _ (List.mem_of_getElem? (i := 9) rfl)
theorem qci_mX10_ship : Cond.initialized (qb_nm mX10_ship).cls ∈ qb_wg := q87_in0 _ (List.mem_of_getElem? (i := 0) rfl)
theorem qsi_mX10_ship : Cond.instanceMethod (qb_nm mX10_ship) ∈ qb_wg := q87_in3 _ (List.mem_of_getElem? (i := 7) rfl)
theorem qse_mX10_ship : Cond.selects (qb_nm mX10_ship).cls (qb_nm mX10_ship) (qb_nm mX10_ship) ∈ qb_wg := q87_in3 _ (List.mem_of_getElem? (i := 8) rfl)
theorem ql_mL_law_mX10_ship : Cond.methodLink (qb_nm mL_law).cls 128 (qb_nm mX10_ship) ∈ qb_wg := q87_in3 _ (List.mem_of_getElem? (i := 6) rfl)
theorem qe_mL_law_mX10_ship : qb_CV mL_law mX10_ship 128 3 := ⟨⟨qcw_mX10_ship, qci_mX10_ship, by decide +kernel, by decide +kernel, by decide +kernel⟩, ql_mL_law_mX10_ship, qsi_mX10_ship, qse_mX10_ship⟩
theorem qcw_mX11_ship : Cond.code (qb_nm mX11_ship) (qb_by mX11_ship) (qb_ml mX11_ship) (qb_rt mX11_ship) ∈ qb_wg := q87_in5 _ (List.mem_of_getElem? (i := 23) rfl)
theorem qci_mX11_ship : Cond.initialized (qb_nm mX11_ship).cls ∈ qb_wg := q87_in0 _ (List.mem_of_getElem? (i := 11) rfl)
theorem qsi_mX11_ship : Cond.instanceMethod (qb_nm mX11_ship) ∈ qb_wg := q87_in5 _ (List.mem_of_getElem? (i := 21) rfl)
theorem qse_mX11_ship : Cond.selects (qb_nm mX11_ship).cls (qb_nm mX11_ship) (qb_nm mX11_ship) ∈ qb_wg := q87_in5 _ (List.mem_of_getElem? (i := 22) rfl)
theorem ql_mL_law_mX11_ship : Cond.methodLink (qb_nm mL_law).cls 131 (qb_nm mX11_ship) ∈ qb_wg := q87_in5 _ (List.mem_of_getElem? (i := 20) rfl)
theorem qe_mL_law_mX11_ship : qb_CV mL_law mX11_ship 131 3 := ⟨⟨qcw_mX11_ship, qci_mX11_ship, by decide +kernel, by decide +kernel, by decide +kernel⟩, ql_mL_law_mX11_ship, qsi_mX11_ship, qse_mX11_ship⟩
theorem qcw_mX10_price : Cond.code (qb_nm mX10_price) (qb_by mX10_price) (qb_ml mX10_price) (qb_rt mX10_price) ∈ qb_wg := q87_in3 _ (List.mem_of_getElem? (i := 13) rfl)
theorem qci_mX10_price : Cond.initialized (qb_nm mX10_price).cls ∈ qb_wg := q87_in0 _ (List.mem_of_getElem? (i := 0) rfl)
theorem qsi_mX10_price : Cond.instanceMethod (qb_nm mX10_price) ∈ qb_wg := q87_in3 _ (List.mem_of_getElem? (i := 11) rfl)
theorem qse_mX10_price : Cond.selects (qb_nm mX10_price).cls (qb_nm mX10_price) (qb_nm mX10_price) ∈ qb_wg := q87_in3 _ (List.mem_of_getElem? (i := 12) rfl)
theorem ql_mL_law_mX10_price : Cond.methodLink (qb_nm mL_law).cls 132 (qb_nm mX10_price) ∈ qb_wg := q87_in3 _ (List.mem_of_getElem? (i := 10) rfl)
theorem qe_mL_law_mX10_price : qb_CV mL_law mX10_price 132 4 := ⟨⟨qcw_mX10_price, qci_mX10_price, by decide +kernel, by decide +kernel, by decide +kernel⟩, ql_mL_law_mX10_price, qsi_mX10_price, qse_mX10_price⟩
theorem qcw_mX11_price : Cond.code (qb_nm mX11_price) (qb_by mX11_price) (qb_ml mX11_price) (qb_rt mX11_price) ∈ qb_wg := q87_in5 _ (List.mem_of_getElem? (i := 27) rfl)
theorem qci_mX11_price : Cond.initialized (qb_nm mX11_price).cls ∈ qb_wg := q87_in0 _ (List.mem_of_getElem? (i := 11) rfl)
theorem qsi_mX11_price : Cond.instanceMethod (qb_nm mX11_price) ∈ qb_wg := q87_in5 _ (List.mem_of_getElem? (i := 25) rfl)
theorem qse_mX11_price : Cond.selects (qb_nm mX11_price).cls (qb_nm mX11_price) (qb_nm mX11_price) ∈ qb_wg := q87_in5 _ (List.mem_of_getElem? (i := 26) rfl)
theorem ql_mL_law_mX11_price : Cond.methodLink (qb_nm mL_law).cls 135 (qb_nm mX11_price) ∈ qb_wg := q87_in5 _ (List.mem_of_getElem? (i := 24) rfl)
theorem qe_mL_law_mX11_price : qb_CV mL_law mX11_price 135 4 := ⟨⟨qcw_mX11_price, qci_mX11_price, by decide +kernel, by decide +kernel, by decide +kernel⟩, ql_mL_law_mX11_price, qsi_mX11_price, qse_mX11_price⟩
theorem qcw_mX10_priceOn : Cond.code (qb_nm mX10_priceOn) (qb_by mX10_priceOn) (qb_ml mX10_priceOn) (qb_rt mX10_priceOn) ∈ qb_wg := q87_in3 _ (List.mem_of_getElem? (i := 17) rfl)
theorem qci_mX10_priceOn : Cond.initialized (qb_nm mX10_priceOn).cls ∈ qb_wg := q87_in0 _ (List.mem_of_getElem? (i := 0) rfl)
theorem qsi_mX10_priceOn : Cond.instanceMethod (qb_nm mX10_priceOn) ∈ qb_wg := q87_in3 _ (List.mem_of_getElem? (i := 15) rfl)
theorem qse_mX10_priceOn : Cond.selects (qb_nm mX10_priceOn).cls (qb_nm mX10_priceOn) (qb_nm mX10_priceOn) ∈ qb_wg := q87_in3 _ (List.mem_of_getElem? (i := 16) rfl)
theorem ql_mL_law_mX10_priceOn : Cond.methodLink (qb_nm mL_law).cls 136 (qb_nm mX10_priceOn) ∈ qb_wg := q87_in3 _ (List.mem_of_getElem? (i := 14) rfl)
theorem qe_mL_law_mX10_priceOn : qb_CV mL_law mX10_priceOn 136 3 := ⟨⟨qcw_mX10_priceOn, qci_mX10_priceOn, by decide +kernel, by decide +kernel, by decide +kernel⟩, ql_mL_law_mX10_priceOn, qsi_mX10_priceOn, qse_mX10_priceOn⟩
theorem qcw_mX11_priceOn : Cond.code (qb_nm mX11_priceOn) (qb_by mX11_priceOn) (qb_ml mX11_priceOn) (qb_rt mX11_priceOn) ∈ qb_wg := q87_in5 _ (List.mem_of_getElem? (i := 31) rfl)
theorem qci_mX11_priceOn : Cond.initialized (qb_nm mX11_priceOn).cls ∈ qb_wg := q87_in0 _ (List.mem_of_getElem? (i := 11) rfl)
theorem qsi_mX11_priceOn : Cond.instanceMethod (qb_nm mX11_priceOn) ∈ qb_wg := q87_in5 _ (List.mem_of_getElem? (i := 29) rfl)
theorem qse_mX11_priceOn : Cond.selects (qb_nm mX11_priceOn).cls (qb_nm mX11_priceOn) (qb_nm mX11_priceOn) ∈ qb_wg := q87_in5 _ (List.mem_of_getElem? (i := 30) rfl)
theorem ql_mL_law_mX11_priceOn : Cond.methodLink (qb_nm mL_law).cls 139 (qb_nm mX11_priceOn) ∈ qb_wg := q87_in5 _ (List.mem_of_getElem? (i := 28) rfl)
theorem qe_mL_law_mX11_priceOn : qb_CV mL_law mX11_priceOn 139 3 := ⟨⟨qcw_mX11_priceOn, qci_mX11_priceOn, by decide +kernel, by decide +kernel, by decide +kernel⟩, ql_mL_law_mX11_priceOn, qsi_mX11_priceOn, qse_mX11_priceOn⟩
theorem qcw_mX10_load : Cond.code (qb_nm mX10_load) (qb_by mX10_load) (qb_ml mX10_load) (qb_rt mX10_load) ∈ qb_wg := q87_in3 _ (List.mem_of_getElem? (i := 21) rfl)
theorem qci_mX10_load : Cond.initialized (qb_nm mX10_load).cls ∈ qb_wg := q87_in0 _ (List.mem_of_getElem? (i := 0) rfl)
theorem qsi_mX10_load : Cond.instanceMethod (qb_nm mX10_load) ∈ qb_wg := q87_in3 _ (List.mem_of_getElem? (i := 19) rfl)
theorem qse_mX10_load : Cond.selects (qb_nm mX10_load).cls (qb_nm mX10_load) (qb_nm mX10_load) ∈ qb_wg := q87_in3 _ (List.mem_of_getElem? (i := 20) rfl)
theorem ql_mL_law_mX10_load : Cond.methodLink (qb_nm mL_law).cls 140 (qb_nm mX10_load) ∈ qb_wg := q87_in3 _ (List.mem_of_getElem? (i := 18) rfl)
theorem qe_mL_law_mX10_load : qb_CV mL_law mX10_load 140 4 := ⟨⟨qcw_mX10_load, qci_mX10_load, by decide +kernel, by decide +kernel, by decide +kernel⟩, ql_mL_law_mX10_load, qsi_mX10_load, qse_mX10_load⟩
theorem qcw_mX11_load : Cond.code (qb_nm mX11_load) (qb_by mX11_load) (qb_ml mX11_load) (qb_rt mX11_load) ∈ qb_wg := q87_in5 _ (List.mem_of_getElem? (i := 35) rfl)
theorem qci_mX11_load : Cond.initialized (qb_nm mX11_load).cls ∈ qb_wg := q87_in0 _ (List.mem_of_getElem? (i := 11) rfl)
theorem qsi_mX11_load : Cond.instanceMethod (qb_nm mX11_load) ∈ qb_wg := q87_in5 _ (List.mem_of_getElem? (i := 33) rfl)
theorem qse_mX11_load : Cond.selects (qb_nm mX11_load).cls (qb_nm mX11_load) (qb_nm mX11_load) ∈ qb_wg := q87_in5 _ (List.mem_of_getElem? (i := 34) rfl)
theorem ql_mL_law_mX11_load : Cond.methodLink (qb_nm mL_law).cls 143 (qb_nm mX11_load) ∈ qb_wg := q87_in5 _ (List.mem_of_getElem? (i := 32) rfl)
theorem qe_mL_law_mX11_load : qb_CV mL_law mX11_load 143 4 := ⟨⟨qcw_mX11_load, qci_mX11_load, by decide +kernel, by decide +kernel, by decide +kernel⟩, ql_mL_law_mX11_load, qsi_mX11_load, qse_mX11_load⟩
theorem qcw_mX10_told : Cond.code (qb_nm mX10_told) (qb_by mX10_told) (qb_ml mX10_told) (qb_rt mX10_told) ∈ qb_wg := q87_in3 _ (List.mem_of_getElem? (i := 25) rfl)
theorem qci_mX10_told : Cond.initialized (qb_nm mX10_told).cls ∈ qb_wg := q87_in0 _ (List.mem_of_getElem? (i := 0) rfl)
theorem qsi_mX10_told : Cond.instanceMethod (qb_nm mX10_told) ∈ qb_wg := q87_in3 _ (List.mem_of_getElem? (i := 23) rfl)
theorem qse_mX10_told : Cond.selects (qb_nm mX10_told).cls (qb_nm mX10_told) (qb_nm mX10_told) ∈ qb_wg := q87_in3 _ (List.mem_of_getElem? (i := 24) rfl)
theorem ql_mL_law_mX10_told : Cond.methodLink (qb_nm mL_law).cls 144 (qb_nm mX10_told) ∈ qb_wg := q87_in3 _ (List.mem_of_getElem? (i := 22) rfl)
theorem qe_mL_law_mX10_told : qb_CV mL_law mX10_told 144 1 := ⟨⟨qcw_mX10_told, qci_mX10_told, by decide +kernel, by decide +kernel, by decide +kernel⟩, ql_mL_law_mX10_told, qsi_mX10_told, qse_mX10_told⟩
theorem qcw_mX11_told : Cond.code (qb_nm mX11_told) (qb_by mX11_told) (qb_ml mX11_told) (qb_rt mX11_told) ∈ qb_wg := q87_in5 _ (List.mem_of_getElem? (i := 39) rfl)
theorem qci_mX11_told : Cond.initialized (qb_nm mX11_told).cls ∈ qb_wg := q87_in0 _ (List.mem_of_getElem? (i := 11) rfl)
theorem qsi_mX11_told : Cond.instanceMethod (qb_nm mX11_told) ∈ qb_wg := q87_in5 _ (List.mem_of_getElem? (i := 37) rfl)
theorem qse_mX11_told : Cond.selects (qb_nm mX11_told).cls (qb_nm mX11_told) (qb_nm mX11_told) ∈ qb_wg := q87_in5 _ (List.mem_of_getElem? (i := 38) rfl)
theorem ql_mL_law_mX11_told : Cond.methodLink (qb_nm mL_law).cls 147 (qb_nm mX11_told) ∈ qb_wg := q87_in5 _ (List.mem_of_getElem? (i := 36) rfl)
theorem qe_mL_law_mX11_told : qb_CV mL_law mX11_told 147 1 := ⟨⟨qcw_mX11_told, qci_mX11_told, by decide +kernel, by decide +kernel, by decide +kernel⟩, ql_mL_law_mX11_told, qsi_mX11_told, qse_mX11_told⟩
theorem qcw_mX3_init : Cond.code (qb_nm mX3_init) (qb_by mX3_init) (qb_ml mX3_init) (qb_rt mX3_init) ∈ qb_wg := q87_in0 _ (List.mem_of_getElem? (i := 22) rfl)
theorem qci_mX3_init : Cond.initialized (qb_nm mX3_init).cls ∈ qb_wg := q87_in0 _ (List.mem_of_getElem? (i := 1) rfl)
theorem qsi_mX3_init : Cond.instanceMethod (qb_nm mX3_init) ∈ qb_wg := q87_in0 _ (List.mem_of_getElem? (i := 21) rfl)
theorem ql_mX10_init_mX3_init : Cond.methodLink (qb_nm mX10_init).cls 9 (qb_nm mX3_init) ∈ qb_wg := q87_in0 _ (List.mem_of_getElem? (i := 20) rfl)
theorem qe_mX10_init_mX3_init : qb_CI mX10_init mX3_init 9 0 := ⟨⟨qcw_mX3_init, qci_mX3_init, by decide +kernel, by decide +kernel, by decide +kernel⟩, ql_mX10_init_mX3_init, qsi_mX3_init, rfl, rfl⟩
theorem qcw_mX0_init : Cond.code (qb_nm mX0_init) (qb_by mX0_init) (qb_ml mX0_init) (qb_rt mX0_init) ∈ qb_wg := q87_in0 _ (List.mem_of_getElem? (i := 28) rfl)
theorem qci_mX0_init : Cond.initialized (qb_nm mX0_init).cls ∈ qb_wg := q87_in0 _ (List.mem_of_getElem? (i := 2) rfl)
theorem qsi_mX0_init : Cond.instanceMethod (qb_nm mX0_init) ∈ qb_wg := q87_in0 _ (List.mem_of_getElem? (i := 27) rfl)
theorem ql_mX10_init_mX0_init : Cond.methodLink (qb_nm mX10_init).cls 18 (qb_nm mX0_init) ∈ qb_wg := q87_in0 _ (List.mem_of_getElem? (i := 26) rfl)
theorem qe_mX10_init_mX0_init : qb_CI mX10_init mX0_init 18 0 := ⟨⟨qcw_mX0_init, qci_mX0_init, by decide +kernel, by decide +kernel, by decide +kernel⟩, ql_mX10_init_mX0_init, qsi_mX0_init, rfl, rfl⟩
theorem qcw_mX7_init : Cond.code (qb_nm mX7_init) (qb_by mX7_init) (qb_ml mX7_init) (qb_rt mX7_init) ∈ qb_wg := q87_in0 _ (List.mem_of_getElem? (i := 34) rfl)
theorem qci_mX7_init : Cond.initialized (qb_nm mX7_init).cls ∈ qb_wg := q87_in0 _ (List.mem_of_getElem? (i := 3) rfl)
theorem qsi_mX7_init : Cond.instanceMethod (qb_nm mX7_init) ∈ qb_wg := q87_in0 _ (List.mem_of_getElem? (i := 33) rfl)
theorem ql_mX10_init_mX7_init : Cond.methodLink (qb_nm mX10_init).cls 29 (qb_nm mX7_init) ∈ qb_wg := q87_in0 _ (List.mem_of_getElem? (i := 32) rfl)
theorem qe_mX10_init_mX7_init : qb_CI mX10_init mX7_init 29 0 := ⟨⟨qcw_mX7_init, qci_mX7_init, by decide +kernel, by decide +kernel, by decide +kernel⟩, ql_mX10_init_mX7_init, qsi_mX7_init, rfl, rfl⟩
theorem qcw_mX2_init : Cond.code (qb_nm mX2_init) (qb_by mX2_init) (qb_ml mX2_init) (qb_rt mX2_init) ∈ qb_wg := q87_in0 _ (List.mem_of_getElem? (i := 39) rfl)
theorem qci_mX2_init : Cond.initialized (qb_nm mX2_init).cls ∈ qb_wg := q87_in0 _ (List.mem_of_getElem? (i := 4) rfl)
theorem qsi_mX2_init : Cond.instanceMethod (qb_nm mX2_init) ∈ qb_wg := q87_in0 _ (List.mem_of_getElem? (i := 38) rfl)
theorem qe_mX10_init_mX2_init : qb_CB mX10_init mX2_init 0 := ⟨qcw_mX2_init, qci_mX2_init, by decide +kernel, by decide +kernel, by decide +kernel⟩
theorem qcw_mX8_init : Cond.code (qb_nm mX8_init) (qb_by mX8_init) (qb_ml mX8_init) (qb_rt mX8_init) ∈ qb_wg := q87_in0 _ (List.mem_of_getElem? (i := 45) rfl)
theorem qci_mX8_init : Cond.initialized (qb_nm mX8_init).cls ∈ qb_wg := q87_in0 _ (List.mem_of_getElem? (i := 5) rfl)
theorem qsi_mX8_init : Cond.instanceMethod (qb_nm mX8_init) ∈ qb_wg := q87_in0 _ (List.mem_of_getElem? (i := 44) rfl)
theorem ql_mX10_init_mX8_init : Cond.methodLink (qb_nm mX10_init).cls 43 (qb_nm mX8_init) ∈ qb_wg := q87_in0 _ (List.mem_of_getElem? (i := 43) rfl)
theorem qe_mX10_init_mX8_init : qb_CI mX10_init mX8_init 43 0 := ⟨⟨qcw_mX8_init, qci_mX8_init, by decide +kernel, by decide +kernel, by decide +kernel⟩, ql_mX10_init_mX8_init, qsi_mX8_init, rfl, rfl⟩
theorem qcw_mX6_init : Cond.code (qb_nm mX6_init) (qb_by mX6_init) (qb_ml mX6_init) (qb_rt mX6_init) ∈ qb_wg := q87_in0 _ (List.mem_of_getElem? (i := 51) rfl)
theorem qci_mX6_init : Cond.initialized (qb_nm mX6_init).cls ∈ qb_wg := q87_in0 _ (List.mem_of_getElem? (i := 6) rfl)
theorem qsi_mX6_init : Cond.instanceMethod (qb_nm mX6_init) ∈ qb_wg := q87_in0 _ (List.mem_of_getElem? (i := 50) rfl)
theorem ql_mX10_init_mX6_init : Cond.methodLink (qb_nm mX10_init).cls 53 (qb_nm mX6_init) ∈ qb_wg := q87_in0 _ (List.mem_of_getElem? (i := 49) rfl)
theorem qe_mX10_init_mX6_init : qb_CI mX10_init mX6_init 53 0 := ⟨⟨qcw_mX6_init, qci_mX6_init, by decide +kernel, by decide +kernel, by decide +kernel⟩, ql_mX10_init_mX6_init, qsi_mX6_init, rfl, rfl⟩
theorem qcw_mX1_init : Cond.code (qb_nm mX1_init) (qb_by mX1_init) (qb_ml mX1_init) (qb_rt mX1_init) ∈ qb_wg := q87_in0 _ (List.mem_of_getElem? (i := 57) rfl)
theorem qci_mX1_init : Cond.initialized (qb_nm mX1_init).cls ∈ qb_wg := q87_in0 _ (List.mem_of_getElem? (i := 7) rfl)
theorem qsi_mX1_init : Cond.instanceMethod (qb_nm mX1_init) ∈ qb_wg := q87_in0 _ (List.mem_of_getElem? (i := 56) rfl)
theorem ql_mX10_init_mX1_init : Cond.methodLink (qb_nm mX10_init).cls 60 (qb_nm mX1_init) ∈ qb_wg := q87_in0 _ (List.mem_of_getElem? (i := 55) rfl)
theorem qe_mX10_init_mX1_init : qb_CI mX10_init mX1_init 60 0 := ⟨⟨qcw_mX1_init, qci_mX1_init, by decide +kernel, by decide +kernel, by decide +kernel⟩, ql_mX10_init_mX1_init, qsi_mX1_init, rfl, rfl⟩
theorem qcw_mX5_init : Cond.code (qb_nm mX5_init) (qb_by mX5_init) (qb_ml mX5_init) (qb_rt mX5_init) ∈ qb_wg := q87_in1 _ (List.mem_of_getElem? (i := 3) rfl)
theorem qci_mX5_init : Cond.initialized (qb_nm mX5_init).cls ∈ qb_wg := q87_in0 _ (List.mem_of_getElem? (i := 8) rfl)
theorem qsi_mX5_init : Cond.instanceMethod (qb_nm mX5_init) ∈ qb_wg := q87_in1 _ (List.mem_of_getElem? (i := 2) rfl)
theorem ql_mX10_init_mX5_init : Cond.methodLink (qb_nm mX10_init).cls 67 (qb_nm mX5_init) ∈ qb_wg := q87_in1 _ (List.mem_of_getElem? (i := 1) rfl)
theorem qe_mX10_init_mX5_init : qb_CI mX10_init mX5_init 67 0 := ⟨⟨qcw_mX5_init, qci_mX5_init, by decide +kernel, by decide +kernel, by decide +kernel⟩, ql_mX10_init_mX5_init, qsi_mX5_init, rfl, rfl⟩
theorem qcw_mX9_init : Cond.code (qb_nm mX9_init) (qb_by mX9_init) (qb_ml mX9_init) (qb_rt mX9_init) ∈ qb_wg := q87_in1 _ (List.mem_of_getElem? (i := 9) rfl)
theorem qci_mX9_init : Cond.initialized (qb_nm mX9_init).cls ∈ qb_wg := q87_in0 _ (List.mem_of_getElem? (i := 9) rfl)
theorem qsi_mX9_init : Cond.instanceMethod (qb_nm mX9_init) ∈ qb_wg := q87_in1 _ (List.mem_of_getElem? (i := 8) rfl)
theorem ql_mX10_init_mX9_init : Cond.methodLink (qb_nm mX10_init).cls 77 (qb_nm mX9_init) ∈ qb_wg := q87_in1 _ (List.mem_of_getElem? (i := 7) rfl)
theorem qe_mX10_init_mX9_init : qb_CI mX10_init mX9_init 77 0 := ⟨⟨qcw_mX9_init, qci_mX9_init, by decide +kernel, by decide +kernel, by decide +kernel⟩, ql_mX10_init_mX9_init, qsi_mX9_init, rfl, rfl⟩
theorem qcw_mX4_init : Cond.code (qb_nm mX4_init) (qb_by mX4_init) (qb_ml mX4_init) (qb_rt mX4_init) ∈ qb_wg := q87_in1 _ (List.mem_of_getElem? (i := 15) rfl)
theorem qci_mX4_init : Cond.initialized (qb_nm mX4_init).cls ∈ qb_wg := q87_in0 _ (List.mem_of_getElem? (i := 10) rfl)
theorem qsi_mX4_init : Cond.instanceMethod (qb_nm mX4_init) ∈ qb_wg := q87_in1 _ (List.mem_of_getElem? (i := 14) rfl)
theorem ql_mX10_init_mX4_init : Cond.methodLink (qb_nm mX10_init).cls 84 (qb_nm mX4_init) ∈ qb_wg := q87_in1 _ (List.mem_of_getElem? (i := 13) rfl)
theorem qe_mX10_init_mX4_init : qb_CI mX10_init mX4_init 84 0 := ⟨⟨qcw_mX4_init, qci_mX4_init, by decide +kernel, by decide +kernel, by decide +kernel⟩, ql_mX10_init_mX4_init, qsi_mX4_init, rfl, rfl⟩
theorem qn_L_7 : Cond.classLink RL 7 RX10 ∈ qb_wg := q87_in0 _ (List.mem_of_getElem? (i := 12) rfl)
theorem qin_X10 : Cond.instantiable RX10 13 ∈ qb_wg := q87_in0 _ (List.mem_of_getElem? (i := 13) rfl)
theorem qic_X10 : Cond.initialized RX10 ∈ qb_wg := q87_in0 _ (List.mem_of_getElem? (i := 0) rfl)
theorem qn_L_10 : Cond.classLink RL 10 RX11 ∈ qb_wg := q87_in3 _ (List.mem_of_getElem? (i := 26) rfl)
theorem qin_X11 : Cond.instantiable RX11 50 ∈ qb_wg := q87_in3 _ (List.mem_of_getElem? (i := 27) rfl)
theorem qic_X11 : Cond.initialized RX11 ∈ qb_wg := q87_in0 _ (List.mem_of_getElem? (i := 11) rfl)
theorem qo_X0_3 : Cond.methodLink RX0 3 Lib.objectInit ∈ qb_wg := q87_in0 _ (List.mem_of_getElem? (i := 29) rfl)
theorem qo_X1_3 : Cond.methodLink RX1 3 Lib.objectInit ∈ qb_wg := q87_in0 _ (List.mem_of_getElem? (i := 58) rfl)
theorem qo_X10_1 : Cond.methodLink RX10 1 Lib.objectInit ∈ qb_wg := q87_in0 _ (List.mem_of_getElem? (i := 17) rfl)
theorem qn_X10_7 : Cond.classLink RX10 7 RX3 ∈ qb_wg := q87_in0 _ (List.mem_of_getElem? (i := 18) rfl)
theorem qin_X3 : Cond.instantiable RX3 2 ∈ qb_wg := q87_in0 _ (List.mem_of_getElem? (i := 19) rfl)
theorem qic_X3 : Cond.initialized RX3 ∈ qb_wg := q87_in0 _ (List.mem_of_getElem? (i := 1) rfl)
theorem qn_X10_16 : Cond.classLink RX10 16 RX0 ∈ qb_wg := q87_in0 _ (List.mem_of_getElem? (i := 24) rfl)
theorem qin_X0 : Cond.instantiable RX0 7 ∈ qb_wg := q87_in0 _ (List.mem_of_getElem? (i := 25) rfl)
theorem qic_X0 : Cond.initialized RX0 ∈ qb_wg := q87_in0 _ (List.mem_of_getElem? (i := 2) rfl)
theorem qn_X10_27 : Cond.classLink RX10 27 RX7 ∈ qb_wg := q87_in0 _ (List.mem_of_getElem? (i := 30) rfl)
theorem qin_X7 : Cond.instantiable RX7 14 ∈ qb_wg := q87_in0 _ (List.mem_of_getElem? (i := 31) rfl)
theorem qic_X7 : Cond.initialized RX7 ∈ qb_wg := q87_in0 _ (List.mem_of_getElem? (i := 3) rfl)
theorem qn_X10_34 : Cond.classLink RX10 34 RX2 ∈ qb_wg := q87_in0 _ (List.mem_of_getElem? (i := 36) rfl)
theorem qin_X2 : Cond.instantiable RX2 10 ∈ qb_wg := q87_in0 _ (List.mem_of_getElem? (i := 37) rfl)
theorem qic_X2 : Cond.initialized RX2 ∈ qb_wg := q87_in0 _ (List.mem_of_getElem? (i := 4) rfl)
theorem qn_X10_41 : Cond.classLink RX10 41 RX8 ∈ qb_wg := q87_in0 _ (List.mem_of_getElem? (i := 41) rfl)
theorem qin_X8 : Cond.instantiable RX8 5 ∈ qb_wg := q87_in0 _ (List.mem_of_getElem? (i := 42) rfl)
theorem qic_X8 : Cond.initialized RX8 ∈ qb_wg := q87_in0 _ (List.mem_of_getElem? (i := 5) rfl)
theorem qn_X10_51 : Cond.classLink RX10 51 RX6 ∈ qb_wg := q87_in0 _ (List.mem_of_getElem? (i := 47) rfl)
theorem qin_X6 : Cond.instantiable RX6 6 ∈ qb_wg := q87_in0 _ (List.mem_of_getElem? (i := 48) rfl)
theorem qic_X6 : Cond.initialized RX6 ∈ qb_wg := q87_in0 _ (List.mem_of_getElem? (i := 6) rfl)
theorem qn_X10_58 : Cond.classLink RX10 58 RX1 ∈ qb_wg := q87_in0 _ (List.mem_of_getElem? (i := 53) rfl)
theorem qin_X1 : Cond.instantiable RX1 3 ∈ qb_wg := q87_in0 _ (List.mem_of_getElem? (i := 54) rfl)
theorem qic_X1 : Cond.initialized RX1 ∈ qb_wg := q87_in0 _ (List.mem_of_getElem? (i := 7) rfl)
theorem qn_X10_65 : Cond.classLink RX10 65 RX5 ∈ qb_wg := q87_in0 _ (List.mem_of_getElem? (i := 59) rfl)
theorem qin_X5 : Cond.instantiable RX5 5 ∈ qb_wg := q87_in1 _ (List.mem_of_getElem? (i := 0) rfl)
theorem qic_X5 : Cond.initialized RX5 ∈ qb_wg := q87_in0 _ (List.mem_of_getElem? (i := 8) rfl)
theorem qn_X10_75 : Cond.classLink RX10 75 RX9 ∈ qb_wg := q87_in1 _ (List.mem_of_getElem? (i := 5) rfl)
theorem qin_X9 : Cond.instantiable RX9 6 ∈ qb_wg := q87_in1 _ (List.mem_of_getElem? (i := 6) rfl)
theorem qic_X9 : Cond.initialized RX9 ∈ qb_wg := q87_in0 _ (List.mem_of_getElem? (i := 9) rfl)
theorem qn_X10_82 : Cond.classLink RX10 82 RX4 ∈ qb_wg := q87_in1 _ (List.mem_of_getElem? (i := 11) rfl)
theorem qin_X4 : Cond.instantiable RX4 5 ∈ qb_wg := q87_in1 _ (List.mem_of_getElem? (i := 12) rfl)
theorem qic_X4 : Cond.initialized RX4 ∈ qb_wg := q87_in0 _ (List.mem_of_getElem? (i := 10) rfl)
theorem qo_X11_1 : Cond.methodLink RX11 1 Lib.objectInit ∈ qb_wg := q87_in3 _ (List.mem_of_getElem? (i := 31) rfl)
theorem qo_X2_3 : Cond.methodLink RX2 3 Lib.objectInit ∈ qb_wg := q87_in0 _ (List.mem_of_getElem? (i := 40) rfl)
theorem qo_X3_3 : Cond.methodLink RX3 3 Lib.objectInit ∈ qb_wg := q87_in0 _ (List.mem_of_getElem? (i := 23) rfl)
theorem qo_X4_5 : Cond.methodLink RX4 5 Lib.objectInit ∈ qb_wg := q87_in1 _ (List.mem_of_getElem? (i := 16) rfl)
theorem qfl_X4_11 : Cond.fieldLink RX4 11 (TX4 0).1 (TX4 0).2.1 (TX4 0).2.2.1 ∈ qb_wg := q87_in1 _ (List.mem_of_getElem? (i := 17) rfl)
theorem qf_X4_11 : qb_FL RX4 11 4 0 true (.array .int) := ⟨RX4, TX4, 5, rfl, by decide, qfl_X4_11, rfl, by decide +kernel⟩
theorem qo_X5_3 : Cond.methodLink RX5 3 Lib.objectInit ∈ qb_wg := q87_in1 _ (List.mem_of_getElem? (i := 4) rfl)
theorem qo_X6_3 : Cond.methodLink RX6 3 Lib.objectInit ∈ qb_wg := q87_in0 _ (List.mem_of_getElem? (i := 52) rfl)
theorem qo_X7_3 : Cond.methodLink RX7 3 Lib.objectInit ∈ qb_wg := q87_in0 _ (List.mem_of_getElem? (i := 35) rfl)
theorem qo_X8_3 : Cond.methodLink RX8 3 Lib.objectInit ∈ qb_wg := q87_in0 _ (List.mem_of_getElem? (i := 46) rfl)
theorem qo_X9_3 : Cond.methodLink RX9 3 Lib.objectInit ∈ qb_wg := q87_in1 _ (List.mem_of_getElem? (i := 10) rfl)
