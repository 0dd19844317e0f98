set_option maxRecDepth 100000 in
theorem caX11_copiesStill : CaOK mX11_copiesStill := ⟨wl_t8 33 rfl rfl, wl_t1 16 rfl rfl, by decide, ⟨by decide, by decide⟩, by decide⟩
set_option maxRecDepth 100000 in
theorem inX11_copiesStill : Cond.instanceMethod yX11_copiesStill ∈ WL := wl_t8 32 rfl rfl
set_option maxRecDepth 100000 in
theorem slX11_copiesStill : Cond.selects yX11_copiesStill.cls yX11_copiesStill yX11_copiesStill ∈ WL := wl_s 116 (by decide +kernel) rfl
set_option maxRecDepth 100000 in
theorem caX11_mixed : CaOK mX11_mixed := ⟨wl_t7 158 rfl rfl, wl_t1 16 rfl rfl, by decide, ⟨by decide, by decide⟩, by decide⟩
set_option maxRecDepth 100000 in
theorem stX11_mixed : Cond.static yX11_mixed ∈ WL := wl_t7 157 rfl rfl
set_option maxRecDepth 100000 in
theorem caX11_lotOf : CaOK mX11_lotOf := ⟨wl_t7 155 rfl rfl, wl_t1 16 rfl rfl, by decide, ⟨by decide, by decide⟩, by decide⟩
set_option maxRecDepth 100000 in
theorem inX11_lotOf : Cond.instanceMethod yX11_lotOf ∈ WL := wl_t7 154 rfl rfl
set_option maxRecDepth 100000 in
theorem slX11_lotOf : Cond.selects yX11_lotOf.cls yX11_lotOf yX11_lotOf ∈ WL := wl_s 104 (by decide +kernel) rfl
set_option maxRecDepth 100000 in
theorem caX11_fromAt : CaOK mX11_fromAt := ⟨wl_t7 52 rfl rfl, wl_t1 16 rfl rfl, by decide, ⟨by decide, by decide⟩, by decide⟩
set_option maxRecDepth 100000 in
theorem inX11_fromAt : Cond.instanceMethod yX11_fromAt ∈ WL := wl_t7 51 rfl rfl
set_option maxRecDepth 100000 in
theorem slX11_fromAt : Cond.selects yX11_fromAt.cls yX11_fromAt yX11_fromAt ∈ WL := wl_s 85 (by decide +kernel) rfl
set_option maxRecDepth 100000 in
theorem caX11_tillAt : CaOK mX11_tillAt := ⟨wl_t7 88 rfl rfl, wl_t1 16 rfl rfl, by decide, ⟨by decide, by decide⟩, by decide⟩
set_option maxRecDepth 100000 in
theorem inX11_tillAt : Cond.instanceMethod yX11_tillAt ∈ WL := wl_t7 87 rfl rfl
set_option maxRecDepth 100000 in
theorem slX11_tillAt : Cond.selects yX11_tillAt.cls yX11_tillAt yX11_tillAt ∈ WL := wl_s 93 (by decide +kernel) rfl
set_option maxRecDepth 100000 in
theorem caX11_doClash : CaOK mX11_doClash := ⟨wl_t7 108 rfl rfl, wl_t1 16 rfl rfl, by decide, ⟨by decide, by decide⟩, by decide⟩
set_option maxRecDepth 100000 in
theorem inX11_doClash : Cond.instanceMethod yX11_doClash ∈ WL := wl_t7 107 rfl rfl
set_option maxRecDepth 100000 in
theorem slX11_doClash : Cond.selects yX11_doClash.cls yX11_doClash yX11_doClash ∈ WL := wl_s 97 (by decide +kernel) rfl
set_option maxRecDepth 100000 in
theorem caX11_clashBits : CaOK mX11_clashBits := ⟨wl_t7 104 rfl rfl, wl_t1 16 rfl rfl, by decide, ⟨by decide, by decide⟩, by decide⟩
set_option maxRecDepth 100000 in
theorem inX11_clashBits : Cond.instanceMethod yX11_clashBits ∈ WL := wl_t7 103 rfl rfl
set_option maxRecDepth 100000 in
theorem slX11_clashBits : Cond.selects yX11_clashBits.cls yX11_clashBits yX11_clashBits ∈ WL := wl_s 96 (by decide +kernel) rfl
set_option maxRecDepth 100000 in
theorem caX11_doesFit : CaOK mX11_doesFit := ⟨wl_t7 100 rfl rfl, wl_t1 16 rfl rfl, by decide, ⟨by decide, by decide⟩, by decide⟩
set_option maxRecDepth 100000 in
theorem inX11_doesFit : Cond.instanceMethod yX11_doesFit ∈ WL := wl_t7 99 rfl rfl
set_option maxRecDepth 100000 in
theorem slX11_doesFit : Cond.selects yX11_doesFit.cls yX11_doesFit yX11_doesFit ∈ WL := wl_s 95 (by decide +kernel) rfl
set_option maxRecDepth 100000 in
theorem caX11_guestBits : CaOK mX11_guestBits := ⟨wl_t7 6 rfl rfl, wl_t1 16 rfl rfl, by decide, ⟨by decide, by decide⟩, by decide⟩
set_option maxRecDepth 100000 in
theorem inX11_guestBits : Cond.instanceMethod yX11_guestBits ∈ WL := wl_t7 5 rfl rfl
set_option maxRecDepth 100000 in
theorem slX11_guestBits : Cond.selects yX11_guestBits.cls yX11_guestBits yX11_guestBits ∈ WL := wl_s 76 (by decide +kernel) rfl
set_option maxRecDepth 100000 in
theorem caX11_whoIsAt : CaOK mX11_whoIsAt := ⟨wl_t7 84 rfl rfl, wl_t1 16 rfl rfl, by decide, ⟨by decide, by decide⟩, by decide⟩
set_option maxRecDepth 100000 in
theorem inX11_whoIsAt : Cond.instanceMethod yX11_whoIsAt ∈ WL := wl_t7 83 rfl rfl
set_option maxRecDepth 100000 in
theorem slX11_whoIsAt : Cond.selects yX11_whoIsAt.cls yX11_whoIsAt yX11_whoIsAt ∈ WL := wl_s 92 (by decide +kernel) rfl
set_option maxRecDepth 100000 in
theorem caX11_hoursTaken : CaOK mX11_hoursTaken := ⟨wl_t7 22 rfl rfl, wl_t1 16 rfl rfl, by decide, ⟨by decide, by decide⟩, by decide⟩
set_option maxRecDepth 100000 in
theorem inX11_hoursTaken : Cond.instanceMethod yX11_hoursTaken ∈ WL := wl_t7 21 rfl rfl
set_option maxRecDepth 100000 in
theorem slX11_hoursTaken : Cond.selects yX11_hoursTaken.cls yX11_hoursTaken yX11_hoursTaken ∈ WL := wl_s 80 (by decide +kernel) rfl
set_option maxRecDepth 100000 in
theorem caX11_livingBits : CaOK mX11_livingBits := ⟨wl_t7 201 rfl rfl, wl_t1 16 rfl rfl, by decide, ⟨by decide, by decide⟩, by decide⟩
set_option maxRecDepth 100000 in
theorem inX11_livingBits : Cond.instanceMethod yX11_livingBits ∈ WL := wl_t7 200 rfl rfl
set_option maxRecDepth 100000 in
theorem slX11_livingBits : Cond.selects yX11_livingBits.cls yX11_livingBits yX11_livingBits ∈ WL := wl_s 110 (by decide +kernel) rfl
set_option maxRecDepth 100000 in
theorem caX11_lawTells : CaOK mX11_lawTells := ⟨wl_t7 29 rfl rfl, wl_t1 16 rfl rfl, by decide, ⟨by decide, by decide⟩, by decide⟩
set_option maxRecDepth 100000 in
theorem inX11_lawTells : Cond.instanceMethod yX11_lawTells ∈ WL := wl_t7 28 rfl rfl
set_option maxRecDepth 100000 in
theorem slX11_lawTells : Cond.selects yX11_lawTells.cls yX11_lawTells yX11_lawTells ∈ WL := wl_s 81 (by decide +kernel) rfl
set_option maxRecDepth 100000 in
theorem caX11_looksAt : CaOK mX11_looksAt := ⟨wl_t7 18 rfl rfl, wl_t1 16 rfl rfl, by decide, ⟨by decide, by decide⟩, by decide⟩
set_option maxRecDepth 100000 in
theorem inX11_looksAt : Cond.instanceMethod yX11_looksAt ∈ WL := wl_t7 17 rfl rfl
set_option maxRecDepth 100000 in
theorem slX11_looksAt : Cond.selects yX11_looksAt.cls yX11_looksAt yX11_looksAt ∈ WL := wl_s 79 (by decide +kernel) rfl
set_option maxRecDepth 100000 in
theorem caX11_looks : CaOK mX11_looks := ⟨wl_t7 68 rfl rfl, wl_t1 16 rfl rfl, by decide, ⟨by decide, by decide⟩, by decide⟩
set_option maxRecDepth 100000 in
theorem inX11_looks : Cond.instanceMethod yX11_looks ∈ WL := wl_t7 67 rfl rfl
set_option maxRecDepth 100000 in
theorem slX11_looks : Cond.selects yX11_looks.cls yX11_looks yX11_looks ∈ WL := wl_s 89 (by decide +kernel) rfl
set_option maxRecDepth 100000 in
theorem caX11_paysAt : CaOK mX11_paysAt := ⟨wl_t7 64 rfl rfl, wl_t1 16 rfl rfl, by decide, ⟨by decide, by decide⟩, by decide⟩
set_option maxRecDepth 100000 in
theorem inX11_paysAt : Cond.instanceMethod yX11_paysAt ∈ WL := wl_t7 63 rfl rfl
set_option maxRecDepth 100000 in
theorem slX11_paysAt : Cond.selects yX11_paysAt.cls yX11_paysAt yX11_paysAt ∈ WL := wl_s 88 (by decide +kernel) rfl
set_option maxRecDepth 100000 in
theorem caX11_restsAt : CaOK mX11_restsAt := ⟨wl_t7 76 rfl rfl, wl_t1 16 rfl rfl, by decide, ⟨by decide, by decide⟩, by decide⟩
set_option maxRecDepth 100000 in
theorem inX11_restsAt : Cond.instanceMethod yX11_restsAt ∈ WL := wl_t7 75 rfl rfl
set_option maxRecDepth 100000 in
theorem slX11_restsAt : Cond.selects yX11_restsAt.cls yX11_restsAt yX11_restsAt ∈ WL := wl_s 91 (by decide +kernel) rfl
set_option maxRecDepth 100000 in
theorem caX11_looksAll : CaOK mX11_looksAll := ⟨wl_t7 14 rfl rfl, wl_t1 16 rfl rfl, by decide, ⟨by decide, by decide⟩, by decide⟩
set_option maxRecDepth 100000 in
theorem inX11_looksAll : Cond.instanceMethod yX11_looksAll ∈ WL := wl_t7 13 rfl rfl
set_option maxRecDepth 100000 in
theorem slX11_looksAll : Cond.selects yX11_looksAll.cls yX11_looksAll yX11_looksAll ∈ WL := wl_s 78 (by decide +kernel) rfl
set_option maxRecDepth 100000 in
theorem caX11_wearsOf : CaOK mX11_wearsOf := ⟨wl_t7 10 rfl rfl, wl_t1 16 rfl rfl, by decide, ⟨by decide, by decide⟩, by decide⟩
set_option maxRecDepth 100000 in
theorem inX11_wearsOf : Cond.instanceMethod yX11_wearsOf ∈ WL := wl_t7 9 rfl rfl
set_option maxRecDepth 100000 in
theorem slX11_wearsOf : Cond.selects yX11_wearsOf.cls yX11_wearsOf yX11_wearsOf ∈ WL := wl_s 77 (by decide +kernel) rfl
set_option maxRecDepth 100000 in
theorem caX11_sellsOf : CaOK mX11_sellsOf := ⟨wl_t7 40 rfl rfl, wl_t1 16 rfl rfl, by decide, ⟨by decide, by decide⟩, by decide⟩
set_option maxRecDepth 100000 in
theorem inX11_sellsOf : Cond.instanceMethod yX11_sellsOf ∈ WL := wl_t7 39 rfl rfl
set_option maxRecDepth 100000 in
theorem slX11_sellsOf : Cond.selects yX11_sellsOf.cls yX11_sellsOf yX11_sellsOf ∈ WL := wl_s 83 (by decide +kernel) rfl
set_option maxRecDepth 100000 in
theorem caX11_othersOf : CaOK mX11_othersOf := ⟨wl_t7 60 rfl rfl, wl_t1 16 rfl rfl, by decide, ⟨by decide, by decide⟩, by decide⟩
set_option maxRecDepth 100000 in
theorem inX11_othersOf : Cond.instanceMethod yX11_othersOf ∈ WL := wl_t7 59 rfl rfl
set_option maxRecDepth 100000 in
theorem slX11_othersOf : Cond.selects yX11_othersOf.cls yX11_othersOf yX11_othersOf ∈ WL := wl_s 87 (by decide +kernel) rfl
set_option maxRecDepth 100000 in
theorem caX11_paysOf : CaOK mX11_paysOf := ⟨wl_t7 56 rfl rfl, wl_t1 16 rfl rfl, by decide, ⟨by decide, by decide⟩, by decide⟩
set_option maxRecDepth 100000 in
theorem inX11_paysOf : Cond.instanceMethod yX11_paysOf ∈ WL := wl_t7 55 rfl rfl
set_option maxRecDepth 100000 in
theorem slX11_paysOf : Cond.selects yX11_paysOf.cls yX11_paysOf yX11_paysOf ∈ WL := wl_s 86 (by decide +kernel) rfl
set_option maxRecDepth 100000 in
theorem caX11_restsOf : CaOK mX11_restsOf := ⟨wl_t7 72 rfl rfl, wl_t1 16 rfl rfl, by decide, ⟨by decide, by decide⟩, by decide⟩
set_option maxRecDepth 100000 in
theorem inX11_restsOf : Cond.instanceMethod yX11_restsOf ∈ WL := wl_t7 71 rfl rfl
set_option maxRecDepth 100000 in
theorem slX11_restsOf : Cond.selects yX11_restsOf.cls yX11_restsOf yX11_restsOf ∈ WL := wl_s 90 (by decide +kernel) rfl
set_option maxRecDepth 100000 in
theorem caX11_dueAll : CaOK mX11_dueAll := ⟨wl_t7 143 rfl rfl, wl_t1 16 rfl rfl, by decide, ⟨by decide, by decide⟩, by decide⟩
set_option maxRecDepth 100000 in
theorem inX11_dueAll : Cond.instanceMethod yX11_dueAll ∈ WL := wl_t7 142 rfl rfl
set_option maxRecDepth 100000 in
theorem slX11_dueAll : Cond.selects yX11_dueAll.cls yX11_dueAll yX11_dueAll ∈ WL := wl_s 101 (by decide +kernel) rfl
set_option maxRecDepth 100000 in
theorem caX11_restsIn : CaOK mX11_restsIn := ⟨wl_t7 147 rfl rfl, wl_t1 16 rfl rfl, by decide, ⟨by decide, by decide⟩, by decide⟩
set_option maxRecDepth 100000 in
theorem inX11_restsIn : Cond.instanceMethod yX11_restsIn ∈ WL := wl_t7 146 rfl rfl
set_option maxRecDepth 100000 in
theorem slX11_restsIn : Cond.selects yX11_restsIn.cls yX11_restsIn yX11_restsIn ∈ WL := wl_s 102 (by decide +kernel) rfl
set_option maxRecDepth 100000 in
theorem caX11_mayDie : CaOK mX11_mayDie := ⟨wl_t7 151 rfl rfl, wl_t1 16 rfl rfl, by decide, ⟨by decide, by decide⟩, by decide⟩
set_option maxRecDepth 100000 in
theorem inX11_mayDie : Cond.instanceMethod yX11_mayDie ∈ WL := wl_t7 150 rfl rfl
set_option maxRecDepth 100000 in
theorem slX11_mayDie : Cond.selects yX11_mayDie.cls yX11_mayDie yX11_mayDie ∈ WL := wl_s 103 (by decide +kernel) rfl
set_option maxRecDepth 100000 in
theorem caX11_weekGoes : CaOK mX11_weekGoes := ⟨wl_t7 139 rfl rfl, wl_t1 16 rfl rfl, by decide, ⟨by decide, by decide⟩, by decide⟩
set_option maxRecDepth 100000 in
theorem inX11_weekGoes : Cond.instanceMethod yX11_weekGoes ∈ WL := wl_t7 138 rfl rfl
set_option maxRecDepth 100000 in
theorem slX11_weekGoes : Cond.selects yX11_weekGoes.cls yX11_weekGoes yX11_weekGoes ∈ WL := wl_s 100 (by decide +kernel) rfl
set_option maxRecDepth 100000 in
theorem caX11_goes : CaOK mX11_goes := ⟨wl_t7 135 rfl rfl, wl_t1 16 rfl rfl, by decide, ⟨by decide, by decide⟩, by decide⟩
set_option maxRecDepth 100000 in
theorem inX11_goes : Cond.instanceMethod yX11_goes ∈ WL := wl_t7 134 rfl rfl
set_option maxRecDepth 100000 in
theorem slX11_goes : Cond.selects yX11_goes.cls yX11_goes yX11_goes ∈ WL := wl_s 99 (by decide +kernel) rfl
set_option maxRecDepth 100000 in
theorem caX11_sunday : CaOK mX11_sunday := ⟨wl_t6 231 rfl rfl, wl_t1 16 rfl rfl, by decide, ⟨by decide, by decide⟩, by decide⟩
set_option maxRecDepth 100000 in
theorem inX11_sunday : Cond.instanceMethod yX11_sunday ∈ WL := wl_t6 229 rfl rfl
set_option maxRecDepth 100000 in
theorem slX11_sunday : Cond.selects yX11_sunday.cls yX11_sunday yX11_sunday ∈ WL := wl_t6 230 rfl rfl
set_option maxRecDepth 100000 in
theorem caX11_guest : CaOK mX11_guest := ⟨wl_t7 44 rfl rfl, wl_t1 16 rfl rfl, by decide, ⟨by decide, by decide⟩, by decide⟩
set_option maxRecDepth 100000 in
theorem inX11_guest : Cond.instanceMethod yX11_guest ∈ WL := wl_t7 42 rfl rfl
set_option maxRecDepth 100000 in
theorem slX11_guest : Cond.selects yX11_guest.cls yX11_guest yX11_guest ∈ WL := wl_t7 43 rfl rfl
set_option maxRecDepth 100000 in
theorem caX11_at : CaOK mX11_at := ⟨wl_t7 80 rfl rfl, wl_t1 16 rfl rfl, by decide, ⟨by decide, by decide⟩, by decide⟩
set_option maxRecDepth 100000 in
theorem inX11_at : Cond.instanceMethod yX11_at ∈ WL := wl_t7 78 rfl rfl
set_option maxRecDepth 100000 in
theorem slX11_at : Cond.selects yX11_at.cls yX11_at yX11_at ∈ WL := wl_t7 79 rfl rfl
set_option maxRecDepth 100000 in
theorem caX11_records : CaOK mX11_records := ⟨wl_t7 112 rfl rfl, wl_t1 16 rfl rfl, by decide, ⟨by decide, by decide⟩, by decide⟩
set_option maxRecDepth 100000 in
theorem inX11_records : Cond.instanceMethod yX11_records ∈ WL := wl_t7 111 rfl rfl
set_option maxRecDepth 100000 in
theorem slX11_records : Cond.selects yX11_records.cls yX11_records yX11_records ∈ WL := wl_s 98 (by decide +kernel) rfl
set_option maxRecDepth 100000 in
theorem caX11_mayGoIn : CaOK mX11_mayGoIn := ⟨wl_t7 96 rfl rfl, wl_t1 16 rfl rfl, by decide, ⟨by decide, by decide⟩, by decide⟩
set_option maxRecDepth 100000 in
theorem inX11_mayGoIn : Cond.instanceMethod yX11_mayGoIn ∈ WL := wl_t7 95 rfl rfl
set_option maxRecDepth 100000 in
theorem slX11_mayGoIn : Cond.selects yX11_mayGoIn.cls yX11_mayGoIn yX11_mayGoIn ∈ WL := wl_s 94 (by decide +kernel) rfl
set_option maxRecDepth 100000 in
theorem caX11_letIn : CaOK mX11_letIn := ⟨wl_t7 92 rfl rfl, wl_t1 16 rfl rfl, by decide, ⟨by decide, by decide⟩, by decide⟩
set_option maxRecDepth 100000 in
theorem inX11_letIn : Cond.instanceMethod yX11_letIn ∈ WL := wl_t7 90 rfl rfl
set_option maxRecDepth 100000 in
theorem slX11_letIn : Cond.selects yX11_letIn.cls yX11_letIn yX11_letIn ∈ WL := wl_t7 91 rfl rfl
set_option maxRecDepth 100000 in
theorem caX11_putOut : CaOK mX11_putOut := ⟨wl_t7 116 rfl rfl, wl_t1 16 rfl rfl, by decide, ⟨by decide, by decide⟩, by decide⟩
set_option maxRecDepth 100000 in
theorem inX11_putOut : Cond.instanceMethod yX11_putOut ∈ WL := wl_t7 114 rfl rfl
set_option maxRecDepth 100000 in
theorem slX11_putOut : Cond.selects yX11_putOut.cls yX11_putOut yX11_putOut ∈ WL := wl_t7 115 rfl rfl
set_option maxRecDepth 100000 in
theorem caX11_sell : CaOK mX11_sell := ⟨wl_t7 120 rfl rfl, wl_t1 16 rfl rfl, by decide, ⟨by decide, by decide⟩, by decide⟩
set_option maxRecDepth 100000 in
theorem inX11_sell : Cond.instanceMethod yX11_sell ∈ WL := wl_t7 118 rfl rfl
set_option maxRecDepth 100000 in
theorem slX11_sell : Cond.selects yX11_sell.cls yX11_sell yX11_sell ∈ WL := wl_t7 119 rfl rfl
set_option maxRecDepth 100000 in
theorem caX11_air : CaOK mX11_air := ⟨wl_t7 124 rfl rfl, wl_t1 16 rfl rfl, by decide, ⟨by decide, by decide⟩, by decide⟩
set_option maxRecDepth 100000 in
theorem inX11_air : Cond.instanceMethod yX11_air ∈ WL := wl_t7 122 rfl rfl
set_option maxRecDepth 100000 in
theorem slX11_air : Cond.selects yX11_air.cls yX11_air yX11_air ∈ WL := wl_t7 123 rfl rfl
set_option maxRecDepth 100000 in
theorem caX11_isLong : CaOK mX11_isLong := ⟨wl_t7 131 rfl rfl, wl_t1 16 rfl rfl, by decide, ⟨by decide, by decide⟩, by decide⟩
set_option maxRecDepth 100000 in
theorem stX11_isLong : Cond.static yX11_isLong ∈ WL := wl_t7 130 rfl rfl
set_option maxRecDepth 100000 in
theorem caX11_weeks : CaOK mX11_weeks := ⟨wl_t7 128 rfl rfl, wl_t1 16 rfl rfl, by decide, ⟨by decide, by decide⟩, by decide⟩
set_option maxRecDepth 100000 in
theorem inX11_weeks : Cond.instanceMethod yX11_weeks ∈ WL := wl_t7 126 rfl rfl
set_option maxRecDepth 100000 in
theorem slX11_weeks : Cond.selects yX11_weeks.cls yX11_weeks yX11_weeks ∈ WL := wl_t7 127 rfl rfl
set_option maxRecDepth 100000 in
theorem caX11_undo : CaOK mX11_undo := ⟨wl_t7 163 rfl rfl, wl_t1 16 rfl rfl, by decide, ⟨by decide, by decide⟩, by decide⟩
set_option maxRecDepth 100000 in
theorem inX11_undo : Cond.instanceMethod yX11_undo ∈ WL := wl_t7 161 rfl rfl
set_option maxRecDepth 100000 in
theorem slX11_undo : Cond.selects yX11_undo.cls yX11_undo yX11_undo ∈ WL := wl_t7 162 rfl rfl
set_option maxRecDepth 100000 in
theorem caX11_lowestOf : CaOK mX11_lowestOf := ⟨wl_t7 178 rfl rfl, wl_t1 16 rfl rfl, by decide, ⟨by decide, by decide⟩, by decide⟩
set_option maxRecDepth 100000 in
theorem stX11_lowestOf : Cond.static yX11_lowestOf ∈ WL := wl_t7 177 rfl rfl
set_option maxRecDepth 100000 in
theorem caX11_isPart : CaOK mX11_isPart := ⟨wl_t7 193 rfl rfl, wl_t1 16 rfl rfl, by decide, ⟨by decide, by decide⟩, by decide⟩
set_option maxRecDepth 100000 in
theorem stX11_isPart : Cond.static yX11_isPart ∈ WL := wl_t7 192 rfl rfl
set_option maxRecDepth 100000 in
theorem caX11_valueAt : CaOK mX11_valueAt := ⟨wl_t7 175 rfl rfl, wl_t1 16 rfl rfl, by decide, ⟨by decide, by decide⟩, by decide⟩
set_option maxRecDepth 100000 in
theorem inX11_valueAt : Cond.instanceMethod yX11_valueAt ∈ WL := wl_t7 174 rfl rfl
set_option maxRecDepth 100000 in
theorem slX11_valueAt : Cond.selects yX11_valueAt.cls yX11_valueAt yX11_valueAt ∈ WL := wl_s 106 (by decide +kernel) rfl
set_option maxRecDepth 100000 in
theorem caX11_fillsValues : CaOK mX11_fillsValues := ⟨wl_t7 171 rfl rfl, wl_t1 16 rfl rfl, by decide, ⟨by decide, by decide⟩, by decide⟩
set_option maxRecDepth 100000 in
theorem inX11_fillsValues : Cond.instanceMethod yX11_fillsValues ∈ WL := wl_t7 170 rfl rfl
set_option maxRecDepth 100000 in
theorem slX11_fillsValues : Cond.selects yX11_fillsValues.cls yX11_fillsValues yX11_fillsValues ∈ WL := wl_s 105 (by decide +kernel) rfl
set_option maxRecDepth 100000 in
theorem caX11_alone : CaOK mX11_alone := ⟨wl_t7 167 rfl rfl, wl_t1 16 rfl rfl, by decide, ⟨by decide, by decide⟩, by decide⟩
set_option maxRecDepth 100000 in
theorem inX11_alone : Cond.instanceMethod yX11_alone ∈ WL := wl_t7 165 rfl rfl
set_option maxRecDepth 100000 in
theorem slX11_alone : Cond.selects yX11_alone.cls yX11_alone yX11_alone ∈ WL := wl_t7 166 rfl rfl
set_option maxRecDepth 100000 in
theorem caX11_bestWith : CaOK mX11_bestWith := ⟨wl_t7 197 rfl rfl, wl_t1 16 rfl rfl, by decide, ⟨by decide, by decide⟩, by decide⟩
set_option maxRecDepth 100000 in
theorem inX11_bestWith : Cond.instanceMethod yX11_bestWith ∈ WL := wl_t7 196 rfl rfl
set_option maxRecDepth 100000 in
theorem slX11_bestWith : Cond.selects yX11_bestWith.cls yX11_bestWith yX11_bestWith ∈ WL := wl_s 109 (by decide +kernel) rfl
set_option maxRecDepth 100000 in
theorem caX11_canBe : CaOK mX11_canBe := ⟨wl_t7 190 rfl rfl, wl_t1 16 rfl rfl, by decide, ⟨by decide, by decide⟩, by decide⟩
set_option maxRecDepth 100000 in
theorem inX11_canBe : Cond.instanceMethod yX11_canBe ∈ WL := wl_t7 189 rfl rfl
set_option maxRecDepth 100000 in
theorem slX11_canBe : Cond.selects yX11_canBe.cls yX11_canBe yX11_canBe ∈ WL := wl_s 108 (by decide +kernel) rfl
set_option maxRecDepth 100000 in
theorem caX11_fillsBest : CaOK mX11_fillsBest := ⟨wl_t7 186 rfl rfl, wl_t1 16 rfl rfl, by decide, ⟨by decide, by decide⟩, by decide⟩
set_option maxRecDepth 100000 in
theorem inX11_fillsBest : Cond.instanceMethod yX11_fillsBest ∈ WL := wl_t7 185 rfl rfl
set_option maxRecDepth 100000 in
theorem slX11_fillsBest : Cond.selects yX11_fillsBest.cls yX11_fillsBest yX11_fillsBest ∈ WL := wl_s 107 (by decide +kernel) rfl
set_option maxRecDepth 100000 in
theorem caX11_leastFor : CaOK mX11_leastFor := ⟨wl_t7 205 rfl rfl, wl_t1 16 rfl rfl, by decide, ⟨by decide, by decide⟩, by decide⟩
set_option maxRecDepth 100000 in
theorem inX11_leastFor : Cond.instanceMethod yX11_leastFor ∈ WL := wl_t7 204 rfl rfl
set_option maxRecDepth 100000 in
theorem slX11_leastFor : Cond.selects yX11_leastFor.cls yX11_leastFor yX11_leastFor ∈ WL := wl_s 111 (by decide +kernel) rfl
set_option maxRecDepth 100000 in
theorem caX11_letting : CaOK mX11_letting := ⟨wl_t7 182 rfl rfl, wl_t1 16 rfl rfl, by decide, ⟨by decide, by decide⟩, by decide⟩
set_option maxRecDepth 100000 in
theorem inX11_letting : Cond.instanceMethod yX11_letting ∈ WL := wl_t7 180 rfl rfl
set_option maxRecDepth 100000 in
theorem slX11_letting : Cond.selects yX11_letting.cls yX11_letting yX11_letting ∈ WL := wl_t7 181 rfl rfl
set_option maxRecDepth 100000 in
theorem caX11_areAllIn : CaOK mX11_areAllIn := ⟨wl_t7 213 rfl rfl, wl_t1 16 rfl rfl, by decide, ⟨by decide, by decide⟩, by decide⟩
set_option maxRecDepth 100000 in
theorem inX11_areAllIn : Cond.instanceMethod yX11_areAllIn ∈ WL := wl_t7 212 rfl rfl
set_option maxRecDepth 100000 in
theorem slX11_areAllIn : Cond.selects yX11_areAllIn.cls yX11_areAllIn yX11_areAllIn ∈ WL := wl_s 112 (by decide +kernel) rfl
set_option maxRecDepth 100000 in
theorem caX11_fewest : CaOK mX11_fewest := ⟨wl_t7 209 rfl rfl, wl_t1 16 rfl rfl, by decide, ⟨by decide, by decide⟩, by decide⟩
set_option maxRecDepth 100000 in
theorem inX11_fewest : Cond.instanceMethod yX11_fewest ∈ WL := wl_t7 207 rfl rfl
set_option maxRecDepth 100000 in
theorem slX11_fewest : Cond.selects yX11_fewest.cls yX11_fewest yX11_fewest ∈ WL := wl_t7 208 rfl rfl
set_option maxRecDepth 100000 in
theorem caX11_isCalm : CaOK mX11_isCalm := ⟨wl_t7 221 rfl rfl, wl_t1 16 rfl rfl, by decide, ⟨by decide, by decide⟩, by decide⟩
set_option maxRecDepth 100000 in
theorem inX11_isCalm : Cond.instanceMethod yX11_isCalm ∈ WL := wl_t7 220 rfl rfl
set_option maxRecDepth 100000 in
theorem slX11_isCalm : Cond.selects yX11_isCalm.cls yX11_isCalm yX11_isCalm ∈ WL := wl_s 113 (by decide +kernel) rfl
set_option maxRecDepth 100000 in
theorem caX11_colours : CaOK mX11_colours := ⟨wl_t7 217 rfl rfl, wl_t1 16 rfl rfl, by decide, ⟨by decide, by decide⟩, by decide⟩
set_option maxRecDepth 100000 in
theorem inX11_colours : Cond.instanceMethod yX11_colours ∈ WL := wl_t7 215 rfl rfl
set_option maxRecDepth 100000 in
theorem slX11_colours : Cond.selects yX11_colours.cls yX11_colours yX11_colours ∈ WL := wl_t7 216 rfl rfl
set_option maxRecDepth 100000 in
theorem caX11_isTangle : CaOK mX11_isTangle := ⟨wl_t7 229 rfl rfl, wl_t1 16 rfl rfl, by decide, ⟨by decide, by decide⟩, by decide⟩
set_option maxRecDepth 100000 in
theorem inX11_isTangle : Cond.instanceMethod yX11_isTangle ∈ WL := wl_t7 228 rfl rfl
set_option maxRecDepth 100000 in
theorem slX11_isTangle : Cond.selects yX11_isTangle.cls yX11_isTangle yX11_isTangle ∈ WL := wl_s 114 (by decide +kernel) rfl
set_option maxRecDepth 100000 in
theorem caX11_tangle : CaOK mX11_tangle := ⟨wl_t7 225 rfl rfl, wl_t1 16 rfl rfl, by decide, ⟨by decide, by decide⟩, by decide⟩
set_option maxRecDepth 100000 in
theorem inX11_tangle : Cond.instanceMethod yX11_tangle ∈ WL := wl_t7 223 rfl rfl
set_option maxRecDepth 100000 in
theorem slX11_tangle : Cond.selects yX11_tangle.cls yX11_tangle yX11_tangle ∈ WL := wl_t7 224 rfl rfl
set_option maxRecDepth 100000 in
theorem caX11_rivals : CaOK mX11_rivals := ⟨wl_t7 233 rfl rfl, wl_t1 16 rfl rfl, by decide, ⟨by decide, by decide⟩, by decide⟩
set_option maxRecDepth 100000 in
theorem inX11_rivals : Cond.instanceMethod yX11_rivals ∈ WL := wl_t7 231 rfl rfl
set_option maxRecDepth 100000 in
theorem slX11_rivals : Cond.selects yX11_rivals.cls yX11_rivals yX11_rivals ∈ WL := wl_t7 232 rfl rfl
set_option maxRecDepth 100000 in
theorem caX11_fitBits : CaOK mX11_fitBits := ⟨wl_t8 1 rfl rfl, wl_t1 16 rfl rfl, by decide, ⟨by decide, by decide⟩, by decide⟩
set_option maxRecDepth 100000 in
theorem inX11_fitBits : Cond.instanceMethod yX11_fitBits ∈ WL := wl_t8 0 rfl rfl
set_option maxRecDepth 100000 in
theorem slX11_fitBits : Cond.selects yX11_fitBits.cls yX11_fitBits yX11_fitBits ∈ WL := wl_s 115 (by decide +kernel) rfl
set_option maxRecDepth 100000 in
theorem caX11_fitting : CaOK mX11_fitting := ⟨wl_t7 237 rfl rfl, wl_t1 16 rfl rfl, by decide, ⟨by decide, by decide⟩, by decide⟩
set_option maxRecDepth 100000 in
theorem inX11_fitting : Cond.instanceMethod yX11_fitting ∈ WL := wl_t7 235 rfl rfl
set_option maxRecDepth 100000 in
theorem slX11_fitting : Cond.selects yX11_fitting.cls yX11_fitting yX11_fitting ∈ WL := wl_t7 236 rfl rfl
set_option maxRecDepth 100000 in
theorem caX11_row : CaOK mX11_row := ⟨wl_t8 5 rfl rfl, wl_t1 16 rfl rfl, by decide, ⟨by decide, by decide⟩, by decide⟩
set_option maxRecDepth 100000 in
theorem inX11_row : Cond.instanceMethod yX11_row ∈ WL := wl_t8 3 rfl rfl
set_option maxRecDepth 100000 in
theorem slX11_row : Cond.selects yX11_row.cls yX11_row yX11_row ∈ WL := wl_t8 4 rfl rfl
set_option maxRecDepth 100000 in
theorem caX11_change : CaOK mX11_change := ⟨wl_t8 9 rfl rfl, wl_t1 16 rfl rfl, by decide, ⟨by decide, by decide⟩, by decide⟩
set_option maxRecDepth 100000 in
theorem inX11_change : Cond.instanceMethod yX11_change ∈ WL := wl_t8 7 rfl rfl
set_option maxRecDepth 100000 in
theorem slX11_change : Cond.selects yX11_change.cls yX11_change yX11_change ∈ WL := wl_t8 8 rfl rfl
set_option maxRecDepth 100000 in
theorem caX11_room : CaOK mX11_room := ⟨wl_t8 13 rfl rfl, wl_t1 16 rfl rfl, by decide, ⟨by decide, by decide⟩, by decide⟩
set_option maxRecDepth 100000 in
theorem inX11_room : Cond.instanceMethod yX11_room ∈ WL := wl_t8 11 rfl rfl
set_option maxRecDepth 100000 in
theorem slX11_room : Cond.selects yX11_room.cls yX11_room yX11_room ∈ WL := wl_t8 12 rfl rfl
set_option maxRecDepth 100000 in
theorem caX11_payer : CaOK mX11_payer := ⟨wl_t8 17 rfl rfl, wl_t1 16 rfl rfl, by decide, ⟨by decide, by decide⟩, by decide⟩
set_option maxRecDepth 100000 in
theorem inX11_payer : Cond.instanceMethod yX11_payer ∈ WL := wl_t8 15 rfl rfl
set_option maxRecDepth 100000 in
theorem slX11_payer : Cond.selects yX11_payer.cls yX11_payer yX11_payer ∈ WL := wl_t8 16 rfl rfl
set_option maxRecDepth 100000 in
theorem caX11_idle : CaOK mX11_idle := ⟨wl_t8 21 rfl rfl, wl_t1 16 rfl rfl, by decide, ⟨by decide, by decide⟩, by decide⟩
set_option maxRecDepth 100000 in
theorem inX11_idle : Cond.instanceMethod yX11_idle ∈ WL := wl_t8 19 rfl rfl
set_option maxRecDepth 100000 in
theorem slX11_idle : Cond.selects yX11_idle.cls yX11_idle yX11_idle ∈ WL := wl_t8 20 rfl rfl
set_option maxRecDepth 100000 in
theorem caX11_gap : CaOK mX11_gap := ⟨wl_t8 25 rfl rfl, wl_t1 16 rfl rfl, by decide, ⟨by decide, by decide⟩, by decide⟩
set_option maxRecDepth 100000 in
theorem inX11_gap : Cond.instanceMethod yX11_gap ∈ WL := wl_t8 23 rfl rfl
set_option maxRecDepth 100000 in
theorem slX11_gap : Cond.selects yX11_gap.cls yX11_gap yX11_gap ∈ WL := wl_t8 24 rfl rfl
set_option maxRecDepth 100000 in
theorem caX11_used : CaOK mX11_used := ⟨wl_t8 29 rfl rfl, wl_t1 16 rfl rfl, by decide, ⟨by decide, by decide⟩, by decide⟩
set_option maxRecDepth 100000 in
theorem inX11_used : Cond.instanceMethod yX11_used ∈ WL := wl_t8 27 rfl rfl
set_option maxRecDepth 100000 in
theorem slX11_used : Cond.selects yX11_used.cls yX11_used yX11_used ∈ WL := wl_t8 28 rfl rfl
set_option maxRecDepth 100000 in
theorem caX11_isWeary : CaOK mX11_isWeary := ⟨wl_t8 41 rfl rfl, wl_t1 16 rfl rfl, by decide, ⟨by decide, by decide⟩, by decide⟩
set_option maxRecDepth 100000 in
theorem inX11_isWeary : Cond.instanceMethod yX11_isWeary ∈ WL := wl_t8 40 rfl rfl
set_option maxRecDepth 100000 in
theorem slX11_isWeary : Cond.selects yX11_isWeary.cls yX11_isWeary yX11_isWeary ∈ WL := wl_s 117 (by decide +kernel) rfl
set_option maxRecDepth 100000 in
theorem caX11_first : CaOK mX11_first := ⟨wl_t8 37 rfl rfl, wl_t1 16 rfl rfl, by decide, ⟨by decide, by decide⟩, by decide⟩
set_option maxRecDepth 100000 in
theorem inX11_first : Cond.instanceMethod yX11_first ∈ WL := wl_t8 35 rfl rfl
set_option maxRecDepth 100000 in
theorem slX11_first : Cond.selects yX11_first.cls yX11_first yX11_first ∈ WL := wl_t8 36 rfl rfl
set_option maxRecDepth 100000 in
theorem caX11_weary : CaOK mX11_weary := ⟨wl_t8 45 rfl rfl, wl_t1 16 rfl rfl, by decide, ⟨by decide, by decide⟩, by decide⟩
set_option maxRecDepth 100000 in
theorem inX11_weary : Cond.instanceMethod yX11_weary ∈ WL := wl_t8 43 rfl rfl
set_option maxRecDepth 100000 in
theorem slX11_weary : Cond.selects yX11_weary.cls yX11_weary yX11_weary ∈ WL := wl_t8 44 rfl rfl
set_option maxRecDepth 100000 in
theorem caX11_isForSale : CaOK mX11_isForSale := ⟨wl_t8 53 rfl rfl, wl_t1 16 rfl rfl, by decide, ⟨by decide, by decide⟩, by decide⟩
set_option maxRecDepth 100000 in
theorem inX11_isForSale : Cond.instanceMethod yX11_isForSale ∈ WL := wl_t8 52 rfl rfl
set_option maxRecDepth 100000 in
theorem slX11_isForSale : Cond.selects yX11_isForSale.cls yX11_isForSale yX11_isForSale ∈ WL := wl_s 118 (by decide +kernel) rfl
set_option maxRecDepth 100000 in
theorem caX11_price : CaOK mX11_price := ⟨wl_t8 49 rfl rfl, wl_t1 16 rfl rfl, by decide, ⟨by decide, by decide⟩, by decide⟩
set_option maxRecDepth 100000 in
theorem inX11_price : Cond.instanceMethod yX11_price ∈ WL := wl_t8 47 rfl rfl
set_option maxRecDepth 100000 in
theorem slX11_price : Cond.selects yX11_price.cls yX11_price yX11_price ∈ WL := wl_t8 48 rfl rfl
set_option maxRecDepth 100000 in
theorem caX11_best : CaOK mX11_best := ⟨wl_t8 57 rfl rfl, wl_t1 16 rfl rfl, by decide, ⟨by decide, by decide⟩, by decide⟩
set_option maxRecDepth 100000 in
theorem inX11_best : Cond.instanceMethod yX11_best ∈ WL := wl_t8 55 rfl rfl
set_option maxRecDepth 100000 in
theorem slX11_best : Cond.selects yX11_best.cls yX11_best yX11_best ∈ WL := wl_t8 56 rfl rfl
set_option maxRecDepth 100000 in
theorem caX11_earned : CaOK mX11_earned := ⟨wl_t8 61 rfl rfl, wl_t1 16 rfl rfl, by decide, ⟨by decide, by decide⟩, by decide⟩
set_option maxRecDepth 100000 in
theorem inX11_earned : Cond.instanceMethod yX11_earned ∈ WL := wl_t8 59 rfl rfl
set_option maxRecDepth 100000 in
theorem slX11_earned : Cond.selects yX11_earned.cls yX11_earned yX11_earned ∈ WL := wl_t8 60 rfl rfl
set_option maxRecDepth 100000 in
theorem caX11_then : CaOK mX11_then := ⟨wl_t8 65 rfl rfl, wl_t1 16 rfl rfl, by decide, ⟨by decide, by decide⟩, by decide⟩
set_option maxRecDepth 100000 in
theorem inX11_then : Cond.instanceMethod yX11_then ∈ WL := wl_t8 63 rfl rfl
set_option maxRecDepth 100000 in
theorem slX11_then : Cond.selects yX11_then.cls yX11_then yX11_then ∈ WL := wl_t8 64 rfl rfl
set_option maxRecDepth 100000 in
theorem caX11_wornIn : CaOK mX11_wornIn := ⟨wl_t8 69 rfl rfl, wl_t1 16 rfl rfl, by decide, ⟨by decide, by decide⟩, by decide⟩
set_option maxRecDepth 100000 in
theorem inX11_wornIn : Cond.instanceMethod yX11_wornIn ∈ WL := wl_t8 67 rfl rfl
set_option maxRecDepth 100000 in
theorem slX11_wornIn : Cond.selects yX11_wornIn.cls yX11_wornIn yX11_wornIn ∈ WL := wl_t8 68 rfl rfl
set_option maxRecDepth 100000 in
theorem caX11_year : CaOK mX11_year := ⟨wl_t8 73 rfl rfl, wl_t1 16 rfl rfl, by decide, ⟨by decide, by decide⟩, by decide⟩
set_option maxRecDepth 100000 in
theorem inX11_year : Cond.instanceMethod yX11_year ∈ WL := wl_t8 71 rfl rfl
set_option maxRecDepth 100000 in
theorem slX11_year : Cond.selects yX11_year.cls yX11_year yX11_year ∈ WL := wl_t8 72 rfl rfl
set_option maxRecDepth 100000 in
theorem caX11_tell : CaOK mX11_tell := ⟨wl_t8 77 rfl rfl, wl_t1 16 rfl rfl, by decide, ⟨by decide, by decide⟩, by decide⟩
set_option maxRecDepth 100000 in
theorem inX11_tell : Cond.instanceMethod yX11_tell ∈ WL := wl_t8 75 rfl rfl
set_option maxRecDepth 100000 in
theorem slX11_tell : Cond.selects yX11_tell.cls yX11_tell yX11_tell ∈ WL := wl_t8 76 rfl rfl
set_option maxRecDepth 100000 in
theorem caX11_forget : CaOK mX11_forget := ⟨wl_t8 81 rfl rfl, wl_t1 16 rfl rfl, by decide, ⟨by decide, by decide⟩, by decide⟩
set_option maxRecDepth 100000 in
theorem inX11_forget : Cond.instanceMethod yX11_forget ∈ WL := wl_t8 79 rfl rfl
set_option maxRecDepth 100000 in
theorem slX11_forget : Cond.selects yX11_forget.cls yX11_forget yX11_forget ∈ WL := wl_t8 80 rfl rfl
set_option maxRecDepth 100000 in
theorem caX11_isThere : CaOK mX11_isThere := ⟨wl_t8 93 rfl rfl, wl_t1 16 rfl rfl, by decide, ⟨by decide, by decide⟩, by decide⟩
set_option maxRecDepth 100000 in
theorem inX11_isThere : Cond.instanceMethod yX11_isThere ∈ WL := wl_t8 92 rfl rfl
set_option maxRecDepth 100000 in
theorem slX11_isThere : Cond.selects yX11_isThere.cls yX11_isThere yX11_isThere ∈ WL := wl_s 120 (by decide +kernel) rfl
set_option maxRecDepth 100000 in
theorem caX11_whoseBits : CaOK mX11_whoseBits := ⟨wl_t8 89 rfl rfl, wl_t1 16 rfl rfl, by decide, ⟨by decide, by decide⟩, by decide⟩
set_option maxRecDepth 100000 in
theorem inX11_whoseBits : Cond.instanceMethod yX11_whoseBits ∈ WL := wl_t8 88 rfl rfl
set_option maxRecDepth 100000 in
theorem slX11_whoseBits : Cond.selects yX11_whoseBits.cls yX11_whoseBits yX11_whoseBits ∈ WL := wl_s 119 (by decide +kernel) rfl
set_option maxRecDepth 100000 in
theorem caX11_whose : CaOK mX11_whose := ⟨wl_t8 85 rfl rfl, wl_t1 16 rfl rfl, by decide, ⟨by decide, by decide⟩, by decide⟩
set_option maxRecDepth 100000 in
theorem inX11_whose : Cond.instanceMethod yX11_whose ∈ WL := wl_t8 83 rfl rfl
set_option maxRecDepth 100000 in
theorem slX11_whose : Cond.selects yX11_whose.cls yX11_whose yX11_whose ∈ WL := wl_t8 84 rfl rfl
set_option maxRecDepth 100000 in
theorem caX11_look : CaOK mX11_look := ⟨wl_t8 97 rfl rfl, wl_t1 16 rfl rfl, by decide, ⟨by decide, by decide⟩, by decide⟩
set_option maxRecDepth 100000 in
theorem inX11_look : Cond.instanceMethod yX11_look ∈ WL := wl_t8 95 rfl rfl
set_option maxRecDepth 100000 in
theorem slX11_look : Cond.selects yX11_look.cls yX11_look yX11_look ∈ WL := wl_t8 96 rfl rfl
set_option maxRecDepth 100000 in
theorem caX11_hold : CaOK mX11_hold := ⟨wl_t8 101 rfl rfl, wl_t1 16 rfl rfl, by decide, ⟨by decide, by decide⟩, by decide⟩
set_option maxRecDepth 100000 in
theorem inX11_hold : Cond.instanceMethod yX11_hold ∈ WL := wl_t8 99 rfl rfl
set_option maxRecDepth 100000 in
theorem slX11_hold : Cond.selects yX11_hold.cls yX11_hold yX11_hold ∈ WL := wl_t8 100 rfl rfl
set_option maxRecDepth 100000 in
theorem caX11_restore : CaOK mX11_restore := ⟨wl_t8 105 rfl rfl, wl_t1 16 rfl rfl, by decide, ⟨by decide, by decide⟩, by decide⟩
set_option maxRecDepth 100000 in
theorem inX11_restore : Cond.instanceMethod yX11_restore ∈ WL := wl_t8 103 rfl rfl
set_option maxRecDepth 100000 in
theorem slX11_restore : Cond.selects yX11_restore.cls yX11_restore yX11_restore ∈ WL := wl_t8 104 rfl rfl
set_option maxRecDepth 100000 in
theorem caX11_sumNow : CaOK mX11_sumNow := ⟨wl_t8 113 rfl rfl, wl_t1 16 rfl rfl, by decide, ⟨by decide, by decide⟩, by decide⟩
set_option maxRecDepth 100000 in
theorem inX11_sumNow : Cond.instanceMethod yX11_sumNow ∈ WL := wl_t8 112 rfl rfl
set_option maxRecDepth 100000 in
theorem slX11_sumNow : Cond.selects yX11_sumNow.cls yX11_sumNow yX11_sumNow ∈ WL := wl_s 121 (by decide +kernel) rfl
set_option maxRecDepth 100000 in
theorem caX11_count : CaOK mX11_count := ⟨wl_t8 109 rfl rfl, wl_t1 16 rfl rfl, by decide, ⟨by decide, by decide⟩, by decide⟩
set_option maxRecDepth 100000 in
theorem inX11_count : Cond.instanceMethod yX11_count ∈ WL := wl_t8 107 rfl rfl
set_option maxRecDepth 100000 in
theorem slX11_count : Cond.selects yX11_count.cls yX11_count yX11_count ∈ WL := wl_t8 108 rfl rfl
set_option maxRecDepth 100000 in
theorem caJ11_isValidCodePoint_9a6ad : CaOK mJ11_isValidCodePoint_9a6ad := ⟨wl_t3 66 rfl rfl, wl_t1 18 rfl rfl, by decide, ⟨by decide, by decide⟩, by decide⟩
set_option maxRecDepth 100000 in
theorem stJ11_isValidCodePoint_9a6ad : Cond.static yJ11_isValidCodePoint_9a6ad ∈ WL := wl_t3 65 rfl rfl
set_option maxRecDepth 100000 in
theorem caJ11_highSurrogate_5068e : CaOK mJ11_highSurrogate_5068e := ⟨wl_t3 69 rfl rfl, wl_t1 18 rfl rfl, by decide, ⟨by decide, by decide⟩, by decide⟩
set_option maxRecDepth 100000 in
theorem stJ11_highSurrogate_5068e : Cond.static yJ11_highSurrogate_5068e ∈ WL := wl_t3 68 rfl rfl
set_option maxRecDepth 100000 in
theorem caJ11_lowSurrogate_5068e : CaOK mJ11_lowSurrogate_5068e := ⟨wl_t3 73 rfl rfl, wl_t1 18 rfl rfl, by decide, ⟨by decide, by decide⟩, by decide⟩
set_option maxRecDepth 100000 in
theorem stJ11_lowSurrogate_5068e : Cond.static yJ11_lowSurrogate_5068e ∈ WL := wl_t3 72 rfl rfl
set_option maxRecDepth 100000 in
theorem caJ6_numberOfTrailingZeros_0f7a4 : CaOK mJ6_numberOfTrailingZeros_0f7a4 := ⟨wl_t4 127 rfl rfl, wl_t1 20 rfl rfl, by decide, ⟨by decide, by decide⟩, by decide⟩
set_option maxRecDepth 100000 in
theorem stJ6_numberOfTrailingZeros_0f7a4 : Cond.static yJ6_numberOfTrailingZeros_0f7a4 ∈ WL := wl_t4 126 rfl rfl
set_option maxRecDepth 100000 in
theorem caJ6_bitCount_0f7a4 : CaOK mJ6_bitCount_0f7a4 := ⟨wl_t3 211 rfl rfl, wl_t1 20 rfl rfl, by decide, ⟨by decide, by decide⟩, by decide⟩
set_option maxRecDepth 100000 in
theorem stJ6_bitCount_0f7a4 : Cond.static yJ6_bitCount_0f7a4 ∈ WL := wl_t3 210 rfl rfl
set_option maxRecDepth 100000 in
theorem caJ13_bitCount_95d88 : CaOK mJ13_bitCount_95d88 := ⟨wl_t3 205 rfl rfl, wl_t1 19 rfl rfl, by decide, ⟨by decide, by decide⟩, by decide⟩
set_option maxRecDepth 100000 in
theorem stJ13_bitCount_95d88 : Cond.static yJ13_bitCount_95d88 ∈ WL := wl_t3 204 rfl rfl
set_option maxRecDepth 100000 in
theorem coJ9_max_7cf53 : Cond.code yJ9_max_7cf53 cJ9_max_7cf53 2 (some .int) ∈ WL := wl_t3 33 rfl rfl
set_option maxRecDepth 100000 in
theorem stJ9_max_7cf53 : Cond.static yJ9_max_7cf53 ∈ WL := wl_t3 32 rfl rfl
set_option maxRecDepth 100000 in
theorem iiJ9_max_7cf53 : Cond.initialized RJ9 ∈ WL := wl_t1 17 rfl rfl
set_option maxRecDepth 100000 in
theorem coJ9_min_7cf53 : Cond.code yJ9_min_7cf53 cJ9_min_7cf53 2 (some .int) ∈ WL := wl_t3 36 rfl rfl
set_option maxRecDepth 100000 in
theorem stJ9_min_7cf53 : Cond.static yJ9_min_7cf53 ∈ WL := wl_t3 35 rfl rfl
set_option maxRecDepth 100000 in
theorem iiJ9_min_7cf53 : Cond.initialized RJ9 ∈ WL := wl_t1 17 rfl rfl
set_option maxRecDepth 100000 in
theorem caJ0_length_8abf5 : CaOK mJ0_length_8abf5 := ⟨wl_t1 62 rfl rfl, wl_t1 5 rfl rfl, by decide, ⟨by decide, by decide⟩, by decide⟩
set_option maxRecDepth 100000 in
theorem inJ0_length_8abf5 : Cond.instanceMethod yJ0_length_8abf5 ∈ WL := wl_t1 60 rfl rfl
set_option maxRecDepth 100000 in
theorem slJ0_length_8abf5 : Cond.selects yJ0_length_8abf5.cls yJ0_length_8abf5 yJ0_length_8abf5 ∈ WL := wl_t1 61 rfl rfl
set_option maxRecDepth 100000 in
theorem caJ0_charAt_5068e : CaOK mJ0_charAt_5068e := ⟨wl_t1 72 rfl rfl, wl_t1 5 rfl rfl, by decide, ⟨by decide, by decide⟩, by decide⟩
set_option maxRecDepth 100000 in
theorem inJ0_charAt_5068e : Cond.instanceMethod yJ0_charAt_5068e ∈ WL := wl_t1 70 rfl rfl
set_option maxRecDepth 100000 in
theorem slJ0_charAt_5068e : Cond.selects yJ0_charAt_5068e.cls yJ0_charAt_5068e yJ0_charAt_5068e ∈ WL := wl_t1 71 rfl rfl
set_option maxRecDepth 100000 in
theorem caJ0_indexOf_0f7a4 : CaOK mJ0_indexOf_0f7a4 := ⟨wl_t3 19 rfl rfl, wl_t1 5 rfl rfl, by decide, ⟨by decide, by decide⟩, by decide⟩
set_option maxRecDepth 100000 in
theorem inJ0_indexOf_0f7a4 : Cond.instanceMethod yJ0_indexOf_0f7a4 ∈ WL := wl_t3 17 rfl rfl
set_option maxRecDepth 100000 in
theorem slJ0_indexOf_0f7a4 : Cond.selects yJ0_indexOf_0f7a4.cls yJ0_indexOf_0f7a4 yJ0_indexOf_0f7a4 ∈ WL := wl_t3 18 rfl rfl
set_option maxRecDepth 100000 in
theorem caJ0_indexOf_7cf53 : CaOK mJ0_indexOf_7cf53 := ⟨wl_t3 23 rfl rfl, wl_t1 5 rfl rfl, by decide, ⟨by decide, by decide⟩, by decide⟩
set_option maxRecDepth 100000 in
theorem inJ0_indexOf_7cf53 : Cond.instanceMethod yJ0_indexOf_7cf53 ∈ WL := wl_t3 21 rfl rfl
set_option maxRecDepth 100000 in
theorem slJ0_indexOf_7cf53 : Cond.selects yJ0_indexOf_7cf53.cls yJ0_indexOf_7cf53 yJ0_indexOf_7cf53 ∈ WL := wl_t3 22 rfl rfl
set_option maxRecDepth 100000 in
theorem caJ0_coder_7d493 : CaOK mJ0_coder_7d493 := ⟨wl_t1 66 rfl rfl, wl_t1 5 rfl rfl, by decide, ⟨by decide, by decide⟩, by decide⟩
set_option maxRecDepth 100000 in
theorem inJ0_coder_7d493 : Cond.instanceMethod yJ0_coder_7d493 ∈ WL := wl_t1 64 rfl rfl
set_option maxRecDepth 100000 in
theorem slJ0_coder_7d493 : Cond.selects yJ0_coder_7d493.cls yJ0_coder_7d493 yJ0_coder_7d493 ∈ WL := wl_t1 65 rfl rfl
set_option maxRecDepth 100000 in
theorem caJ0_isLatin1_aae02 : CaOK mJ0_isLatin1_aae02 := ⟨wl_t1 76 rfl rfl, wl_t1 5 rfl rfl, by decide, ⟨by decide, by decide⟩, by decide⟩
set_option maxRecDepth 100000 in
theorem inJ0_isLatin1_aae02 : Cond.instanceMethod yJ0_isLatin1_aae02 ∈ WL := wl_t1 74 rfl rfl
set_option maxRecDepth 100000 in
theorem slJ0_isLatin1_aae02 : Cond.selects yJ0_isLatin1_aae02.cls yJ0_isLatin1_aae02 yJ0_isLatin1_aae02 ∈ WL := wl_t1 75 rfl rfl
set_option maxRecDepth 100000 in
theorem caJ0_checkIndex_df160 : CaOK mJ0_checkIndex_df160 := ⟨wl_t1 82 rfl rfl, wl_t1 5 rfl rfl, by decide, ⟨by decide, by decide⟩, by decide⟩
set_option maxRecDepth 100000 in
theorem stJ0_checkIndex_df160 : Cond.static yJ0_checkIndex_df160 ∈ WL := wl_t1 81 rfl rfl
set_option maxRecDepth 100000 in
theorem caJ0_checkBoundsBeginEnd_23922 : CaOK mJ0_checkBoundsBeginEnd_23922 := ⟨wl_t3 54 rfl rfl, wl_t1 5 rfl rfl, by decide, ⟨by decide, by decide⟩, by decide⟩
set_option maxRecDepth 100000 in
theorem stJ0_checkBoundsBeginEnd_23922 : Cond.static yJ0_checkBoundsBeginEnd_23922 ∈ WL := wl_t3 53 rfl rfl
set_option maxRecDepth 100000 in
theorem caJ1_charAt_3b067 : CaOK mJ1_charAt_3b067 := ⟨wl_t1 79 rfl rfl, wl_t1 6 rfl rfl, by decide, ⟨by decide, by decide⟩, by decide⟩
set_option maxRecDepth 100000 in
theorem stJ1_charAt_3b067 : Cond.static yJ1_charAt_3b067 ∈ WL := wl_t1 78 rfl rfl
set_option maxRecDepth 100000 in
theorem caJ1_canEncode_9a6ad : CaOK mJ1_canEncode_9a6ad := ⟨wl_t3 30 rfl rfl, wl_t1 6 rfl rfl, by decide, ⟨by decide, by decide⟩, by decide⟩
set_option maxRecDepth 100000 in
theorem stJ1_canEncode_9a6ad : Cond.static yJ1_canEncode_9a6ad ∈ WL := wl_t3 29 rfl rfl
set_option maxRecDepth 100000 in
theorem caJ1_indexOf_4cfef : CaOK mJ1_indexOf_4cfef := ⟨wl_t3 27 rfl rfl, wl_t1 6 rfl rfl, by decide, ⟨by decide, by decide⟩, by decide⟩
set_option maxRecDepth 100000 in
theorem stJ1_indexOf_4cfef : Cond.static yJ1_indexOf_4cfef ∈ WL := wl_t3 26 rfl rfl
set_option maxRecDepth 100000 in
theorem caJ1_indexOfChar_4cfef : CaOK mJ1_indexOfChar_4cfef := ⟨wl_t3 39 rfl rfl, wl_t1 6 rfl rfl, by decide, ⟨by decide, by decide⟩, by decide⟩
set_option maxRecDepth 100000 in
theorem stJ1_indexOfChar_4cfef : Cond.static yJ1_indexOfChar_4cfef ∈ WL := wl_t3 38 rfl rfl
set_option maxRecDepth 100000 in
theorem caJ2_getChar_3b067 : CaOK mJ2_getChar_3b067 := ⟨wl_t1 100 rfl rfl, wl_t1 8 rfl rfl, by decide, ⟨by decide, by decide⟩, by decide⟩
set_option maxRecDepth 100000 in
theorem stJ2_getChar_3b067 : Cond.static yJ2_getChar_3b067 ∈ WL := wl_t1 99 rfl rfl
set_option maxRecDepth 100000 in
theorem caJ2_length_9d52b : CaOK mJ2_length_9d52b := ⟨wl_t1 96 rfl rfl, wl_t1 8 rfl rfl, by decide, ⟨by decide, by decide⟩, by decide⟩
set_option maxRecDepth 100000 in
theorem stJ2_length_9d52b : Cond.static yJ2_length_9d52b ∈ WL := wl_t1 95 rfl rfl
set_option maxRecDepth 100000 in
theorem caJ2_indexOf_4cfef : CaOK mJ2_indexOf_4cfef := ⟨wl_t3 42 rfl rfl, wl_t1 8 rfl rfl, by decide, ⟨by decide, by decide⟩, by decide⟩
set_option maxRecDepth 100000 in
theorem stJ2_indexOf_4cfef : Cond.static yJ2_indexOf_4cfef ∈ WL := wl_t3 41 rfl rfl
set_option maxRecDepth 100000 in
theorem caJ2_indexOfChar_4cfef : CaOK mJ2_indexOfChar_4cfef := ⟨wl_t3 48 rfl rfl, wl_t1 8 rfl rfl, by decide, ⟨by decide, by decide⟩, by decide⟩
set_option maxRecDepth 100000 in
theorem stJ2_indexOfChar_4cfef : Cond.static yJ2_indexOfChar_4cfef ∈ WL := wl_t3 47 rfl rfl
set_option maxRecDepth 100000 in
theorem caJ2_indexOfCharUnsafe_4cfef : CaOK mJ2_indexOfCharUnsafe_4cfef := ⟨wl_t3 60 rfl rfl, wl_t1 8 rfl rfl, by decide, ⟨by decide, by decide⟩, by decide⟩
set_option maxRecDepth 100000 in
theorem stJ2_indexOfCharUnsafe_4cfef : Cond.static yJ2_indexOfCharUnsafe_4cfef ∈ WL := wl_t3 59 rfl rfl
set_option maxRecDepth 100000 in
theorem caJ2_indexOfSupplementary_4cfef : CaOK mJ2_indexOfSupplementary_4cfef := ⟨wl_t3 63 rfl rfl, wl_t1 8 rfl rfl, by decide, ⟨by decide, by decide⟩, by decide⟩
set_option maxRecDepth 100000 in
theorem stJ2_indexOfSupplementary_4cfef : Cond.static yJ2_indexOfSupplementary_4cfef ∈ WL := wl_t3 62 rfl rfl
set_option maxRecDepth 100000 in
theorem caJ2_charAt_3b067 : CaOK mJ2_charAt_3b067 := ⟨wl_t1 90 rfl rfl, wl_t1 8 rfl rfl, by decide, ⟨by decide, by decide⟩, by decide⟩
set_option maxRecDepth 100000 in
theorem stJ2_charAt_3b067 : Cond.static yJ2_charAt_3b067 ∈ WL := wl_t1 89 rfl rfl
set_option maxRecDepth 100000 in
theorem caJ2_checkIndex_2214a : CaOK mJ2_checkIndex_2214a := ⟨wl_t1 93 rfl rfl, wl_t1 8 rfl rfl, by decide, ⟨by decide, by decide⟩, by decide⟩
set_option maxRecDepth 100000 in
theorem stJ2_checkIndex_2214a : Cond.static yJ2_checkIndex_2214a ∈ WL := wl_t1 92 rfl rfl
set_option maxRecDepth 100000 in
theorem caJ2_checkBoundsBeginEnd_d044e : CaOK mJ2_checkBoundsBeginEnd_d044e := ⟨wl_t3 51 rfl rfl, wl_t1 8 rfl rfl, by decide, ⟨by decide, by decide⟩, by decide⟩
set_option maxRecDepth 100000 in
theorem stJ2_checkBoundsBeginEnd_d044e : Cond.static yJ2_checkBoundsBeginEnd_d044e ∈ WL := wl_t3 50 rfl rfl
set_option maxRecDepth 100000 in
theorem caJ3_checkIndex_8e157 : CaOK mJ3_checkIndex_8e157 := ⟨wl_t1 87 rfl rfl, wl_t1 7 rfl rfl, by decide, ⟨by decide, by decide⟩, by decide⟩
set_option maxRecDepth 100000 in
theorem stJ3_checkIndex_8e157 : Cond.static yJ3_checkIndex_8e157 ∈ WL := wl_t1 86 rfl rfl
set_option maxRecDepth 100000 in
theorem caJ3_checkFromToIndex_8c36e : CaOK mJ3_checkFromToIndex_8c36e := ⟨wl_t3 57 rfl rfl, wl_t1 7 rfl rfl, by decide, ⟨by decide, by decide⟩, by decide⟩
set_option maxRecDepth 100000 in
theorem stJ3_checkFromToIndex_8c36e : Cond.static yJ3_checkFromToIndex_8c36e ∈ WL := wl_t3 56 rfl rfl
set_option maxRecDepth 100000 in
theorem fJ0_9 : Cond.fieldLink RJ0 9 "java/lang/String" "value" "[B" ∈ WL := wl_t8 114 rfl rfl
set_option maxRecDepth 100000 in
theorem fJ0_15 : Cond.fieldLink RJ0 15 "java/lang/String" "coder" "B" ∈ WL := wl_t8 115 rfl rfl
set_option maxRecDepth 100000 in
theorem fJ0_38 : Cond.fieldLink RJ0 38 "java/lang/String" "COMPACT_STRINGS" "Z" ∈ WL := wl_t1 67 rfl rfl
set_option maxRecDepth 100000 in
theorem lJ0_335 : Cond.methodLink RJ0 335 yJ0_coder_7d493 ∈ WL := wl_t1 63 rfl rfl
set_option maxRecDepth 100000 in
theorem lJ0_492 : Cond.methodLink RJ0 492 yJ0_isLatin1_aae02 ∈ WL := wl_t1 73 rfl rfl
set_option maxRecDepth 100000 in
theorem lJ0_495 : Cond.methodLink RJ0 495 yJ1_charAt_3b067 ∈ WL := wl_t1 77 rfl rfl
set_option maxRecDepth 100000 in
theorem lJ0_498 : Cond.methodLink RJ0 498 yJ2_charAt_3b067 ∈ WL := wl_t1 88 rfl rfl
set_option maxRecDepth 100000 in
theorem lJ0_505 : Cond.methodLink RJ0 505 yJ0_length_8abf5 ∈ WL := wl_t3 24 rfl rfl
set_option maxRecDepth 100000 in
theorem lJ0_633 : Cond.methodLink RJ0 633 yJ0_indexOf_7cf53 ∈ WL := wl_t3 20 rfl rfl
set_option maxRecDepth 100000 in
theorem lJ0_637 : Cond.methodLink RJ0 637 yJ1_indexOf_4cfef ∈ WL := wl_t3 25 rfl rfl
set_option maxRecDepth 100000 in
theorem lJ0_640 : Cond.methodLink RJ0 640 yJ2_indexOf_4cfef ∈ WL := wl_t3 40 rfl rfl
set_option maxRecDepth 100000 in
theorem fJ0_1053 : Cond.fieldLink RJ0 1053 "jdk/internal/util/Preconditions" "SIOOBE_FORMATTER" "Ljava/util/function/BiFunction;" ∈ WL := wl_t1 83 rfl rfl
set_option maxRecDepth 100000 in
theorem lJ0_1059 : Cond.methodLink RJ0 1059 yJ3_checkIndex_8e157 ∈ WL := wl_t1 85 rfl rfl
set_option maxRecDepth 100000 in
theorem lJ0_1062 : Cond.methodLink RJ0 1062 yJ3_checkFromToIndex_8c36e ∈ WL := wl_t3 55 rfl rfl
set_option maxRecDepth 100000 in
theorem lJ1_9 : Cond.methodLink RJ1 9 yJ0_checkIndex_df160 ∈ WL := wl_t1 80 rfl rfl
set_option maxRecDepth 100000 in
theorem lJ1_38 : Cond.methodLink RJ1 38 yJ9_min_7cf53 ∈ WL := wl_t3 34 rfl rfl
set_option maxRecDepth 100000 in
theorem lJ1_88 : Cond.methodLink RJ1 88 yJ1_canEncode_9a6ad ∈ WL := wl_t3 28 rfl rfl
set_option maxRecDepth 100000 in
theorem lJ1_92 : Cond.methodLink RJ1 92 yJ9_max_7cf53 ∈ WL := wl_t3 31 rfl rfl
set_option maxRecDepth 100000 in
theorem lJ1_95 : Cond.methodLink RJ1 95 yJ1_indexOfChar_4cfef ∈ WL := wl_t3 37 rfl rfl
set_option maxRecDepth 100000 in
theorem lJ11_76 : Cond.constant RJ11 76 (56320) ∈ WL := wl_t3 74 rfl rfl
set_option maxRecDepth 100000 in
theorem lJ11_110 : Cond.constant RJ11 110 (55232) ∈ WL := wl_t3 70 rfl rfl
set_option maxRecDepth 100000 in
theorem lJ13_314 : Cond.constantLong RJ13 314 (6148914691236517205) ∈ WL := wl_t3 206 rfl rfl
set_option maxRecDepth 100000 in
theorem lJ13_316 : Cond.constantLong RJ13 316 (3689348814741910323) ∈ WL := wl_t3 207 rfl rfl
set_option maxRecDepth 100000 in
theorem lJ13_318 : Cond.constantLong RJ13 318 (1085102592571150095) ∈ WL := wl_t3 208 rfl rfl
set_option maxRecDepth 100000 in
theorem fJ2_44 : Cond.fieldLink RJ2 44 "java/lang/StringUTF16" "$assertionsDisabled" "Z" ∈ WL := wl_t1 101 rfl rfl
set_option maxRecDepth 100000 in
theorem lJ2_48 : Cond.methodLink RJ2 48 yJ2_length_9d52b ∈ WL := wl_t1 94 rfl rfl
set_option maxRecDepth 100000 in
theorem fJ2_59 : Cond.fieldLink RJ2 59 "java/lang/StringUTF16" "HI_BYTE_SHIFT" "I" ∈ WL := wl_t1 103 rfl rfl
set_option maxRecDepth 100000 in
theorem fJ2_63 : Cond.fieldLink RJ2 63 "java/lang/StringUTF16" "LO_BYTE_SHIFT" "I" ∈ WL := wl_t1 105 rfl rfl
set_option maxRecDepth 100000 in
theorem lJ2_67 : Cond.methodLink RJ2 67 yJ2_checkIndex_2214a ∈ WL := wl_t1 91 rfl rfl
set_option maxRecDepth 100000 in
theorem lJ2_71 : Cond.methodLink RJ2 71 yJ2_getChar_3b067 ∈ WL := wl_t1 98 rfl rfl
set_option maxRecDepth 100000 in
theorem lJ2_96 : Cond.methodLink RJ2 96 yJ2_checkBoundsBeginEnd_d044e ∈ WL := wl_t3 49 rfl rfl
set_option maxRecDepth 100000 in
theorem lJ2_157 : Cond.methodLink RJ2 157 yJ11_highSurrogate_5068e ∈ WL := wl_t3 67 rfl rfl
set_option maxRecDepth 100000 in
theorem lJ2_161 : Cond.methodLink RJ2 161 yJ11_lowSurrogate_5068e ∈ WL := wl_t3 71 rfl rfl
set_option maxRecDepth 100000 in
theorem lJ2_164 : Cond.methodLink RJ2 164 yJ11_isValidCodePoint_9a6ad ∈ WL := wl_t3 64 rfl rfl
set_option maxRecDepth 100000 in
theorem lJ2_183 : Cond.methodLink RJ2 183 yJ9_min_7cf53 ∈ WL := wl_t3 44 rfl rfl
set_option maxRecDepth 100000 in
theorem lJ2_224 : Cond.methodLink RJ2 224 yJ9_max_7cf53 ∈ WL := wl_t3 43 rfl rfl
set_option maxRecDepth 100000 in
theorem lJ2_227 : Cond.constant RJ2 227 (65536) ∈ WL := wl_t3 45 rfl rfl
set_option maxRecDepth 100000 in
theorem lJ2_228 : Cond.methodLink RJ2 228 yJ2_indexOfChar_4cfef ∈ WL := wl_t3 46 rfl rfl
set_option maxRecDepth 100000 in
theorem lJ2_232 : Cond.methodLink RJ2 232 yJ2_indexOfSupplementary_4cfef ∈ WL := wl_t3 61 rfl rfl
set_option maxRecDepth 100000 in
theorem lJ2_241 : Cond.methodLink RJ2 241 yJ0_checkBoundsBeginEnd_23922 ∈ WL := wl_t3 52 rfl rfl
set_option maxRecDepth 100000 in
theorem lJ2_244 : Cond.methodLink RJ2 244 yJ2_indexOfCharUnsafe_4cfef ∈ WL := wl_t3 58 rfl rfl
set_option maxRecDepth 100000 in
theorem lJ2_414 : Cond.methodLink RJ2 414 yJ0_checkIndex_df160 ∈ WL := wl_t1 97 rfl rfl
set_option maxRecDepth 100000 in
theorem lJ6_264 : Cond.constant RJ6 264 (65536) ∈ WL := wl_t4 128 rfl rfl
set_option maxRecDepth 100000 in
theorem lJ6_265 : Cond.constant RJ6 265 (1431655765) ∈ WL := wl_t3 212 rfl rfl
set_option maxRecDepth 100000 in
theorem lJ6_266 : Cond.constant RJ6 266 (858993459) ∈ WL := wl_t3 213 rfl rfl
set_option maxRecDepth 100000 in
theorem lJ6_267 : Cond.constant RJ6 267 (252645135) ∈ WL := wl_t3 214 rfl rfl
set_option maxRecDepth 100000 in
theorem lL_7 : Cond.classLink RL 7 RX10 ∈ WL := wl_t1 21 rfl rfl
set_option maxRecDepth 100000 in
theorem lL_9 : Cond.methodLink RL 9 yX10_init ∈ WL := wl_t1 23 rfl rfl
set_option maxRecDepth 100000 in
theorem lL_10 : Cond.classLink RL 10 RX11 ∈ WL := wl_t5 124 rfl rfl
set_option maxRecDepth 100000 in
theorem lL_12 : Cond.methodLink RL 12 yX11_init ∈ WL := wl_t5 126 rfl rfl
set_option maxRecDepth 100000 in
theorem lL_13 : Cond.methodLink RL 13 yX10_feed ∈ WL := wl_t2 193 rfl rfl
set_option maxRecDepth 100000 in
theorem lL_17 : Cond.methodLink RL 17 yX11_feed ∈ WL := wl_t6 110 rfl rfl
set_option maxRecDepth 100000 in
theorem lL_18 : Cond.methodLink RL 18 yX10_back ∈ WL := wl_t2 205 rfl rfl
set_option maxRecDepth 100000 in
theorem lL_22 : Cond.methodLink RL 22 yX11_back ∈ WL := wl_t6 118 rfl rfl
set_option maxRecDepth 100000 in
theorem lL_23 : Cond.methodLink RL 23 yX10_read ∈ WL := wl_t2 209 rfl rfl
set_option maxRecDepth 100000 in
theorem lL_27 : Cond.methodLink RL 27 yX11_read ∈ WL := wl_t6 122 rfl rfl
set_option maxRecDepth 100000 in
theorem lL_28 : Cond.methodLink RL 28 yX10_place ∈ WL := wl_t3 171 rfl rfl
set_option maxRecDepth 100000 in
theorem lL_31 : Cond.methodLink RL 31 yX11_place ∈ WL := wl_t6 224 rfl rfl
set_option maxRecDepth 100000 in
theorem lL_32 : Cond.methodLink RL 32 yX10_sunday ∈ WL := wl_t3 175 rfl rfl
set_option maxRecDepth 100000 in
theorem lL_36 : Cond.methodLink RL 36 yX11_sunday ∈ WL := wl_t6 228 rfl rfl
set_option maxRecDepth 100000 in
theorem lL_37 : Cond.methodLink RL 37 yX10_guest ∈ WL := wl_t3 229 rfl rfl
set_option maxRecDepth 100000 in
theorem lL_40 : Cond.methodLink RL 40 yX11_guest ∈ WL := wl_t7 41 rfl rfl
set_option maxRecDepth 100000 in
theorem lL_41 : Cond.methodLink RL 41 yX10_at ∈ WL := wl_t4 18 rfl rfl
set_option maxRecDepth 100000 in
theorem lL_44 : Cond.methodLink RL 44 yX11_at ∈ WL := wl_t7 77 rfl rfl
set_option maxRecDepth 100000 in
theorem lL_45 : Cond.methodLink RL 45 yX10_letIn ∈ WL := wl_t4 27 rfl rfl
set_option maxRecDepth 100000 in
theorem lL_49 : Cond.methodLink RL 49 yX11_letIn ∈ WL := wl_t7 89 rfl rfl
set_option maxRecDepth 100000 in
theorem lL_50 : Cond.methodLink RL 50 yX10_putOut ∈ WL := wl_t4 48 rfl rfl
set_option maxRecDepth 100000 in
theorem lL_54 : Cond.methodLink RL 54 yX11_putOut ∈ WL := wl_t7 113 rfl rfl
set_option maxRecDepth 100000 in
theorem lL_55 : Cond.methodLink RL 55 yX10_sell ∈ WL := wl_t4 56 rfl rfl
set_option maxRecDepth 100000 in
theorem lL_58 : Cond.methodLink RL 58 yX11_sell ∈ WL := wl_t7 117 rfl rfl
set_option maxRecDepth 100000 in
theorem lL_59 : Cond.methodLink RL 59 yX10_air ∈ WL := wl_t4 60 rfl rfl
set_option maxRecDepth 100000 in
theorem lL_62 : Cond.methodLink RL 62 yX11_air ∈ WL := wl_t7 121 rfl rfl
set_option maxRecDepth 100000 in
theorem lL_63 : Cond.methodLink RL 63 yX10_weeks ∈ WL := wl_t4 64 rfl rfl
set_option maxRecDepth 100000 in
theorem lL_66 : Cond.methodLink RL 66 yX11_weeks ∈ WL := wl_t7 125 rfl rfl
set_option maxRecDepth 100000 in
theorem lL_67 : Cond.methodLink RL 67 yX10_undo ∈ WL := wl_t4 98 rfl rfl
set_option maxRecDepth 100000 in
theorem lL_71 : Cond.methodLink RL 71 yX11_undo ∈ WL := wl_t7 160 rfl rfl
set_option maxRecDepth 100000 in
theorem lL_72 : Cond.methodLink RL 72 yX10_alone ∈ WL := wl_t4 106 rfl rfl
set_option maxRecDepth 100000 in
theorem lL_75 : Cond.methodLink RL 75 yX11_alone ∈ WL := wl_t7 164 rfl rfl
set_option maxRecDepth 100000 in
theorem lL_76 : Cond.methodLink RL 76 yX10_letting ∈ WL := wl_t4 133 rfl rfl
set_option maxRecDepth 100000 in
theorem lL_79 : Cond.methodLink RL 79 yX11_letting ∈ WL := wl_t7 179 rfl rfl
set_option maxRecDepth 100000 in
theorem lL_80 : Cond.methodLink RL 80 yX10_fewest ∈ WL := wl_t4 158 rfl rfl
set_option maxRecDepth 100000 in
theorem lL_83 : Cond.methodLink RL 83 yX11_fewest ∈ WL := wl_t7 206 rfl rfl
set_option maxRecDepth 100000 in
theorem lL_84 : Cond.methodLink RL 84 yX10_colours ∈ WL := wl_t4 174 rfl rfl
set_option maxRecDepth 100000 in
theorem lL_87 : Cond.methodLink RL 87 yX11_colours ∈ WL := wl_t7 214 rfl rfl
set_option maxRecDepth 100000 in
theorem lL_88 : Cond.methodLink RL 88 yX10_tangle ∈ WL := wl_t4 182 rfl rfl
set_option maxRecDepth 100000 in
theorem lL_91 : Cond.methodLink RL 91 yX11_tangle ∈ WL := wl_t7 222 rfl rfl
set_option maxRecDepth 100000 in
theorem lL_92 : Cond.methodLink RL 92 yX10_fitting ∈ WL := wl_t4 195 rfl rfl
set_option maxRecDepth 100000 in
theorem lL_95 : Cond.methodLink RL 95 yX11_fitting ∈ WL := wl_t7 234 rfl rfl
set_option maxRecDepth 100000 in
theorem lL_96 : Cond.methodLink RL 96 yX10_row ∈ WL := wl_t4 203 rfl rfl
set_option maxRecDepth 100000 in
theorem lL_99 : Cond.methodLink RL 99 yX11_row ∈ WL := wl_t8 2 rfl rfl
set_option maxRecDepth 100000 in
theorem lL_100 : Cond.methodLink RL 100 yX10_change ∈ WL := wl_t4 211 rfl rfl
set_option maxRecDepth 100000 in
theorem lL_103 : Cond.methodLink RL 103 yX11_change ∈ WL := wl_t8 6 rfl rfl
set_option maxRecDepth 100000 in
theorem lL_104 : Cond.methodLink RL 104 yX10_payer ∈ WL := wl_t4 215 rfl rfl
set_option maxRecDepth 100000 in
theorem lL_107 : Cond.methodLink RL 107 yX11_payer ∈ WL := wl_t8 14 rfl rfl
set_option maxRecDepth 100000 in
theorem lL_108 : Cond.methodLink RL 108 yX10_idle ∈ WL := wl_t4 219 rfl rfl
set_option maxRecDepth 100000 in
theorem lL_111 : Cond.methodLink RL 111 yX11_idle ∈ WL := wl_t8 18 rfl rfl
set_option maxRecDepth 100000 in
theorem lL_112 : Cond.methodLink RL 112 yX10_used ∈ WL := wl_t4 224 rfl rfl
set_option maxRecDepth 100000 in
theorem lL_115 : Cond.methodLink RL 115 yX11_used ∈ WL := wl_t8 26 rfl rfl
set_option maxRecDepth 100000 in
theorem lL_116 : Cond.methodLink RL 116 yX10_first ∈ WL := wl_t4 233 rfl rfl
set_option maxRecDepth 100000 in
theorem lL_119 : Cond.methodLink RL 119 yX11_first ∈ WL := wl_t8 34 rfl rfl
set_option maxRecDepth 100000 in
theorem lL_120 : Cond.methodLink RL 120 yX10_gap ∈ WL := wl_t5 1 rfl rfl
set_option maxRecDepth 100000 in
theorem lL_123 : Cond.methodLink RL 123 yX11_gap ∈ WL := wl_t8 22 rfl rfl
set_option maxRecDepth 100000 in
theorem lL_124 : Cond.methodLink RL 124 yX10_room ∈ WL := wl_t5 6 rfl rfl
set_option maxRecDepth 100000 in
theorem lL_127 : Cond.methodLink RL 127 yX11_room ∈ WL := wl_t8 10 rfl rfl
set_option maxRecDepth 100000 in
theorem lL_128 : Cond.methodLink RL 128 yX10_price ∈ WL := wl_t5 10 rfl rfl
set_option maxRecDepth 100000 in
theorem lL_131 : Cond.methodLink RL 131 yX11_price ∈ WL := wl_t8 46 rfl rfl
set_option maxRecDepth 100000 in
theorem lL_132 : Cond.methodLink RL 132 yX10_best ∈ WL := wl_t5 14 rfl rfl
set_option maxRecDepth 100000 in
theorem lL_136 : Cond.methodLink RL 136 yX11_best ∈ WL := wl_t8 54 rfl rfl
set_option maxRecDepth 100000 in
theorem lL_137 : Cond.methodLink RL 137 yX10_weary ∈ WL := wl_t5 18 rfl rfl
set_option maxRecDepth 100000 in
theorem lL_140 : Cond.methodLink RL 140 yX11_weary ∈ WL := wl_t8 42 rfl rfl
set_option maxRecDepth 100000 in
theorem lL_141 : Cond.methodLink RL 141 yX10_earned ∈ WL := wl_t5 22 rfl rfl
set_option maxRecDepth 100000 in
theorem lL_144 : Cond.methodLink RL 144 yX11_earned ∈ WL := wl_t8 58 rfl rfl
set_option maxRecDepth 100000 in
theorem lL_145 : Cond.methodLink RL 145 yX10_rivals ∈ WL := wl_t5 26 rfl rfl
set_option maxRecDepth 100000 in
theorem lL_148 : Cond.methodLink RL 148 yX11_rivals ∈ WL := wl_t7 230 rfl rfl
set_option maxRecDepth 100000 in
theorem lL_149 : Cond.methodLink RL 149 yX10_then ∈ WL := wl_t5 30 rfl rfl
set_option maxRecDepth 100000 in
theorem lL_152 : Cond.methodLink RL 152 yX11_then ∈ WL := wl_t8 62 rfl rfl
set_option maxRecDepth 100000 in
theorem lL_153 : Cond.methodLink RL 153 yX10_wornIn ∈ WL := wl_t5 34 rfl rfl
set_option maxRecDepth 100000 in
theorem lL_156 : Cond.methodLink RL 156 yX11_wornIn ∈ WL := wl_t8 66 rfl rfl
set_option maxRecDepth 100000 in
theorem lL_157 : Cond.methodLink RL 157 yX10_year ∈ WL := wl_t5 38 rfl rfl
set_option maxRecDepth 100000 in
theorem lL_160 : Cond.methodLink RL 160 yX11_year ∈ WL := wl_t8 70 rfl rfl
set_option maxRecDepth 100000 in
theorem lL_161 : Cond.methodLink RL 161 yX10_tell ∈ WL := wl_t5 42 rfl rfl
set_option maxRecDepth 100000 in
theorem lL_165 : Cond.methodLink RL 165 yX11_tell ∈ WL := wl_t8 74 rfl rfl
set_option maxRecDepth 100000 in
theorem lL_166 : Cond.methodLink RL 166 yX10_forget ∈ WL := wl_t5 50 rfl rfl
set_option maxRecDepth 100000 in
theorem lL_169 : Cond.methodLink RL 169 yX11_forget ∈ WL := wl_t8 78 rfl rfl
set_option maxRecDepth 100000 in
theorem lL_170 : Cond.methodLink RL 170 yX10_whose ∈ WL := wl_t5 54 rfl rfl
set_option maxRecDepth 100000 in
theorem lL_173 : Cond.methodLink RL 173 yX11_whose ∈ WL := wl_t8 82 rfl rfl
set_option maxRecDepth 100000 in
theorem lL_174 : Cond.methodLink RL 174 yX10_look ∈ WL := wl_t5 67 rfl rfl
set_option maxRecDepth 100000 in
theorem lL_177 : Cond.methodLink RL 177 yX11_look ∈ WL := wl_t8 94 rfl rfl
set_option maxRecDepth 100000 in
theorem lL_178 : Cond.methodLink RL 178 yX10_hold ∈ WL := wl_t5 80 rfl rfl
set_option maxRecDepth 100000 in
theorem lL_181 : Cond.methodLink RL 181 yX11_hold ∈ WL := wl_t8 98 rfl rfl
set_option maxRecDepth 100000 in
theorem lL_182 : Cond.methodLink RL 182 yX10_restore ∈ WL := wl_t5 84 rfl rfl
set_option maxRecDepth 100000 in
theorem lL_185 : Cond.methodLink RL 185 yX11_restore ∈ WL := wl_t8 102 rfl rfl
set_option maxRecDepth 100000 in
theorem lL_186 : Cond.methodLink RL 186 yX10_count ∈ WL := wl_t5 88 rfl rfl
set_option maxRecDepth 100000 in
theorem lL_189 : Cond.methodLink RL 189 yX11_count ∈ WL := wl_t8 106 rfl rfl
set_option maxRecDepth 100000 in
theorem lX0_3 : Cond.methodLink RX0 3 objectInit ∈ WL := wl_t2 8 rfl rfl
set_option maxRecDepth 100000 in
theorem fX0_9 : FldOK RX0 9 0 0 := ⟨(RX0, TX0, 3), rfl, by decide, wl_t2 9 rfl rfl⟩
set_option maxRecDepth 100000 in
theorem fX0_15 : FldOK RX0 15 0 1 := ⟨(RX0, TX0, 3), rfl, by decide, wl_t2 11 rfl rfl⟩
set_option maxRecDepth 100000 in
theorem fX0_19 : FldOK RX0 19 0 2 := ⟨(RX0, TX0, 3), rfl, by decide, wl_t2 12 rfl rfl⟩
set_option maxRecDepth 100000 in
theorem fX0_23 : FldOK RX0 23 7 3 := ⟨(RX7, TX7, 17), rfl, by decide, wl_t2 86 rfl rfl⟩
set_option maxRecDepth 100000 in
theorem lX0_28 : Cond.methodLink RX0 28 yX0_agrees ∈ WL := wl_t5 62 rfl rfl
set_option maxRecDepth 100000 in
theorem lX0_32 : Cond.methodLink RX0 32 yX7_isThere ∈ WL := wl_t5 66 rfl rfl
set_option maxRecDepth 100000 in
theorem lX0_36 : Cond.methodLink RX0 36 yX0_seenAt ∈ WL := wl_t5 75 rfl rfl
set_option maxRecDepth 100000 in
theorem lX0_40 : Cond.methodLink RX0 40 yJ6_bitCount_0f7a4 ∈ WL := wl_t5 78 rfl rfl
set_option maxRecDepth 100000 in
theorem lX0_46 : Cond.methodLink RX0 46 yJ9_max_7cf53 ∈ WL := wl_t5 79 rfl rfl
set_option maxRecDepth 100000 in
theorem lX1_3 : Cond.methodLink RX1 3 objectInit ∈ WL := wl_t1 215 rfl rfl
set_option maxRecDepth 100000 in
theorem fX1_9 : FldOK RX1 9 1 0 := ⟨(RX1, TX1, 2), rfl, by decide, wl_t1 216 rfl rfl⟩
set_option maxRecDepth 100000 in
theorem fX1_17 : FldOK RX1 17 1 1 := ⟨(RX1, TX1, 2), rfl, by decide, wl_t1 217 rfl rfl⟩
set_option maxRecDepth 100000 in
theorem lX1_20 : Cond.methodLink RX1 20 yX5_whereIs ∈ WL := wl_t4 13 rfl rfl
set_option maxRecDepth 100000 in
theorem fX1_26 : FldOK RX1 26 5 4 := ⟨(RX5, TX5, 7), rfl, by decide, wl_t1 167 rfl rfl⟩
set_option maxRecDepth 100000 in
theorem lX1_29 : Cond.methodLink RX1 29 yJ6_bitCount_0f7a4 ∈ WL := wl_t3 209 rfl rfl
set_option maxRecDepth 100000 in
theorem lX1_34 : Cond.methodLink RX1 34 yX1_ofGuest ∈ WL := wl_t4 14 rfl rfl
set_option maxRecDepth 100000 in
theorem lX1_38 : Cond.methodLink RX1 38 yX1_setSunday ∈ WL := wl_t3 191 rfl rfl
set_option maxRecDepth 100000 in
theorem fX1_42 : FldOK RX1 42 7 6 := ⟨(RX7, TX7, 17), rfl, by decide, wl_t2 98 rfl rfl⟩
set_option maxRecDepth 100000 in
theorem fX1_47 : FldOK RX1 47 7 5 := ⟨(RX7, TX7, 17), rfl, by decide, wl_t2 95 rfl rfl⟩
set_option maxRecDepth 100000 in
theorem fX1_50 : FldOK RX1 50 7 4 := ⟨(RX7, TX7, 17), rfl, by decide, wl_t2 92 rfl rfl⟩
set_option maxRecDepth 100000 in
theorem fX1_53 : FldOK RX1 53 5 6 := ⟨(RX5, TX5, 7), rfl, by decide, wl_t1 173 rfl rfl⟩
set_option maxRecDepth 100000 in
theorem fX1_56 : FldOK RX1 56 7 10 := ⟨(RX7, TX7, 17), rfl, by decide, wl_t2 110 rfl rfl⟩
set_option maxRecDepth 100000 in
theorem lX1_60 : Cond.methodLink RX1 60 yX1_answerHeld ∈ WL := wl_t3 215 rfl rfl
set_option maxRecDepth 100000 in
theorem lX1_64 : Cond.methodLink RX1 64 yX7_hoursOf ∈ WL := wl_t3 195 rfl rfl
set_option maxRecDepth 100000 in
theorem fX1_67 : FldOK RX1 67 5 5 := ⟨(RX5, TX5, 7), rfl, by decide, wl_t1 170 rfl rfl⟩
set_option maxRecDepth 100000 in
theorem fX1_70 : FldOK RX1 70 7 2 := ⟨(RX7, TX7, 17), rfl, by decide, wl_t2 82 rfl rfl⟩
set_option maxRecDepth 100000 in
theorem fX1_73 : FldOK RX1 73 5 0 := ⟨(RX5, TX5, 7), rfl, by decide, wl_t1 156 rfl rfl⟩
set_option maxRecDepth 100000 in
theorem lX1_77 : Cond.methodLink RX1 77 yX2_answer ∈ WL := wl_t3 219 rfl rfl
set_option maxRecDepth 100000 in
theorem lX1_81 : Cond.methodLink RX1 81 yJ9_min_7cf53 ∈ WL := wl_t3 227 rfl rfl
set_option maxRecDepth 100000 in
theorem lX1_87 : Cond.methodLink RX1 87 yJ9_max_7cf53 ∈ WL := wl_t3 228 rfl rfl
set_option maxRecDepth 100000 in
theorem lX1_90 : Cond.methodLink RX1 90 yX1_payAndRest ∈ WL := wl_t4 76 rfl rfl
set_option maxRecDepth 100000 in
theorem lX1_94 : Cond.methodLink RX1 94 yX1_wear ∈ WL := wl_t4 81 rfl rfl
set_option maxRecDepth 100000 in
theorem lX1_97 : Cond.methodLink RX1 97 yX1_bury ∈ WL := wl_t4 86 rfl rfl
set_option maxRecDepth 100000 in
theorem fX1_100 : FldOK RX1 100 7 3 := ⟨(RX7, TX7, 17), rfl, by decide, wl_t2 89 rfl rfl⟩
set_option maxRecDepth 100000 in
theorem fX1_103 : FldOK RX1 103 5 1 := ⟨(RX5, TX5, 7), rfl, by decide, wl_t1 159 rfl rfl⟩
set_option maxRecDepth 100000 in
theorem lX1_106 : Cond.methodLink RX1 106 yX5_isDead ∈ WL := wl_t4 80 rfl rfl
set_option maxRecDepth 100000 in
theorem fX1_110 : FldOK RX1 110 7 0 := ⟨(RX7, TX7, 17), rfl, by decide, wl_t2 77 rfl rfl⟩
set_option maxRecDepth 100000 in
theorem lX1_113 : Cond.methodLink RX1 113 yX1_ofSunday ∈ WL := wl_t4 85 rfl rfl
set_option maxRecDepth 100000 in
theorem fX1_117 : FldOK RX1 117 7 8 := ⟨(RX7, TX7, 17), rfl, by decide, wl_t2 104 rfl rfl⟩
set_option maxRecDepth 100000 in
theorem lX1_120 : Cond.methodLink RX1 120 yX1_lot ∈ WL := wl_t4 90 rfl rfl
set_option maxRecDepth 100000 in
theorem fX1_123 : FldOK RX1 123 5 2 := ⟨(RX5, TX5, 7), rfl, by decide, wl_t1 162 rfl rfl⟩
set_option maxRecDepth 100000 in
theorem lX1_126 : Cond.methodLink RX1 126 yX5_takeOut ∈ WL := wl_t4 97 rfl rfl
set_option maxRecDepth 100000 in
theorem lX1_130 : Cond.methodLink RX1 130 yX1_stir ∈ WL := wl_t4 93 rfl rfl
set_option maxRecDepth 100000 in
theorem lX1_133 : Cond.constant RX1 133 (1103515245) ∈ WL := wl_t4 96 rfl rfl
set_option maxRecDepth 100000 in
theorem lX10_3 : Cond.methodLink RX10 3 objectInit ∈ WL := wl_t1 26 rfl rfl
set_option maxRecDepth 100000 in
theorem lX10_9 : Cond.classLink RX10 9 RX6 ∈ WL := wl_t1 29 rfl rfl
set_option maxRecDepth 100000 in
theorem fX10_12 : FldOK RX10 12 10 0 := ⟨(RX10, TX10, 12), rfl, by decide, wl_t2 156 rfl rfl⟩
set_option maxRecDepth 100000 in
theorem lX10_16 : Cond.classLink RX10 16 RX4 ∈ WL := wl_t1 46 rfl rfl
set_option maxRecDepth 100000 in
theorem fX10_19 : FldOK RX10 19 10 1 := ⟨(RX10, TX10, 12), rfl, by decide, wl_t2 157 rfl rfl⟩
set_option maxRecDepth 100000 in
theorem lX10_23 : Cond.classLink RX10 23 RX5 ∈ WL := wl_t1 149 rfl rfl
set_option maxRecDepth 100000 in
theorem fX10_26 : FldOK RX10 26 10 2 := ⟨(RX10, TX10, 12), rfl, by decide, wl_t2 158 rfl rfl⟩
set_option maxRecDepth 100000 in
theorem fX10_30 : FldOK RX10 30 10 3 := ⟨(RX10, TX10, 12), rfl, by decide, wl_t2 159 rfl rfl⟩
set_option maxRecDepth 100000 in
theorem lX10_33 : Cond.classLink RX10 33 RX9 ∈ WL := wl_t1 190 rfl rfl
set_option maxRecDepth 100000 in
theorem lX10_35 : Cond.methodLink RX10 35 yX9_init ∈ WL := wl_t1 192 rfl rfl
set_option maxRecDepth 100000 in
theorem fX10_36 : FldOK RX10 36 10 4 := ⟨(RX10, TX10, 12), rfl, by decide, wl_t2 160 rfl rfl⟩
set_option maxRecDepth 100000 in
theorem fX10_40 : FldOK RX10 40 10 5 := ⟨(RX10, TX10, 12), rfl, by decide, wl_t2 161 rfl rfl⟩
set_option maxRecDepth 100000 in
theorem lX10_44 : Cond.classLink RX10 44 RX1 ∈ WL := wl_t1 210 rfl rfl
set_option maxRecDepth 100000 in
theorem fX10_47 : FldOK RX10 47 10 6 := ⟨(RX10, TX10, 12), rfl, by decide, wl_t2 162 rfl rfl⟩
set_option maxRecDepth 100000 in
theorem lX10_51 : Cond.classLink RX10 51 RX3 ∈ WL := wl_t1 223 rfl rfl
set_option maxRecDepth 100000 in
theorem fX10_54 : FldOK RX10 54 10 7 := ⟨(RX10, TX10, 12), rfl, by decide, wl_t2 163 rfl rfl⟩
set_option maxRecDepth 100000 in
theorem lX10_58 : Cond.classLink RX10 58 RX0 ∈ WL := wl_t2 3 rfl rfl
set_option maxRecDepth 100000 in
theorem fX10_61 : FldOK RX10 61 10 8 := ⟨(RX10, TX10, 12), rfl, by decide, wl_t2 164 rfl rfl⟩
set_option maxRecDepth 100000 in
theorem lX10_65 : Cond.classLink RX10 65 RX7 ∈ WL := wl_t2 21 rfl rfl
set_option maxRecDepth 100000 in
theorem lX10_67 : Cond.methodLink RX10 67 yX7_init ∈ WL := wl_t2 23 rfl rfl
set_option maxRecDepth 100000 in
theorem fX10_68 : FldOK RX10 68 10 9 := ⟨(RX10, TX10, 12), rfl, by decide, wl_t2 165 rfl rfl⟩
set_option maxRecDepth 100000 in
theorem fX10_72 : FldOK RX10 72 10 10 := ⟨(RX10, TX10, 12), rfl, by decide, wl_t2 166 rfl rfl⟩
set_option maxRecDepth 100000 in
theorem fX10_75 : FldOK RX10 75 10 11 := ⟨(RX10, TX10, 12), rfl, by decide, wl_t2 167 rfl rfl⟩
set_option maxRecDepth 100000 in
theorem lX10_79 : Cond.methodLink RX10 79 yX6_hasRoomFor ∈ WL := wl_t2 197 rfl rfl
set_option maxRecDepth 100000 in
theorem lX10_83 : Cond.methodLink RX10 83 yX6_addFour ∈ WL := wl_t2 201 rfl rfl
set_option maxRecDepth 100000 in
theorem fX10_87 : FldOK RX10 87 6 1 := ⟨(RX6, TX6, 2), rfl, by decide, wl_t1 39 rfl rfl⟩
set_option maxRecDepth 100000 in
theorem lX10_90 : Cond.methodLink RX10 90 yX4_readTape ∈ WL := wl_t2 213 rfl rfl
set_option maxRecDepth 100000 in
theorem fX10_94 : FldOK RX10 94 4 0 := ⟨(RX4, TX4, 6), rfl, by decide, wl_t1 129 rfl rfl⟩
set_option maxRecDepth 100000 in
theorem lX10_97 : Cond.methodLink RX10 97 yX5_begin ∈ WL := wl_t3 167 rfl rfl
set_option maxRecDepth 100000 in
theorem fX10_100 : FldOK RX10 100 9 0 := ⟨(RX9, TX9, 3), rfl, by decide, wl_t1 200 rfl rfl⟩
set_option maxRecDepth 100000 in
theorem fX10_103 : FldOK RX10 103 0 0 := ⟨(RX0, TX0, 3), rfl, by decide, wl_t2 10 rfl rfl⟩
set_option maxRecDepth 100000 in
theorem fX10_104 : FldOK RX10 104 4 1 := ⟨(RX4, TX4, 6), rfl, by decide, wl_t1 131 rfl rfl⟩
set_option maxRecDepth 100000 in
theorem lX10_107 : Cond.methodLink RX10 107 yX10_isSunday ∈ WL := wl_t3 179 rfl rfl
set_option maxRecDepth 100000 in
theorem fX10_110 : FldOK RX10 110 7 1 := ⟨(RX7, TX7, 17), rfl, by decide, wl_t2 80 rfl rfl⟩
set_option maxRecDepth 100000 in
theorem fX10_114 : FldOK RX10 114 7 2 := ⟨(RX7, TX7, 17), rfl, by decide, wl_t2 83 rfl rfl⟩
set_option maxRecDepth 100000 in
theorem fX10_117 : FldOK RX10 117 5 5 := ⟨(RX5, TX5, 7), rfl, by decide, wl_t1 171 rfl rfl⟩
set_option maxRecDepth 100000 in
theorem lX10_120 : Cond.methodLink RX10 120 yX5_isSold ∈ WL := wl_t3 183 rfl rfl
set_option maxRecDepth 100000 in
theorem fX10_123 : FldOK RX10 123 5 4 := ⟨(RX5, TX5, 7), rfl, by decide, wl_t1 168 rfl rfl⟩
set_option maxRecDepth 100000 in
theorem lX10_126 : Cond.methodLink RX10 126 yX1_ofSunday ∈ WL := wl_t3 187 rfl rfl
set_option maxRecDepth 100000 in
theorem lX10_130 : Cond.methodLink RX10 130 yX10_isGuest ∈ WL := wl_t3 233 rfl rfl
set_option maxRecDepth 100000 in
theorem fX10_133 : FldOK RX10 133 7 4 := ⟨(RX7, TX7, 17), rfl, by decide, wl_t2 93 rfl rfl⟩
set_option maxRecDepth 100000 in
theorem fX10_136 : FldOK RX10 136 7 5 := ⟨(RX7, TX7, 17), rfl, by decide, wl_t2 96 rfl rfl⟩
set_option maxRecDepth 100000 in
theorem fX10_139 : FldOK RX10 139 7 6 := ⟨(RX7, TX7, 17), rfl, by decide, wl_t2 99 rfl rfl⟩
set_option maxRecDepth 100000 in
theorem lX10_142 : Cond.methodLink RX10 142 yX5_whereIs ∈ WL := wl_t3 237 rfl rfl
set_option maxRecDepth 100000 in
theorem fX10_146 : FldOK RX10 146 5 6 := ⟨(RX5, TX5, 7), rfl, by decide, wl_t1 174 rfl rfl⟩
set_option maxRecDepth 100000 in
theorem lX10_149 : Cond.methodLink RX10 149 yX5_isDead ∈ WL := wl_t4 5 rfl rfl
set_option maxRecDepth 100000 in
theorem lX10_152 : Cond.methodLink RX10 152 yX1_ofGuestNow ∈ WL := wl_t4 9 rfl rfl
set_option maxRecDepth 100000 in
theorem fX10_155 : FldOK RX10 155 7 3 := ⟨(RX7, TX7, 17), rfl, by decide, wl_t2 88 rfl rfl⟩
set_option maxRecDepth 100000 in
theorem lX10_158 : Cond.methodLink RX10 158 yX5_isIn ∈ WL := wl_t4 22 rfl rfl
set_option maxRecDepth 100000 in
theorem lX10_162 : Cond.methodLink RX10 162 yX7_isThere ∈ WL := wl_t4 23 rfl rfl
set_option maxRecDepth 100000 in
theorem lX10_165 : Cond.methodLink RX10 165 yX10_couldGoIn ∈ WL := wl_t4 31 rfl rfl
set_option maxRecDepth 100000 in
theorem lX10_169 : Cond.methodLink RX10 169 yX9_keep ∈ WL := wl_t4 39 rfl rfl
set_option maxRecDepth 100000 in
theorem lX10_173 : Cond.methodLink RX10 173 yX5_takeOut ∈ WL := wl_t4 52 rfl rfl
set_option maxRecDepth 100000 in
theorem fX10_176 : FldOK RX10 176 5 3 := ⟨(RX5, TX5, 7), rfl, by decide, wl_t1 165 rfl rfl⟩
set_option maxRecDepth 100000 in
theorem fX10_179 : FldOK RX10 179 5 1 := ⟨(RX5, TX5, 7), rfl, by decide, wl_t1 160 rfl rfl⟩
set_option maxRecDepth 100000 in
theorem lX10_182 : Cond.methodLink RX10 182 yX10_isWeeks ∈ WL := wl_t4 68 rfl rfl
set_option maxRecDepth 100000 in
theorem fX10_185 : FldOK RX10 185 7 9 := ⟨(RX7, TX7, 17), rfl, by decide, wl_t2 108 rfl rfl⟩
set_option maxRecDepth 100000 in
theorem lX10_188 : Cond.methodLink RX10 188 yX1_passDeadlyWeeks ∈ WL := wl_t4 72 rfl rfl
set_option maxRecDepth 100000 in
theorem fX10_192 : FldOK RX10 192 5 0 := ⟨(RX5, TX5, 7), rfl, by decide, wl_t1 157 rfl rfl⟩
set_option maxRecDepth 100000 in
theorem lX10_195 : Cond.methodLink RX10 195 yX9_takeBack ∈ WL := wl_t4 102 rfl rfl
set_option maxRecDepth 100000 in
theorem lX10_199 : Cond.methodLink RX10 199 yX10_isOneOfTwo ∈ WL := wl_t4 110 rfl rfl
set_option maxRecDepth 100000 in
theorem lX10_202 : Cond.methodLink RX10 202 yX3_valueSets ∈ WL := wl_t4 114 rfl rfl
set_option maxRecDepth 100000 in
theorem lX10_206 : Cond.methodLink RX10 206 yX3_bestSet ∈ WL := wl_t4 129 rfl rfl
set_option maxRecDepth 100000 in
theorem fX10_210 : FldOK RX10 210 3 0 := ⟨(RX3, TX3, 3), rfl, by decide, wl_t1 232 rfl rfl⟩
set_option maxRecDepth 100000 in
theorem fX10_214 : FldOK RX10 214 7 0 := ⟨(RX7, TX7, 17), rfl, by decide, wl_t2 78 rfl rfl⟩
set_option maxRecDepth 100000 in
theorem lX10_217 : Cond.methodLink RX10 217 yX3_letAll ∈ WL := wl_t4 137 rfl rfl
set_option maxRecDepth 100000 in
theorem lX10_221 : Cond.methodLink RX10 221 yX5_alive ∈ WL := wl_t4 146 rfl rfl
set_option maxRecDepth 100000 in
theorem fX10_225 : FldOK RX10 225 3 1 := ⟨(RX3, TX3, 3), rfl, by decide, wl_t1 234 rfl rfl⟩
set_option maxRecDepth 100000 in
theorem lX10_228 : Cond.methodLink RX10 228 yX3_setLetIn ∈ WL := wl_t4 150 rfl rfl
set_option maxRecDepth 100000 in
theorem lX10_232 : Cond.methodLink RX10 232 yX3_leastCost ∈ WL := wl_t4 162 rfl rfl
set_option maxRecDepth 100000 in
theorem lX10_236 : Cond.constant RX10 236 (1048576) ∈ WL := wl_t4 173 rfl rfl
set_option maxRecDepth 100000 in
theorem lX10_237 : Cond.methodLink RX10 237 yX3_fewestColours ∈ WL := wl_t4 178 rfl rfl
set_option maxRecDepth 100000 in
theorem lX10_240 : Cond.methodLink RX10 240 yX3_largestTangle ∈ WL := wl_t4 186 rfl rfl
set_option maxRecDepth 100000 in
theorem lX10_243 : Cond.methodLink RX10 243 yJ6_bitCount_0f7a4 ∈ WL := wl_t4 194 rfl rfl
set_option maxRecDepth 100000 in
theorem lX10_248 : Cond.methodLink RX10 248 yX10_sundaysFitting ∈ WL := wl_t4 199 rfl rfl
set_option maxRecDepth 100000 in
theorem lX10_251 : Cond.methodLink RX10 251 yX10_earlierOnes ∈ WL := wl_t4 207 rfl rfl
set_option maxRecDepth 100000 in
theorem lX10_255 : Cond.methodLink RX10 255 yX7_hoursOf ∈ WL := wl_t4 223 rfl rfl
set_option maxRecDepth 100000 in
theorem lX10_258 : Cond.methodLink RX10 258 yX5_copyFrom ∈ WL := wl_t4 228 rfl rfl
set_option maxRecDepth 100000 in
theorem lX10_261 : Cond.methodLink RX10 261 yX1_passWeek ∈ WL := wl_t4 229 rfl rfl
set_option maxRecDepth 100000 in
theorem lX10_265 : Cond.methodLink RX10 265 yX10_firstWeary ∈ WL := wl_t4 237 rfl rfl
set_option maxRecDepth 100000 in
theorem lX10_269 : Cond.methodLink RX10 269 yX7_spanOf ∈ WL := wl_t5 5 rfl rfl
set_option maxRecDepth 100000 in
theorem fX10_273 : FldOK RX10 273 7 8 := ⟨(RX7, TX7, 17), rfl, by decide, wl_t2 105 rfl rfl⟩
set_option maxRecDepth 100000 in
theorem fX10_276 : FldOK RX10 276 7 11 := ⟨(RX7, TX7, 17), rfl, by decide, wl_t2 114 rfl rfl⟩
set_option maxRecDepth 100000 in
theorem lX10_279 : Cond.methodLink RX10 279 yX0_add ∈ WL := wl_t5 46 rfl rfl
set_option maxRecDepth 100000 in
theorem lX10_283 : Cond.methodLink RX10 283 yX0_guestsLeft ∈ WL := wl_t5 58 rfl rfl
set_option maxRecDepth 100000 in
theorem lX10_286 : Cond.methodLink RX10 286 yX0_hourToLook ∈ WL := wl_t5 71 rfl rfl
set_option maxRecDepth 100000 in
theorem lX10_289 : Cond.methodLink RX10 289 yX5_allIn ∈ WL := wl_t5 92 rfl rfl
set_option maxRecDepth 100000 in
theorem fX10_292 : FldOK RX10 292 5 2 := ⟨(RX5, TX5, 7), rfl, by decide, wl_t1 163 rfl rfl⟩
set_option maxRecDepth 100000 in
theorem lX10_295 : Cond.methodLink RX10 295 yX10_moneyDue ∈ WL := wl_t5 96 rfl rfl
set_option maxRecDepth 100000 in
theorem lX10_298 : Cond.methodLink RX10 298 yX10_sumOf ∈ WL := wl_t5 100 rfl rfl
set_option maxRecDepth 100000 in
theorem lX10_302 : Cond.methodLink RX10 302 yX10_clashingPairs ∈ WL := wl_t5 104 rfl rfl
set_option maxRecDepth 100000 in
theorem lX10_305 : Cond.methodLink RX10 305 yX10_sundaysWithGuests ∈ WL := wl_t5 108 rfl rfl
set_option maxRecDepth 100000 in
theorem lX10_308 : Cond.methodLink RX10 308 yX10_guestsFittingAny ∈ WL := wl_t5 112 rfl rfl
set_option maxRecDepth 100000 in
theorem lX10_311 : Cond.methodLink RX10 311 yX10_hoursNotSold ∈ WL := wl_t5 116 rfl rfl
set_option maxRecDepth 100000 in
theorem lX10_314 : Cond.methodLink RX10 314 yX10_feesOfLiving ∈ WL := wl_t5 120 rfl rfl
set_option maxRecDepth 100000 in
theorem lX10_317 : Cond.methodLink RX10 317 yX7_isLongEnough ∈ WL := wl_t4 35 rfl rfl
set_option maxRecDepth 100000 in
theorem lX11_7 : Cond.methodLink RX11 7 objectInit ∈ WL := wl_t5 129 rfl rfl
set_option maxRecDepth 100000 in
theorem fX11_13 : FldOK RX11 13 11 1 := ⟨(RX11, TX11, 67), rfl, by decide, wl_t5 149 rfl rfl⟩
set_option maxRecDepth 100000 in
theorem fX11_17 : FldOK RX11 17 11 3 := ⟨(RX11, TX11, 67), rfl, by decide, wl_t5 151 rfl rfl⟩
set_option maxRecDepth 100000 in
theorem fX11_20 : FldOK RX11 20 11 5 := ⟨(RX11, TX11, 67), rfl, by decide, wl_t5 153 rfl rfl⟩
set_option maxRecDepth 100000 in
theorem fX11_24 : FldOK RX11 24 11 6 := ⟨(RX11, TX11, 67), rfl, by decide, wl_t5 154 rfl rfl⟩
set_option maxRecDepth 100000 in
theorem fX11_27 : FldOK RX11 27 11 7 := ⟨(RX11, TX11, 67), rfl, by decide, wl_t5 155 rfl rfl⟩
set_option maxRecDepth 100000 in
theorem fX11_30 : FldOK RX11 30 11 8 := ⟨(RX11, TX11, 67), rfl, by decide, wl_t5 156 rfl rfl⟩
set_option maxRecDepth 100000 in
theorem fX11_34 : FldOK RX11 34 11 9 := ⟨(RX11, TX11, 67), rfl, by decide, wl_t5 157 rfl rfl⟩
set_option maxRecDepth 100000 in
theorem fX11_37 : FldOK RX11 37 11 17 := ⟨(RX11, TX11, 67), rfl, by decide, wl_t5 165 rfl rfl⟩
set_option maxRecDepth 100000 in
theorem fX11_40 : FldOK RX11 40 11 21 := ⟨(RX11, TX11, 67), rfl, by decide, wl_t5 169 rfl rfl⟩
set_option maxRecDepth 100000 in
theorem fX11_43 : FldOK RX11 43 11 22 := ⟨(RX11, TX11, 67), rfl, by decide, wl_t5 170 rfl rfl⟩
set_option maxRecDepth 100000 in
theorem fX11_46 : FldOK RX11 46 11 23 := ⟨(RX11, TX11, 67), rfl, by decide, wl_t5 171 rfl rfl⟩
set_option maxRecDepth 100000 in
theorem fX11_49 : FldOK RX11 49 11 24 := ⟨(RX11, TX11, 67), rfl, by decide, wl_t5 172 rfl rfl⟩
set_option maxRecDepth 100000 in
theorem fX11_52 : FldOK RX11 52 11 25 := ⟨(RX11, TX11, 67), rfl, by decide, wl_t5 173 rfl rfl⟩
set_option maxRecDepth 100000 in
theorem fX11_55 : FldOK RX11 55 11 26 := ⟨(RX11, TX11, 67), rfl, by decide, wl_t5 174 rfl rfl⟩
set_option maxRecDepth 100000 in
theorem fX11_58 : FldOK RX11 58 11 27 := ⟨(RX11, TX11, 67), rfl, by decide, wl_t5 175 rfl rfl⟩
set_option maxRecDepth 100000 in
theorem fX11_61 : FldOK RX11 61 11 28 := ⟨(RX11, TX11, 67), rfl, by decide, wl_t5 176 rfl rfl⟩
set_option maxRecDepth 100000 in
theorem fX11_64 : FldOK RX11 64 11 29 := ⟨(RX11, TX11, 67), rfl, by decide, wl_t5 177 rfl rfl⟩
set_option maxRecDepth 100000 in
theorem fX11_67 : FldOK RX11 67 11 30 := ⟨(RX11, TX11, 67), rfl, by decide, wl_t5 178 rfl rfl⟩
set_option maxRecDepth 100000 in
theorem fX11_70 : FldOK RX11 70 11 31 := ⟨(RX11, TX11, 67), rfl, by decide, wl_t5 179 rfl rfl⟩
set_option maxRecDepth 100000 in
theorem fX11_73 : FldOK RX11 73 11 32 := ⟨(RX11, TX11, 67), rfl, by decide, wl_t5 180 rfl rfl⟩
set_option maxRecDepth 100000 in
theorem fX11_76 : FldOK RX11 76 11 33 := ⟨(RX11, TX11, 67), rfl, by decide, wl_t5 181 rfl rfl⟩
set_option maxRecDepth 100000 in
theorem fX11_79 : FldOK RX11 79 11 34 := ⟨(RX11, TX11, 67), rfl, by decide, wl_t5 182 rfl rfl⟩
set_option maxRecDepth 100000 in
theorem fX11_82 : FldOK RX11 82 11 35 := ⟨(RX11, TX11, 67), rfl, by decide, wl_t5 183 rfl rfl⟩
set_option maxRecDepth 100000 in
theorem fX11_85 : FldOK RX11 85 11 37 := ⟨(RX11, TX11, 67), rfl, by decide, wl_t5 185 rfl rfl⟩
set_option maxRecDepth 100000 in
theorem fX11_89 : FldOK RX11 89 11 38 := ⟨(RX11, TX11, 67), rfl, by decide, wl_t5 186 rfl rfl⟩
set_option maxRecDepth 100000 in
theorem fX11_92 : FldOK RX11 92 11 39 := ⟨(RX11, TX11, 67), rfl, by decide, wl_t5 187 rfl rfl⟩
set_option maxRecDepth 100000 in
theorem fX11_95 : FldOK RX11 95 11 40 := ⟨(RX11, TX11, 67), rfl, by decide, wl_t5 188 rfl rfl⟩
set_option maxRecDepth 100000 in
theorem fX11_98 : FldOK RX11 98 11 41 := ⟨(RX11, TX11, 67), rfl, by decide, wl_t5 189 rfl rfl⟩
set_option maxRecDepth 100000 in
theorem fX11_101 : FldOK RX11 101 11 43 := ⟨(RX11, TX11, 67), rfl, by decide, wl_t5 191 rfl rfl⟩
set_option maxRecDepth 100000 in
theorem fX11_104 : FldOK RX11 104 11 44 := ⟨(RX11, TX11, 67), rfl, by decide, wl_t5 192 rfl rfl⟩
set_option maxRecDepth 100000 in
theorem fX11_107 : FldOK RX11 107 11 45 := ⟨(RX11, TX11, 67), rfl, by decide, wl_t5 193 rfl rfl⟩
set_option maxRecDepth 100000 in
theorem fX11_110 : FldOK RX11 110 11 47 := ⟨(RX11, TX11, 67), rfl, by decide, wl_t5 195 rfl rfl⟩
set_option maxRecDepth 100000 in
theorem fX11_113 : FldOK RX11 113 11 48 := ⟨(RX11, TX11, 67), rfl, by decide, wl_t5 196 rfl rfl⟩
set_option maxRecDepth 100000 in
theorem fX11_116 : FldOK RX11 116 11 50 := ⟨(RX11, TX11, 67), rfl, by decide, wl_t5 198 rfl rfl⟩
set_option maxRecDepth 100000 in
theorem fX11_119 : FldOK RX11 119 11 51 := ⟨(RX11, TX11, 67), rfl, by decide, wl_t5 199 rfl rfl⟩
set_option maxRecDepth 100000 in
theorem fX11_122 : FldOK RX11 122 11 54 := ⟨(RX11, TX11, 67), rfl, by decide, wl_t5 202 rfl rfl⟩
set_option maxRecDepth 100000 in
theorem fX11_125 : FldOK RX11 125 11 55 := ⟨(RX11, TX11, 67), rfl, by decide, wl_t5 203 rfl rfl⟩
set_option maxRecDepth 100000 in
theorem fX11_128 : FldOK RX11 128 11 57 := ⟨(RX11, TX11, 67), rfl, by decide, wl_t5 205 rfl rfl⟩
set_option maxRecDepth 100000 in
theorem fX11_131 : FldOK RX11 131 11 58 := ⟨(RX11, TX11, 67), rfl, by decide, wl_t5 206 rfl rfl⟩
set_option maxRecDepth 100000 in
theorem fX11_134 : FldOK RX11 134 11 59 := ⟨(RX11, TX11, 67), rfl, by decide, wl_t5 207 rfl rfl⟩
set_option maxRecDepth 100000 in
theorem fX11_137 : FldOK RX11 137 11 60 := ⟨(RX11, TX11, 67), rfl, by decide, wl_t5 208 rfl rfl⟩
set_option maxRecDepth 100000 in
theorem fX11_140 : FldOK RX11 140 11 61 := ⟨(RX11, TX11, 67), rfl, by decide, wl_t5 209 rfl rfl⟩
set_option maxRecDepth 100000 in
theorem fX11_143 : FldOK RX11 143 11 63 := ⟨(RX11, TX11, 67), rfl, by decide, wl_t5 211 rfl rfl⟩
set_option maxRecDepth 100000 in
theorem fX11_146 : FldOK RX11 146 11 64 := ⟨(RX11, TX11, 67), rfl, by decide, wl_t5 212 rfl rfl⟩
set_option maxRecDepth 100000 in
theorem fX11_149 : FldOK RX11 149 11 65 := ⟨(RX11, TX11, 67), rfl, by decide, wl_t5 213 rfl rfl⟩
set_option maxRecDepth 100000 in
theorem fX11_152 : FldOK RX11 152 11 66 := ⟨(RX11, TX11, 67), rfl, by decide, wl_t5 214 rfl rfl⟩
set_option maxRecDepth 100000 in
theorem lX11_155 : Cond.methodLink RX11 155 yX11_plain ∈ WL := wl_t5 130 rfl rfl
set_option maxRecDepth 100000 in
theorem lX11_159 : Cond.methodLink RX11 159 yX11_word ∈ WL := wl_t5 134 rfl rfl
set_option maxRecDepth 100000 in
theorem lX11_163 : Cond.methodLink RX11 163 yX11_begins ∈ WL := wl_t5 141 rfl rfl
set_option maxRecDepth 100000 in
theorem lX11_166 : Cond.methodLink RX11 166 yX11_keepsRow ∈ WL := wl_t5 145 rfl rfl
set_option maxRecDepth 100000 in
theorem fX11_169 : FldOK RX11 169 11 2 := ⟨(RX11, TX11, 67), rfl, by decide, wl_t5 150 rfl rfl⟩
set_option maxRecDepth 100000 in
theorem lX11_172 : Cond.methodLink RX11 172 yX11_put ∈ WL := wl_t6 114 rfl rfl
set_option maxRecDepth 100000 in
theorem fX11_175 : FldOK RX11 175 11 4 := ⟨(RX11, TX11, 67), rfl, by decide, wl_t5 152 rfl rfl⟩
set_option maxRecDepth 100000 in
theorem lX11_178 : Cond.constantLong RX11 178 (27) ∈ WL := wl_t5 140 rfl rfl
set_option maxRecDepth 100000 in
theorem lX11_180 : Cond.methodLink RX11 180 yX11_appends ∈ WL := wl_t5 137 rfl rfl
set_option maxRecDepth 100000 in
theorem fX11_184 : FldOK RX11 184 11 10 := ⟨(RX11, TX11, 67), rfl, by decide, wl_t5 158 rfl rfl⟩
set_option maxRecDepth 100000 in
theorem lX11_187 : Cond.methodLink RX11 187 yX11_byteAt ∈ WL := wl_t6 130 rfl rfl
set_option maxRecDepth 100000 in
theorem lX11_191 : Cond.methodLink RX11 191 yX11_token ∈ WL := wl_t6 134 rfl rfl
set_option maxRecDepth 100000 in
theorem lX11_195 : Cond.methodLink RX11 195 yX11_isLetter ∈ WL := wl_t6 138 rfl rfl
set_option maxRecDepth 100000 in
theorem lX11_199 : Cond.methodLink RX11 199 yX11_isDigit ∈ WL := wl_t6 141 rfl rfl
set_option maxRecDepth 100000 in
theorem lX11_202 : Cond.methodLink RX11 202 yX11_sign ∈ WL := wl_t6 144 rfl rfl
set_option maxRecDepth 100000 in
theorem fX11_206 : FldOK RX11 206 11 13 := ⟨(RX11, TX11, 67), rfl, by decide, wl_t5 161 rfl rfl⟩
set_option maxRecDepth 100000 in
theorem fX11_209 : FldOK RX11 209 11 11 := ⟨(RX11, TX11, 67), rfl, by decide, wl_t5 159 rfl rfl⟩
set_option maxRecDepth 100000 in
theorem fX11_212 : FldOK RX11 212 11 14 := ⟨(RX11, TX11, 67), rfl, by decide, wl_t5 162 rfl rfl⟩
set_option maxRecDepth 100000 in
theorem fX11_215 : FldOK RX11 215 11 15 := ⟨(RX11, TX11, 67), rfl, by decide, wl_t5 163 rfl rfl⟩
set_option maxRecDepth 100000 in
theorem fX11_218 : FldOK RX11 218 11 16 := ⟨(RX11, TX11, 67), rfl, by decide, wl_t5 164 rfl rfl⟩
set_option maxRecDepth 100000 in
theorem lX11_221 : Cond.methodLink RX11 221 yX11_fail ∈ WL := wl_t6 160 rfl rfl
set_option maxRecDepth 100000 in
theorem lX11_224 : Cond.methodLink RX11 224 yX11_is ∈ WL := wl_t6 148 rfl rfl
set_option maxRecDepth 100000 in
theorem lX11_227 : Cond.methodLink RX11 227 yX11_goesOn ∈ WL := wl_t6 164 rfl rfl
set_option maxRecDepth 100000 in
theorem lX11_230 : Cond.methodLink RX11 230 yX11_cut ∈ WL := wl_t6 126 rfl rfl
set_option maxRecDepth 100000 in
theorem fX11_233 : FldOK RX11 233 11 12 := ⟨(RX11, TX11, 67), rfl, by decide, wl_t5 160 rfl rfl⟩
set_option maxRecDepth 100000 in
theorem fX11_236 : FldOK RX11 236 11 18 := ⟨(RX11, TX11, 67), rfl, by decide, wl_t5 166 rfl rfl⟩
set_option maxRecDepth 100000 in
theorem fX11_239 : FldOK RX11 239 11 19 := ⟨(RX11, TX11, 67), rfl, by decide, wl_t5 167 rfl rfl⟩
set_option maxRecDepth 100000 in
theorem fX11_242 : FldOK RX11 242 11 20 := ⟨(RX11, TX11, 67), rfl, by decide, wl_t5 168 rfl rfl⟩
set_option maxRecDepth 100000 in
theorem fX11_245 : FldOK RX11 245 11 36 := ⟨(RX11, TX11, 67), rfl, by decide, wl_t5 184 rfl rfl⟩
set_option maxRecDepth 100000 in
theorem fX11_248 : FldOK RX11 248 11 42 := ⟨(RX11, TX11, 67), rfl, by decide, wl_t5 190 rfl rfl⟩
set_option maxRecDepth 100000 in
theorem lX11_251 : Cond.methodLink RX11 251 yX11_tellOne ∈ WL := wl_t6 152 rfl rfl
set_option maxRecDepth 100000 in
theorem fX11_254 : FldOK RX11 254 11 56 := ⟨(RX11, TX11, 67), rfl, by decide, wl_t5 204 rfl rfl⟩
set_option maxRecDepth 100000 in
theorem fX11_257 : FldOK RX11 257 11 62 := ⟨(RX11, TX11, 67), rfl, by decide, wl_t5 210 rfl rfl⟩
set_option maxRecDepth 100000 in
theorem lX11_260 : Cond.methodLink RX11 260 yX11_bounded ∈ WL := wl_t6 180 rfl rfl
set_option maxRecDepth 100000 in
theorem lX11_264 : Cond.methodLink RX11 264 yX11_must ∈ WL := wl_t6 172 rfl rfl
set_option maxRecDepth 100000 in
theorem lX11_267 : Cond.methodLink RX11 267 yX11_roomFor ∈ WL := wl_t6 156 rfl rfl
set_option maxRecDepth 100000 in
theorem lX11_271 : Cond.methodLink RX11 271 yX11_named ∈ WL := wl_t6 168 rfl rfl
set_option maxRecDepth 100000 in
theorem lX11_275 : Cond.methodLink RX11 275 yX11_endsName ∈ WL := wl_t6 184 rfl rfl
set_option maxRecDepth 100000 in
theorem lX11_278 : Cond.methodLink RX11 278 yX11_tellFoes ∈ WL := wl_t6 188 rfl rfl
set_option maxRecDepth 100000 in
theorem lX11_281 : Cond.methodLink RX11 281 yX11_toldInt ∈ WL := wl_t6 196 rfl rfl
set_option maxRecDepth 100000 in
theorem lX11_284 : Cond.methodLink RX11 284 yX11_tellLaw ∈ WL := wl_t6 200 rfl rfl
set_option maxRecDepth 100000 in
theorem lX11_287 : Cond.methodLink RX11 287 yX11_wrong ∈ WL := wl_t6 176 rfl rfl
set_option maxRecDepth 100000 in
theorem lX11_290 : Cond.methodLink RX11 290 yX11_known ∈ WL := wl_t6 192 rfl rfl
set_option maxRecDepth 100000 in
theorem lX11_293 : Cond.methodLink RX11 293 yX11_expression ∈ WL := wl_t6 204 rfl rfl
set_option maxRecDepth 100000 in
theorem lX11_296 : Cond.methodLink RX11 296 yX11_term ∈ WL := wl_t6 220 rfl rfl
set_option maxRecDepth 100000 in
theorem fX11_299 : FldOK RX11 299 11 46 := ⟨(RX11, TX11, 67), rfl, by decide, wl_t5 194 rfl rfl⟩
set_option maxRecDepth 100000 in
theorem lX11_302 : Cond.methodLink RX11 302 yX11_emit ∈ WL := wl_t6 212 rfl rfl
set_option maxRecDepth 100000 in
theorem lX11_305 : Cond.methodLink RX11 305 yX11_unit ∈ WL := wl_t6 208 rfl rfl
set_option maxRecDepth 100000 in
theorem lX11_308 : Cond.methodLink RX11 308 yX11_comesOut ∈ WL := wl_t6 216 rfl rfl
set_option maxRecDepth 100000 in
theorem fX11_312 : FldOK RX11 312 11 49 := ⟨(RX11, TX11, 67), rfl, by decide, wl_t5 197 rfl rfl⟩
set_option maxRecDepth 100000 in
theorem lX11_316 : Cond.methodLink RX11 316 yX11_in ∈ WL := wl_t6 236 rfl rfl
set_option maxRecDepth 100000 in
theorem fX11_320 : FldOK RX11 320 11 52 := ⟨(RX11, TX11, 67), rfl, by decide, wl_t5 200 rfl rfl⟩
set_option maxRecDepth 100000 in
theorem fX11_323 : FldOK RX11 323 11 53 := ⟨(RX11, TX11, 67), rfl, by decide, wl_t5 201 rfl rfl⟩
set_option maxRecDepth 100000 in
theorem lX11_326 : Cond.methodLink RX11 326 yX11_copies ∈ WL := wl_t6 239 rfl rfl
set_option maxRecDepth 100000 in
theorem lX11_329 : Cond.constant RX11 329 (1103515245) ∈ WL := wl_t7 159 rfl rfl
set_option maxRecDepth 100000 in
theorem lX11_330 : Cond.methodLink RX11 330 yX11_mixed ∈ WL := wl_t7 156 rfl rfl
set_option maxRecDepth 100000 in
theorem lX11_333 : Cond.methodLink RX11 333 yX11_fromAt ∈ WL := wl_t7 49 rfl rfl
set_option maxRecDepth 100000 in
theorem lX11_336 : Cond.methodLink RX11 336 yX11_tillAt ∈ WL := wl_t7 85 rfl rfl
set_option maxRecDepth 100000 in
theorem lX11_339 : Cond.methodLink RX11 339 yX11_doClash ∈ WL := wl_t7 105 rfl rfl
set_option maxRecDepth 100000 in
theorem lX11_343 : Cond.methodLink RX11 343 yX11_within ∈ WL := wl_t7 30 rfl rfl
set_option maxRecDepth 100000 in
theorem lX11_346 : Cond.methodLink RX11 346 yX11_termOf ∈ WL := wl_t7 33 rfl rfl
set_option maxRecDepth 100000 in
theorem lX11_349 : Cond.methodLink RX11 349 yX11_looksAt ∈ WL := wl_t7 15 rfl rfl
set_option maxRecDepth 100000 in
theorem lX11_352 : Cond.methodLink RX11 352 yX11_looks ∈ WL := wl_t7 65 rfl rfl
set_option maxRecDepth 100000 in
theorem lX11_356 : Cond.methodLink RX11 356 yX11_lawTells ∈ WL := wl_t7 26 rfl rfl
set_option maxRecDepth 100000 in
theorem lX11_359 : Cond.methodLink RX11 359 yX11_hoursTaken ∈ WL := wl_t7 19 rfl rfl
set_option maxRecDepth 100000 in
theorem lX11_362 : Cond.methodLink RX11 362 yX11_guestBits ∈ WL := wl_t7 3 rfl rfl
set_option maxRecDepth 100000 in
theorem lX11_365 : Cond.methodLink RX11 365 yX11_bits ∈ WL := wl_t7 23 rfl rfl
set_option maxRecDepth 100000 in
theorem lX11_368 : Cond.methodLink RX11 368 yX11_looksAll ∈ WL := wl_t7 11 rfl rfl
set_option maxRecDepth 100000 in
theorem lX11_371 : Cond.methodLink RX11 371 yX11_othersOf ∈ WL := wl_t7 57 rfl rfl
set_option maxRecDepth 100000 in
theorem lX11_374 : Cond.methodLink RX11 374 yX11_paysAt ∈ WL := wl_t7 61 rfl rfl
set_option maxRecDepth 100000 in
theorem lX11_377 : Cond.methodLink RX11 377 yX11_restsAt ∈ WL := wl_t7 73 rfl rfl
set_option maxRecDepth 100000 in
theorem lX11_380 : Cond.methodLink RX11 380 yX11_paysOf ∈ WL := wl_t7 53 rfl rfl
set_option maxRecDepth 100000 in
theorem lX11_383 : Cond.methodLink RX11 383 yX11_lotOf ∈ WL := wl_t7 152 rfl rfl
set_option maxRecDepth 100000 in
theorem lX11_386 : Cond.methodLink RX11 386 yX11_dueAll ∈ WL := wl_t7 140 rfl rfl
set_option maxRecDepth 100000 in
theorem lX11_389 : Cond.methodLink RX11 389 yX11_restsOf ∈ WL := wl_t7 69 rfl rfl
set_option maxRecDepth 100000 in
theorem lX11_392 : Cond.methodLink RX11 392 yX11_wearsOf ∈ WL := wl_t7 7 rfl rfl
set_option maxRecDepth 100000 in
theorem lX11_395 : Cond.methodLink RX11 395 yX11_restsIn ∈ WL := wl_t7 144 rfl rfl
set_option maxRecDepth 100000 in
theorem lX11_398 : Cond.methodLink RX11 398 yX11_mayDie ∈ WL := wl_t7 148 rfl rfl
set_option maxRecDepth 100000 in
theorem lX11_401 : Cond.methodLink RX11 401 yX11_weekGoes ∈ WL := wl_t7 136 rfl rfl
set_option maxRecDepth 100000 in
theorem lX11_404 : Cond.methodLink RX11 404 yX11_isSunday ∈ WL := wl_t6 232 rfl rfl
set_option maxRecDepth 100000 in
theorem lX11_407 : Cond.methodLink RX11 407 yX11_sellsOf ∈ WL := wl_t7 37 rfl rfl
set_option maxRecDepth 100000 in
theorem lX11_410 : Cond.methodLink RX11 410 yX11_isGuest ∈ WL := wl_t7 45 rfl rfl
set_option maxRecDepth 100000 in
theorem lX11_413 : Cond.methodLink RX11 413 yX11_whoIsAt ∈ WL := wl_t7 81 rfl rfl
set_option maxRecDepth 100000 in
theorem lX11_416 : Cond.methodLink RX11 416 yX11_doesFit ∈ WL := wl_t7 97 rfl rfl
set_option maxRecDepth 100000 in
theorem lX11_419 : Cond.methodLink RX11 419 yX11_clashBits ∈ WL := wl_t7 101 rfl rfl
set_option maxRecDepth 100000 in
theorem lX11_422 : Cond.methodLink RX11 422 yX11_mayGoIn ∈ WL := wl_t7 93 rfl rfl
set_option maxRecDepth 100000 in
theorem lX11_425 : Cond.methodLink RX11 425 yX11_records ∈ WL := wl_t7 109 rfl rfl
set_option maxRecDepth 100000 in
theorem lX11_428 : Cond.methodLink RX11 428 yX11_isLong ∈ WL := wl_t7 129 rfl rfl
set_option maxRecDepth 100000 in
theorem lX11_431 : Cond.methodLink RX11 431 yX11_goes ∈ WL := wl_t7 132 rfl rfl
set_option maxRecDepth 100000 in
theorem lX11_434 : Cond.methodLink RX11 434 yX11_lowestOf ∈ WL := wl_t7 176 rfl rfl
set_option maxRecDepth 100000 in
theorem lX11_437 : Cond.methodLink RX11 437 yX11_valueAt ∈ WL := wl_t7 172 rfl rfl
set_option maxRecDepth 100000 in
theorem lX11_440 : Cond.methodLink RX11 440 yX11_fillsValues ∈ WL := wl_t7 168 rfl rfl
set_option maxRecDepth 100000 in
theorem lX11_443 : Cond.methodLink RX11 443 yX11_isPart ∈ WL := wl_t7 191 rfl rfl
set_option maxRecDepth 100000 in
theorem lX11_446 : Cond.methodLink RX11 446 yX11_canBe ∈ WL := wl_t7 187 rfl rfl
set_option maxRecDepth 100000 in
theorem lX11_449 : Cond.methodLink RX11 449 yX11_bestWith ∈ WL := wl_t7 194 rfl rfl
set_option maxRecDepth 100000 in
theorem lX11_452 : Cond.methodLink RX11 452 yX11_fillsBest ∈ WL := wl_t7 183 rfl rfl
set_option maxRecDepth 100000 in
theorem lX11_455 : Cond.methodLink RX11 455 yX11_livingBits ∈ WL := wl_t7 198 rfl rfl
set_option maxRecDepth 100000 in
theorem lX11_458 : Cond.methodLink RX11 458 yX11_leastFor ∈ WL := wl_t7 202 rfl rfl
set_option maxRecDepth 100000 in
theorem lX11_461 : Cond.methodLink RX11 461 yX11_areAllIn ∈ WL := wl_t7 210 rfl rfl
set_option maxRecDepth 100000 in
theorem lX11_464 : Cond.methodLink RX11 464 yX11_isCalm ∈ WL := wl_t7 218 rfl rfl
set_option maxRecDepth 100000 in
theorem lX11_467 : Cond.methodLink RX11 467 yX11_isTangle ∈ WL := wl_t7 226 rfl rfl
set_option maxRecDepth 100000 in
theorem lX11_470 : Cond.methodLink RX11 470 yX11_fitBits ∈ WL := wl_t7 238 rfl rfl
set_option maxRecDepth 100000 in
theorem lX11_473 : Cond.methodLink RX11 473 yX11_copiesStill ∈ WL := wl_t8 30 rfl rfl
set_option maxRecDepth 100000 in
theorem lX11_476 : Cond.methodLink RX11 476 yX11_isWeary ∈ WL := wl_t8 38 rfl rfl
set_option maxRecDepth 100000 in
theorem lX11_479 : Cond.methodLink RX11 479 yX11_isForSale ∈ WL := wl_t8 50 rfl rfl
set_option maxRecDepth 100000 in
theorem lX11_482 : Cond.methodLink RX11 482 yX11_isThere ∈ WL := wl_t8 90 rfl rfl
set_option maxRecDepth 100000 in
theorem lX11_485 : Cond.methodLink RX11 485 yX11_whoseBits ∈ WL := wl_t8 86 rfl rfl
set_option maxRecDepth 100000 in
theorem lX11_488 : Cond.methodLink RX11 488 yX11_sumNow ∈ WL := wl_t8 110 rfl rfl
set_option maxRecDepth 100000 in
theorem lX2_3 : Cond.methodLink RX2 3 objectInit ∈ WL := wl_t2 32 rfl rfl
set_option maxRecDepth 100000 in
theorem fX2_11 : FldOK RX2 11 2 0 := ⟨(RX2, TX2, 4), rfl, by decide, wl_t2 33 rfl rfl⟩
set_option maxRecDepth 100000 in
theorem fX2_15 : FldOK RX2 15 2 1 := ⟨(RX2, TX2, 4), rfl, by decide, wl_t2 34 rfl rfl⟩
set_option maxRecDepth 100000 in
theorem fX2_18 : FldOK RX2 18 2 2 := ⟨(RX2, TX2, 4), rfl, by decide, wl_t2 35 rfl rfl⟩
set_option maxRecDepth 100000 in
theorem fX2_21 : FldOK RX2 21 2 3 := ⟨(RX2, TX2, 4), rfl, by decide, wl_t2 36 rfl rfl⟩
set_option maxRecDepth 100000 in
theorem lX2_25 : Cond.methodLink RX2 25 yX2_addShortLaw ∈ WL := wl_t2 54 rfl rfl
set_option maxRecDepth 100000 in
theorem lX2_29 : Cond.methodLink RX2 29 yX2_startLaw ∈ WL := wl_t2 58 rfl rfl
set_option maxRecDepth 100000 in
theorem lX2_33 : Cond.methodLink RX2 33 yX2_add ∈ WL := wl_t2 62 rfl rfl
set_option maxRecDepth 100000 in
theorem lX2_37 : Cond.methodLink RX2 37 yJ9_max_7cf53 ∈ WL := wl_t3 223 rfl rfl
set_option maxRecDepth 100000 in
theorem lX2_42 : Cond.methodLink RX2 42 yX2_reckon ∈ WL := wl_t3 224 rfl rfl
set_option maxRecDepth 100000 in
theorem lX3_3 : Cond.methodLink RX3 3 objectInit ∈ WL := wl_t1 228 rfl rfl
set_option maxRecDepth 100000 in
theorem lX3_9 : Cond.classLink RX3 9 "[[I" ∈ WL := wl_t1 229 rfl rfl
set_option maxRecDepth 100000 in
theorem fX3_11 : FldOK RX3 11 3 0 := ⟨(RX3, TX3, 3), rfl, by decide, wl_t1 231 rfl rfl⟩
set_option maxRecDepth 100000 in
theorem fX3_16 : FldOK RX3 16 3 1 := ⟨(RX3, TX3, 3), rfl, by decide, wl_t1 233 rfl rfl⟩
set_option maxRecDepth 100000 in
theorem fX3_19 : FldOK RX3 19 3 2 := ⟨(RX3, TX3, 3), rfl, by decide, wl_t1 235 rfl rfl⟩
set_option maxRecDepth 100000 in
theorem lX3_23 : Cond.methodLink RX3 23 yX3_livingFit ∈ WL := wl_t4 118 rfl rfl
set_option maxRecDepth 100000 in
theorem fX3_27 : FldOK RX3 27 7 3 := ⟨(RX7, TX7, 17), rfl, by decide, wl_t2 85 rfl rfl⟩
set_option maxRecDepth 100000 in
theorem lX3_33 : Cond.methodLink RX3 33 yX1_ofGuest ∈ WL := wl_t4 124 rfl rfl
set_option maxRecDepth 100000 in
theorem fX3_39 : FldOK RX3 39 7 13 := ⟨(RX7, TX7, 17), rfl, by decide, wl_t2 117 rfl rfl⟩
set_option maxRecDepth 100000 in
theorem lX3_43 : Cond.methodLink RX3 43 yJ6_numberOfTrailingZeros_0f7a4 ∈ WL := wl_t4 125 rfl rfl
set_option maxRecDepth 100000 in
theorem lX3_49 : Cond.methodLink RX3 49 yX5_isDead ∈ WL := wl_t4 121 rfl rfl
set_option maxRecDepth 100000 in
theorem lX3_55 : Cond.methodLink RX3 55 yX5_isSold ∈ WL := wl_t4 122 rfl rfl
set_option maxRecDepth 100000 in
theorem lX3_58 : Cond.methodLink RX3 58 yX7_isLongEnough ∈ WL := wl_t4 123 rfl rfl
set_option maxRecDepth 100000 in
theorem fX3_62 : FldOK RX3 62 7 0 := ⟨(RX7, TX7, 17), rfl, by decide, wl_t2 76 rfl rfl⟩
set_option maxRecDepth 100000 in
theorem lX3_65 : Cond.methodLink RX3 65 yX3_mostWith ∈ WL := wl_t4 141 rfl rfl
set_option maxRecDepth 100000 in
theorem lX3_69 : Cond.methodLink RX3 69 yJ9_max_7cf53 ∈ WL := wl_t4 145 rfl rfl
set_option maxRecDepth 100000 in
theorem lX3_74 : Cond.methodLink RX3 74 yX3_leastPart ∈ WL := wl_t4 154 rfl rfl
set_option maxRecDepth 100000 in
theorem lX3_77 : Cond.constant RX3 77 (1048576) ∈ WL := wl_t4 166 rfl rfl
set_option maxRecDepth 100000 in
theorem lX3_78 : Cond.methodLink RX3 78 yX3_leastWith ∈ WL := wl_t4 167 rfl rfl
set_option maxRecDepth 100000 in
theorem lX3_82 : Cond.methodLink RX3 82 yX5_alive ∈ WL := wl_t4 172 rfl rfl
set_option maxRecDepth 100000 in
theorem lX3_86 : Cond.methodLink RX3 86 yJ9_min_7cf53 ∈ WL := wl_t4 171 rfl rfl
set_option maxRecDepth 100000 in
theorem lX3_89 : Cond.methodLink RX3 89 yJ6_bitCount_0f7a4 ∈ WL := wl_t4 190 rfl rfl
set_option maxRecDepth 100000 in
theorem lX3_92 : Cond.methodLink RX3 92 yX3_isTangle ∈ WL := wl_t4 191 rfl rfl
set_option maxRecDepth 100000 in
theorem fX3_96 : FldOK RX3 96 7 11 := ⟨(RX7, TX7, 17), rfl, by decide, wl_t2 113 rfl rfl⟩
set_option maxRecDepth 100000 in
theorem lX4_3 : Cond.methodLink RX4 3 objectInit ∈ WL := wl_t1 51 rfl rfl
set_option maxRecDepth 100000 in
theorem fX4_9 : FldOK RX4 9 4 0 := ⟨(RX4, TX4, 6), rfl, by decide, wl_t1 128 rfl rfl⟩
set_option maxRecDepth 100000 in
theorem fX4_15 : FldOK RX4 15 4 1 := ⟨(RX4, TX4, 6), rfl, by decide, wl_t1 130 rfl rfl⟩
set_option maxRecDepth 100000 in
theorem lX4_18 : Cond.classLink RX4 18 RX8 ∈ WL := wl_t1 52 rfl rfl
set_option maxRecDepth 100000 in
theorem lX4_20 : Cond.methodLink RX4 20 yX8_init ∈ WL := wl_t1 54 rfl rfl
set_option maxRecDepth 100000 in
theorem fX4_21 : FldOK RX4 21 4 2 := ⟨(RX4, TX4, 6), rfl, by decide, wl_t1 132 rfl rfl⟩
set_option maxRecDepth 100000 in
theorem fX4_25 : FldOK RX4 25 4 3 := ⟨(RX4, TX4, 6), rfl, by decide, wl_t1 133 rfl rfl⟩
set_option maxRecDepth 100000 in
theorem fX4_28 : FldOK RX4 28 4 4 := ⟨(RX4, TX4, 6), rfl, by decide, wl_t1 134 rfl rfl⟩
set_option maxRecDepth 100000 in
theorem fX4_31 : FldOK RX4 31 4 5 := ⟨(RX4, TX4, 6), rfl, by decide, wl_t1 135 rfl rfl⟩
set_option maxRecDepth 100000 in
theorem lX4_34 : Cond.methodLink RX4 34 yX7_begin ∈ WL := wl_t2 217 rfl rfl
set_option maxRecDepth 100000 in
theorem lX4_39 : Cond.methodLink RX4 39 yX8_cut ∈ WL := wl_t2 218 rfl rfl
set_option maxRecDepth 100000 in
theorem lX4_43 : Cond.methodLink RX4 43 yX4_kind ∈ WL := wl_t3 75 rfl rfl
set_option maxRecDepth 100000 in
theorem lX4_47 : Cond.methodLink RX4 47 yX4_readTell ∈ WL := wl_t3 79 rfl rfl
set_option maxRecDepth 100000 in
theorem fX4_51 : FldOK RX4 51 8 1 := ⟨(RX8, TX8, 5), rfl, by decide, wl_t1 110 rfl rfl⟩
set_option maxRecDepth 100000 in
theorem lX4_55 : Cond.methodLink RX4 55 yX7_findClashes ∈ WL := wl_t3 166 rfl rfl
set_option maxRecDepth 100000 in
theorem fX4_58 : FldOK RX4 58 8 0 := ⟨(RX8, TX8, 5), rfl, by decide, wl_t1 108 rfl rfl⟩
set_option maxRecDepth 100000 in
theorem lX4_61 : Cond.methodLink RX4 61 yX4_readSunday ∈ WL := wl_t3 83 rfl rfl
set_option maxRecDepth 100000 in
theorem lX4_64 : Cond.methodLink RX4 64 yX4_readGuest ∈ WL := wl_t3 123 rfl rfl
set_option maxRecDepth 100000 in
theorem lX4_67 : Cond.methodLink RX4 67 yX4_readFoes ∈ WL := wl_t3 131 rfl rfl
set_option maxRecDepth 100000 in
theorem fX4_70 : FldOK RX4 70 7 10 := ⟨(RX7, TX7, 17), rfl, by decide, wl_t2 111 rfl rfl⟩
set_option maxRecDepth 100000 in
theorem lX4_74 : Cond.methodLink RX4 74 yX4_readLaw ∈ WL := wl_t3 144 rfl rfl
set_option maxRecDepth 100000 in
theorem lX4_78 : Cond.methodLink RX4 78 yX4_take ∈ WL := wl_t3 91 rfl rfl
set_option maxRecDepth 100000 in
theorem lX4_82 : Cond.methodLink RX4 82 yX4_takeInt ∈ WL := wl_t3 111 rfl rfl
set_option maxRecDepth 100000 in
theorem lX4_86 : Cond.methodLink RX4 86 yX4_intBehind ∈ WL := wl_t3 115 rfl rfl
set_option maxRecDepth 100000 in
theorem fX4_90 : FldOK RX4 90 7 8 := ⟨(RX7, TX7, 17), rfl, by decide, wl_t2 103 rfl rfl⟩
set_option maxRecDepth 100000 in
theorem fX4_93 : FldOK RX4 93 7 9 := ⟨(RX7, TX7, 17), rfl, by decide, wl_t2 107 rfl rfl⟩
set_option maxRecDepth 100000 in
theorem lX4_96 : Cond.methodLink RX4 96 yX4_fail ∈ WL := wl_t3 87 rfl rfl
set_option maxRecDepth 100000 in
theorem fX4_99 : FldOK RX4 99 7 0 := ⟨(RX7, TX7, 17), rfl, by decide, wl_t2 75 rfl rfl⟩
set_option maxRecDepth 100000 in
theorem lX4_102 : Cond.methodLink RX4 102 yX4_takeNewName ∈ WL := wl_t3 95 rfl rfl
set_option maxRecDepth 100000 in
theorem fX4_105 : FldOK RX4 105 8 2 := ⟨(RX8, TX8, 5), rfl, by decide, wl_t1 112 rfl rfl⟩
set_option maxRecDepth 100000 in
theorem lX4_109 : Cond.methodLink RX4 109 yX7_addSunday ∈ WL := wl_t3 119 rfl rfl
set_option maxRecDepth 100000 in
theorem fX4_113 : FldOK RX4 113 7 3 := ⟨(RX7, TX7, 17), rfl, by decide, wl_t2 87 rfl rfl⟩
set_option maxRecDepth 100000 in
theorem lX4_116 : Cond.methodLink RX4 116 yX7_addGuest ∈ WL := wl_t3 127 rfl rfl
set_option maxRecDepth 100000 in
theorem fX4_120 : FldOK RX4 120 7 7 := ⟨(RX7, TX7, 17), rfl, by decide, wl_t2 101 rfl rfl⟩
set_option maxRecDepth 100000 in
theorem lX4_123 : Cond.methodLink RX4 123 yX7_guestNamed ∈ WL := wl_t3 135 rfl rfl
set_option maxRecDepth 100000 in
theorem lX4_127 : Cond.methodLink RX4 127 yX4_keepLate ∈ WL := wl_t3 107 rfl rfl
set_option maxRecDepth 100000 in
theorem lX4_131 : Cond.methodLink RX4 131 yX7_areFoes ∈ WL := wl_t3 136 rfl rfl
set_option maxRecDepth 100000 in
theorem lX4_134 : Cond.methodLink RX4 134 yX7_addFoes ∈ WL := wl_t3 140 rfl rfl
set_option maxRecDepth 100000 in
theorem lX4_137 : Cond.methodLink RX4 137 yX2_startLaw ∈ WL := wl_t3 148 rfl rfl
set_option maxRecDepth 100000 in
theorem lX4_143 : Cond.methodLink RX4 143 yX4_readSum ∈ WL := wl_t3 149 rfl rfl
set_option maxRecDepth 100000 in
theorem lX4_146 : Cond.methodLink RX4 146 yX2_add ∈ WL := wl_t3 161 rfl rfl
set_option maxRecDepth 100000 in
theorem lX4_150 : Cond.methodLink RX4 150 yX2_aimBehind ∈ WL := wl_t3 162 rfl rfl
set_option maxRecDepth 100000 in
theorem lX4_153 : Cond.methodLink RX4 153 yX4_readProduct ∈ WL := wl_t3 153 rfl rfl
set_option maxRecDepth 100000 in
theorem lX4_156 : Cond.methodLink RX4 156 yX4_readUnit ∈ WL := wl_t3 157 rfl rfl
set_option maxRecDepth 100000 in
theorem lX4_159 : Cond.methodLink RX4 159 yX7_isNamed ∈ WL := wl_t3 99 rfl rfl
set_option maxRecDepth 100000 in
theorem lX5_3 : Cond.methodLink RX5 3 objectInit ∈ WL := wl_t1 154 rfl rfl
set_option maxRecDepth 100000 in
theorem fX5_9 : FldOK RX5 9 5 0 := ⟨(RX5, TX5, 7), rfl, by decide, wl_t1 155 rfl rfl⟩
set_option maxRecDepth 100000 in
theorem fX5_15 : FldOK RX5 15 5 1 := ⟨(RX5, TX5, 7), rfl, by decide, wl_t1 158 rfl rfl⟩
set_option maxRecDepth 100000 in
theorem fX5_18 : FldOK RX5 18 5 2 := ⟨(RX5, TX5, 7), rfl, by decide, wl_t1 161 rfl rfl⟩
set_option maxRecDepth 100000 in
theorem fX5_21 : FldOK RX5 21 5 3 := ⟨(RX5, TX5, 7), rfl, by decide, wl_t1 164 rfl rfl⟩
set_option maxRecDepth 100000 in
theorem fX5_24 : FldOK RX5 24 5 4 := ⟨(RX5, TX5, 7), rfl, by decide, wl_t1 166 rfl rfl⟩
set_option maxRecDepth 100000 in
theorem fX5_28 : FldOK RX5 28 5 5 := ⟨(RX5, TX5, 7), rfl, by decide, wl_t1 169 rfl rfl⟩
set_option maxRecDepth 100000 in
theorem fX5_31 : FldOK RX5 31 5 6 := ⟨(RX5, TX5, 7), rfl, by decide, wl_t1 172 rfl rfl⟩
set_option maxRecDepth 100000 in
theorem lX5_34 : Cond.methodLink RX5 34 yX5_isIn ∈ WL := wl_t4 1 rfl rfl
set_option maxRecDepth 100000 in
theorem fX5_38 : FldOK RX5 38 7 3 := ⟨(RX7, TX7, 17), rfl, by decide, wl_t2 90 rfl rfl⟩
set_option maxRecDepth 100000 in
theorem lX6_3 : Cond.methodLink RX6 3 objectInit ∈ WL := wl_t1 34 rfl rfl
set_option maxRecDepth 100000 in
theorem fX6_9 : FldOK RX6 9 6 0 := ⟨(RX6, TX6, 2), rfl, by decide, wl_t1 35 rfl rfl⟩
set_option maxRecDepth 100000 in
theorem fX6_15 : FldOK RX6 15 6 1 := ⟨(RX6, TX6, 2), rfl, by decide, wl_t1 37 rfl rfl⟩
set_option maxRecDepth 100000 in
theorem lX7_3 : Cond.methodLink RX7 3 objectInit ∈ WL := wl_t2 26 rfl rfl
set_option maxRecDepth 100000 in
theorem fX7_9 : FldOK RX7 9 7 0 := ⟨(RX7, TX7, 17), rfl, by decide, wl_t2 74 rfl rfl⟩
set_option maxRecDepth 100000 in
theorem fX7_15 : FldOK RX7 15 7 1 := ⟨(RX7, TX7, 17), rfl, by decide, wl_t2 79 rfl rfl⟩
set_option maxRecDepth 100000 in
theorem fX7_19 : FldOK RX7 19 7 2 := ⟨(RX7, TX7, 17), rfl, by decide, wl_t2 81 rfl rfl⟩
set_option maxRecDepth 100000 in
theorem fX7_22 : FldOK RX7 22 7 3 := ⟨(RX7, TX7, 17), rfl, by decide, wl_t2 84 rfl rfl⟩
set_option maxRecDepth 100000 in
theorem fX7_25 : FldOK RX7 25 7 4 := ⟨(RX7, TX7, 17), rfl, by decide, wl_t2 91 rfl rfl⟩
set_option maxRecDepth 100000 in
theorem fX7_28 : FldOK RX7 28 7 5 := ⟨(RX7, TX7, 17), rfl, by decide, wl_t2 94 rfl rfl⟩
set_option maxRecDepth 100000 in
theorem fX7_31 : FldOK RX7 31 7 6 := ⟨(RX7, TX7, 17), rfl, by decide, wl_t2 97 rfl rfl⟩
set_option maxRecDepth 100000 in
theorem fX7_34 : FldOK RX7 34 7 7 := ⟨(RX7, TX7, 17), rfl, by decide, wl_t2 100 rfl rfl⟩
set_option maxRecDepth 100000 in
theorem fX7_37 : FldOK RX7 37 7 8 := ⟨(RX7, TX7, 17), rfl, by decide, wl_t2 102 rfl rfl⟩
set_option maxRecDepth 100000 in
theorem fX7_40 : FldOK RX7 40 7 9 := ⟨(RX7, TX7, 17), rfl, by decide, wl_t2 106 rfl rfl⟩
set_option maxRecDepth 100000 in
theorem lX7_43 : Cond.classLink RX7 43 RX2 ∈ WL := wl_t2 27 rfl rfl
set_option maxRecDepth 100000 in
theorem fX7_46 : FldOK RX7 46 7 10 := ⟨(RX7, TX7, 17), rfl, by decide, wl_t2 109 rfl rfl⟩
set_option maxRecDepth 100000 in
theorem fX7_50 : FldOK RX7 50 7 11 := ⟨(RX7, TX7, 17), rfl, by decide, wl_t2 112 rfl rfl⟩
set_option maxRecDepth 100000 in
theorem fX7_53 : FldOK RX7 53 7 12 := ⟨(RX7, TX7, 17), rfl, by decide, wl_t2 115 rfl rfl⟩
set_option maxRecDepth 100000 in
theorem fX7_57 : FldOK RX7 57 7 13 := ⟨(RX7, TX7, 17), rfl, by decide, wl_t2 116 rfl rfl⟩
set_option maxRecDepth 100000 in
theorem fX7_61 : FldOK RX7 61 7 14 := ⟨(RX7, TX7, 17), rfl, by decide, wl_t2 118 rfl rfl⟩
set_option maxRecDepth 100000 in
theorem fX7_64 : FldOK RX7 64 7 15 := ⟨(RX7, TX7, 17), rfl, by decide, wl_t2 119 rfl rfl⟩
set_option maxRecDepth 100000 in
theorem fX7_67 : FldOK RX7 67 7 16 := ⟨(RX7, TX7, 17), rfl, by decide, wl_t2 120 rfl rfl⟩
set_option maxRecDepth 100000 in
theorem lX7_70 : Cond.methodLink RX7 70 yX7_begin ∈ WL := wl_t2 46 rfl rfl
set_option maxRecDepth 100000 in
theorem lX7_73 : Cond.methodLink RX7 73 yX7_findClashes ∈ WL := wl_t2 66 rfl rfl
set_option maxRecDepth 100000 in
theorem lX7_76 : Cond.methodLink RX7 76 yX2_begin ∈ WL := wl_t2 50 rfl rfl
set_option maxRecDepth 100000 in
theorem lX7_77 : Cond.methodLink RX7 77 yX7_guestNamed ∈ WL := wl_t3 103 rfl rfl
set_option maxRecDepth 100000 in
theorem lX7_81 : Cond.methodLink RX7 81 yX7_isPeaceful ∈ WL := wl_t2 70 rfl rfl
set_option maxRecDepth 100000 in
theorem lX7_85 : Cond.methodLink RX7 85 yX7_spanOf ∈ WL := wl_t3 199 rfl rfl
set_option maxRecDepth 100000 in
theorem lX7_89 : Cond.methodLink RX7 89 yJ13_bitCount_95d88 ∈ WL := wl_t3 203 rfl rfl
set_option maxRecDepth 100000 in
theorem lX8_3 : Cond.methodLink RX8 3 objectInit ∈ WL := wl_t1 57 rfl rfl
set_option maxRecDepth 100000 in
theorem fX8_9 : FldOK RX8 9 8 0 := ⟨(RX8, TX8, 5), rfl, by decide, wl_t1 107 rfl rfl⟩
set_option maxRecDepth 100000 in
theorem fX8_15 : FldOK RX8 15 8 1 := ⟨(RX8, TX8, 5), rfl, by decide, wl_t1 109 rfl rfl⟩
set_option maxRecDepth 100000 in
theorem fX8_18 : FldOK RX8 18 8 2 := ⟨(RX8, TX8, 5), rfl, by decide, wl_t1 111 rfl rfl⟩
set_option maxRecDepth 100000 in
theorem fX8_22 : FldOK RX8 22 8 3 := ⟨(RX8, TX8, 5), rfl, by decide, wl_t1 113 rfl rfl⟩
set_option maxRecDepth 100000 in
theorem fX8_25 : FldOK RX8 25 8 4 := ⟨(RX8, TX8, 5), rfl, by decide, wl_t1 114 rfl rfl⟩
set_option maxRecDepth 100000 in
theorem lX8_31 : Cond.methodLink RX8 31 yJ0_length_8abf5 ∈ WL := wl_t1 59 rfl rfl
set_option maxRecDepth 100000 in
theorem lX8_37 : Cond.methodLink RX8 37 yJ0_charAt_5068e ∈ WL := wl_t1 69 rfl rfl
set_option maxRecDepth 100000 in
theorem lX8_41 : Cond.methodLink RX8 41 yX8_behindBlanks ∈ WL := wl_t2 222 rfl rfl
set_option maxRecDepth 100000 in
theorem fX8_45 : FldOK RX8 45 6 1 := ⟨(RX6, TX6, 2), rfl, by decide, wl_t1 38 rfl rfl⟩
set_option maxRecDepth 100000 in
theorem lX8_49 : Cond.methodLink RX8 49 yX8_cutOne ∈ WL := wl_t2 229 rfl rfl
set_option maxRecDepth 100000 in
theorem lX8_52 : Cond.methodLink RX8 52 yX8_add ∈ WL := wl_t3 4 rfl rfl
set_option maxRecDepth 100000 in
theorem fX8_56 : FldOK RX8 56 6 0 := ⟨(RX6, TX6, 2), rfl, by decide, wl_t1 36 rfl rfl⟩
set_option maxRecDepth 100000 in
theorem lX8_60 : Cond.methodLink RX8 60 yX8_isBlank ∈ WL := wl_t2 226 rfl rfl
set_option maxRecDepth 100000 in
theorem lX8_64 : Cond.methodLink RX8 64 yX8_isLetter ∈ WL := wl_t2 233 rfl rfl
set_option maxRecDepth 100000 in
theorem lX8_67 : Cond.methodLink RX8 67 yX8_cutLetters ∈ WL := wl_t2 236 rfl rfl
set_option maxRecDepth 100000 in
theorem lX8_70 : Cond.methodLink RX8 70 yX8_isDigit ∈ WL := wl_t3 8 rfl rfl
set_option maxRecDepth 100000 in
theorem lX8_73 : Cond.methodLink RX8 73 yX8_cutDigits ∈ WL := wl_t3 11 rfl rfl
set_option maxRecDepth 100000 in
theorem lX8_78 : Cond.methodLink RX8 78 yJ0_indexOf_0f7a4 ∈ WL := wl_t3 16 rfl rfl
set_option maxRecDepth 100000 in
theorem lX8_82 : Cond.methodLink RX8 82 yX8_kindOf ∈ WL := wl_t3 0 rfl rfl
set_option maxRecDepth 100000 in
theorem lX9_3 : Cond.methodLink RX9 3 objectInit ∈ WL := wl_t1 195 rfl rfl
set_option maxRecDepth 100000 in
theorem fX9_9 : FldOK RX9 9 9 0 := ⟨(RX9, TX9, 3), rfl, by decide, wl_t1 199 rfl rfl⟩
set_option maxRecDepth 100000 in
theorem lX9_15 : Cond.classLink RX9 15 RX5 ∈ WL := wl_t1 196 rfl rfl
set_option maxRecDepth 100000 in
theorem fX9_17 : FldOK RX9 17 9 1 := ⟨(RX9, TX9, 3), rfl, by decide, wl_t1 201 rfl rfl⟩
set_option maxRecDepth 100000 in
theorem fX9_21 : FldOK RX9 21 9 2 := ⟨(RX9, TX9, 3), rfl, by decide, wl_t1 202 rfl rfl⟩
set_option maxRecDepth 100000 in
theorem lX9_25 : Cond.methodLink RX9 25 yX5_copyFrom ∈ WL := wl_t4 43 rfl rfl
set_option maxRecDepth 100000 in
theorem lX9_29 : Cond.methodLink RX9 29 yJ9_min_7cf53 ∈ WL := wl_t4 47 rfl rfl
set_option maxRecDepth 100000 in
theorem wlA_int : Cond.arrayClass (aty 0) ∈ WL := wl_t1 126 rfl rfl
set_option maxRecDepth 100000 in
theorem wlA_long : Cond.arrayClass (aty 1) ∈ WL := wl_t1 127 rfl rfl
set_option maxRecDepth 100000 in
theorem wlA_byte : Cond.arrayClass (aty 2) ∈ WL := wl_t1 45 rfl rfl
set_option maxRecDepth 100000 in
theorem wlA_boolean : Cond.arrayClass (aty 3) ∈ WL := wl_t2 20 rfl rfl
set_option maxRecDepth 100000 in
theorem wlI_obj : Cond.instanceMethod objectInit ∈ WL := wl_t1 27 rfl rfl
set_option maxRecDepth 100000 in
theorem wlC_obj : Cond.code objectInit ⟨#[0xb1]⟩ 1 none ∈ WL := wl_t1 28 rfl rfl
