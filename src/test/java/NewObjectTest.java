/** Promise 1: a new object. */
public final class NewObjectTest {
    public static void main(String[] args) {
        Check check = new Check();
        WeatherTeller teller = new WeatherTeller();
        check.same("NONE", WeatherTeller.NONE, -1);
        for (int what = 0; what <= 6; what++) {
            check.same("count(" + what + ")", teller.count(what), 0);
        }
        check.same("fault(0)", teller.fault(0), 0);
        check.same("fault(1)", teller.fault(1), -1);
        check.same("sign(0)", teller.sign(0), -1);
        check.same("told(0)", teller.told(0), -1);
        check.same("rules(1)", teller.rules(1), -2);
        check.same("held(1)", teller.held(1), -10000);
        check.same("finding(0, 0) throws", Check.thrown(teller, 0, 0), 1);
        check.isFalse("put", teller.put(0, 0, 0, 0, 0, 0));
        check.isFalse("miss", teller.miss(0, 0, 0, 0));
        for (int quantity = 0; quantity < 3; quantity++) {
            check.same("changed", teller.changed(quantity, 0), 0);
            for (int place = 0; place < 6; place++) {
                for (int hour = 0; hour < 24; hour++) {
                    check.same("number", teller.number(quantity, place, hour), -100);
                }
            }
        }
        check.same("tell(400)", teller.tell(400), 0);
        check.same("held(0)", teller.held(0), 0);
        check.end();
    }
}
